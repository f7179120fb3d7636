/-! PURE: a window where nobody lives shows none -/
theorem ks_hrs_in0 {Z : jz_Z} {b : Nat → Int} {w : Int} (hZ : kz_V Z) (h : ∀ p, p < ks_np Z → b (2 + p) ≠ w) : ks_in Z b w = 0 := by
  have key : ∀ n, n ≤ ks_nl Z → ku_n (ks_inP Z b w) n = 0 := by
    intro n
    induction n with
    | zero => intro _; rfl
    | succ n ih =>
      intro hn
      have ho := hZ.o (l := n) (by omega)
      rw [ku_nF ?_, ih (by omega)]
      exact decide_eq_false (fun q => h (ks_ow Z n) ho.2.1 q.2)
  exact key _ (Nat.le_refl _)
