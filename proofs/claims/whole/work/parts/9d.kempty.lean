/-! PURE: a window where nobody lives shows none -/
theorem ks_hrs_in0 {Z : jz_Z} {b : Nat → Int} {w : Int} (hZ : kz_V Z) (h : ∀ p, p < ks_np Z → b (2 + p) ≠ w) : ks_in Z b w = 0 := by
  have key : ∀ n, n ≤ ks_nl Z → ku_n (ks_inP Z b w) n = 0 := by
    intro n
    induction n with
    | zero => intro _; rfl
    | succ n ih =>
      intro hn
      have ho := hZ.o (l := n) (by omega)
      rw [ku_nF ?_, ih (by omega)]
      exact decide_eq_false (fun q => h (ks_ow Z n) ho.2.1 q.2)
  exact key _ (Nat.le_refl _)
theorem kt_mst_0 {Z : jz_Z} {Ds : Nat → List Int} {a : Nat → Int} {d : kD} {m l h : Nat} {w : Int} : ∀ i, (∀ j, j < i → kt_way Z Ds a l h w j = 0) → kt_tal Z Ds a d m l h w 0 i = kt_cnt Z Ds a d m l i ∧ kt_mst Z Ds a d m l h w i = kt_cnt Z Ds a d m l i
  | 0, _ => ⟨rfl, rfl⟩
  | i + 1, hj => by
    obtain ⟨p, q⟩ := kt_mst_0 (Z := Z) (Ds := Ds) (a := a) (d := d) (m := m) (l := l) (h := h) (w := w) i (fun j h => hj j (by omega))
    have e := hj i (by omega)
    rw [kt_mst, e, kt_tal_S, kt_cnt_S]
    by_cases c : kt_fit Z Ds a d m l (i + 1) = true
    · rw [if_pos c, if_pos ⟨c, e⟩, if_pos c, p, q, if_neg (by omega)]; exact ⟨rfl, rfl⟩
    · rw [if_neg c, if_neg (fun z => c z.1), if_neg c]; exact ⟨p, q⟩
theorem kt_way_0 {Z : jz_Z} {Ds : Nat → List Int} {a : Nat → Int} {l h j : Nat} {w : Int} (hZ : kz_V Z) (hV : kz_N Z Ds a) (hl : l < ks_nl Z) (hj : j < 99) (hh : h ≤ 30) (hw : ∀ p, p < ks_np Z → a (2 + p) ≠ w) : kt_way Z Ds a l h w j = 0 := by
  have h6 := hZ.p
  have h9 := hV.2.2.1
  have e0 : ks_u a (8 + l) ((j + 1 : Nat) : Int) 0 = a 0 := ks_un (by omega)
  have hv := (ks_hrs_V (Ds := Ds) hZ (hV.1.u8 (l := l) (v := ((j + 1 : Nat) : Int)) hZ hl (by omega)) h (by omega)).2.2.2
  refine ks_hrs_in0 hZ (fun p hp => ?_)
  rw [hv p (by omega), ks_un (by omega)]
  exact hw p hp
