/-! PURE, the class: a code of two -/
theorem ku_dec {M N : Nat} (h : M = N + 1) (hM : M < 100000) : jl_add (M : Int) (-1) = (N : Int) := by
  have e : (M : Int) + -1 = (N : Int) := by omega
  have h1 : (-2147483648 : Int) ≤ (M : Int) + -1 := by rw [e]; omega
  have h2 : (M : Int) + -1 < 2147483648 := by rw [e]; omega
  rw [jp_add h1 h2, e]
theorem ku_pred {M N : Nat} (h : M = N + 1) (hM : M < 100000) : jl_sub (M : Int) 1 = (N : Int) := by
  have e : (M : Int) - 1 = (N : Int) := by omega
  have h1 : (-2147483648 : Int) ≤ (M : Int) - 1 := by rw [e]; omega
  have h2 : (M : Int) - 1 < 2147483648 := by rw [e]; omega
  rw [jp_sub h1 h2, e]
theorem ku_inR {n N : Nat} (h : n < N) : 0 ≤ (n : Int) ∧ (n : Int) < ((N : Nat) : Int) := ⟨Int.natCast_nonneg _, Int.ofNat_lt.mpr h⟩
def kv_x2 (x : Int) : Prop := 24 ≤ x ∧ x ≠ 28 ∧ x ≠ 24 ∧ x ≠ 25
theorem kc_stT {q1 q2 w k to m M N n : Nat} {u x v : Int} {s : jl_Mm} (hw : w < 3) (hk : k < to) (hto : to ≤ 1608) (hM : M = N + 1) (hN : N = m + 1) (hm : M ≤ 128) (h3 : jl_g s (q2 + 3) w = (to : Int)) (hc : jl_g s (q2 + 1) k = u) (hx : jl_xor u (-1) = x) (x24 : kv_x2 x) (hv : jf_X5_ofTwo x (jl_g s 191 m) (jl_g s 191 N) s = some (v, s)) : jf_X5_run_L11 (n + 1) q1 q2 (w : Int) (M : Int) (k : Int) s = jf_X5_run_L11 n q1 q2 (w : Int) (N : Int) ((k + 1 : Nat) : Int) (jl_up s 191 m v) := by
  have rm : 0 ≤ (m : Int) ∧ (m : Int) < ((128 : Nat) : Int) := ku_inR (by omega)
  have rN : 0 ≤ (N : Int) ∧ (N : Int) < ((128 : Nat) : Int) := ku_inR (by omega)
  have rM : ¬ (M : Int) ≤ 1 := by omega
  have rk : ¬ (to : Int) ≤ (k : Int) := by omega
  have rk2 : 0 ≤ (k : Int) ∧ (k : Int) < ((1608 : Nat) : Int) := ku_inR (by omega)
  have M5 : M < 100000 := by omega
  have N5 : N < 100000 := by omega
  have ek : jl_add (k : Int) 1 = ((k + 1 : Nat) : Int) := jp_add (by omega) (by omega)
  have em := ku_dec hM M5
  have en := ku_pred hN N5
  rw [jf_X5_run_L11, if_pos (ku_inR hw), Int.toNat_natCast, Int.toNat_natCast, h3, if_neg rk, if_pos rk2, hc, jp_let, jp_let, hx, if_pos x24.1, if_neg x24.2.1, if_neg x24.2.2.1, if_neg x24.2.2.2, if_neg rM, em, en, if_pos rm, if_pos rN, Int.toNat_natCast, Int.toNat_natCast, hv, jp_bd, if_pos rm, jp_lm, jf_X5_run_B175, ek]
