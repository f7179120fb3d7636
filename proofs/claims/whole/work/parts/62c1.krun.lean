/-! PURE, the class: a code that puts one on the stack -/
theorem kc_stP {q1 q2 w k to m n : Nat} {u x v : Int} {s : jl_Mm} (hw : w < 3) (hk : k < to) (hto : to ≤ 1608) (hm : m < 128) (h3 : jl_g s (q2 + 3) w = (to : Int)) (hc : jl_g s (q2 + 1) k = u) (hx : jl_xor u (-1) = x) (x24 : x < 24) (hv : (0 ≤ u ∧ v = u) ∨ (u < 0 ∧ 0 ≤ x ∧ jl_g s 192 x.toNat = v)) : jf_X5_run_L11 (n + 1) q1 q2 (w : Int) (m : Int) (k : Int) s = jf_X5_run_L11 n q1 q2 (w : Int) ((m + 1 : Nat) : Int) ((k + 1 : Nat) : Int) (jl_up s 191 m v) := by
  have ek : jl_add (k : Int) 1 = ((k + 1 : Nat) : Int) := jp_add (by omega) (by omega)
  have em : jl_add (m : Int) 1 = ((m + 1 : Nat) : Int) := jp_add (by omega) (by omega)
  rw [jf_X5_run_L11, if_pos (by omega), Int.toNat_natCast, Int.toNat_natCast, h3, if_neg (by omega), if_pos (by omega), hc, jp_let, jp_let, hx, if_neg (by omega), if_neg (by omega), em]
  rcases hv with ⟨h1, rfl⟩ | ⟨h1, h2, rfl⟩
  · rw [if_neg (by omega), jf_X5_run_B78, if_pos (by omega), jp_lm, jf_X5_run_B175, ek, Int.toNat_natCast]
  · rw [if_pos h1, if_pos (by omega), jf_X5_run_B78, if_pos (by omega), jp_lm, jf_X5_run_B175, ek, Int.toNat_natCast]
