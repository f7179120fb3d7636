/-! PURE, the class: a code of one -/
theorem kc_stO {q1 q2 w k to m n : Nat} {u x v : Int} {s : jl_Mm} (hw : w < 3) (hk : k < to) (hto : to ≤ 1608) (hm : m < 128) (h3 : jl_g s (q2 + 3) w = (to : Int)) (hc : jl_g s (q2 + 1) k = u) (hx : jl_xor u (-1) = x) (x24 : x = 24 ∨ x = 25 ∨ x = 28) (hv : jf_X5_ofOne q1 x (jl_g s 191 m) s = some (v, s)) : jf_X5_run_L11 (n + 1) q1 q2 (w : Int) ((m + 1 : Nat) : Int) (k : Int) s = jf_X5_run_L11 n q1 q2 (w : Int) ((m + 1 : Nat) : Int) ((k + 1 : Nat) : Int) (jl_up s 191 m v) := by
  have ek : jl_add (k : Int) 1 = ((k + 1 : Nat) : Int) := jp_add (by omega) (by omega)
  have em : jl_sub ((m + 1 : Nat) : Int) 1 = (m : Int) := by rw [jp_sub (by omega) (by omega)]; omega
  have fin : jf_X5_run_B103 (jf_X5_run_L11 n) q1 q2 (w : Int) ((m + 1 : Nat) : Int) (k : Int) x s = jf_X5_run_L11 n q1 q2 (w : Int) ((m + 1 : Nat) : Int) ((k + 1 : Nat) : Int) (jl_up s 191 m v) := by
    rw [jf_X5_run_B103, if_neg (by omega), em, if_pos (by omega), Int.toNat_natCast, hv, jp_bd, if_pos (by omega), jp_lm, jf_X5_run_B175, ek]
  rw [jf_X5_run_L11, if_pos (by omega), Int.toNat_natCast, Int.toNat_natCast, h3, if_neg (by omega), if_pos (by omega), hc, jp_let, jp_let, hx, if_pos (by omega)]
  by_cases z : x = 28
  · rw [if_pos z]; exact fin
  · rw [if_neg z]
    by_cases y : x = 24
    · rw [if_pos y]; exact fin
    · rw [if_neg y, if_pos (by omega)]; exact fin
