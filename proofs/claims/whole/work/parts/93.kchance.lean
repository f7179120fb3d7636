/-! PURE, both: draws, chance -/
theorem ku_divG {a b : Int} (ha : 0 ≤ a ∧ a < 2147483648) (hb : 0 < b ∧ b < 2147483648) : jl_div a b = a / b ∧ jl_rem a b = a % b := by
  have n1 : jl_n3 a := ⟨by omega, by omega⟩
  have n2 : jl_n3 b := ⟨by omega, by omega⟩
  have et : a.tdiv b = a / b := Int.tdiv_eq_ediv_of_nonneg ha.1
  have q0 : 0 ≤ a / b := Int.ediv_nonneg ha.1 (by omega)
  have q1 : a / b ≤ a := Int.ediv_le_self _ ha.1
  have r0 : 0 ≤ a % b := Int.emod_nonneg _ (by omega)
  have r1 : a % b < b := Int.emod_lt_of_pos _ hb.1
  have dm : a - a / b * b = a % b := by have := Int.emod_add_mul_ediv a b; rw [Int.mul_comm b] at this; omega
  have e1 : jl_div a b = a / b := by
    rw [jl_div, Int32.toInt_div, jl_to_i3 n1, jl_to_i3 n2, et]
    exact Int.bmod_eq_of_le (by omega) (by omega)
  have e : jl_i3 a / jl_i3 b = jl_i3 (a / b) := by
    apply Int32.toInt_inj.mp
    rw [jl_to_i3 (⟨by omega, by omega⟩ : jl_n3 (a / b))]
    exact e1
  have e2 : jl_i3 (a / b) * jl_i3 b = jl_i3 (a / b * b) := (Int32.ofInt_mul _ _).symm
  refine ⟨e1, ?_⟩
  rw [jl_rem, e, e2, show jl_i3 a - jl_i3 (a / b * b) = jl_i3 (a - a / b * b) from (Int32.ofInt_sub _ _).symm, dm, show (jl_i3 (a % b)).toInt = a % b from jl_to_i3 ⟨by omega, by omega⟩]
theorem ku_ldivG {a b : Int} (ha : 0 ≤ a ∧ a < 4611686018427387904) (hb : 0 < b ∧ b < 4611686018427387904) : jl_ldiv a b = a / b ∧ jl_lrem a b = a % b := by
  have n1 : jl_n6 a := ⟨by omega, by omega⟩
  have n2 : jl_n6 b := ⟨by omega, by omega⟩
  have et : a.tdiv b = a / b := Int.tdiv_eq_ediv_of_nonneg ha.1
  have q0 : 0 ≤ a / b := Int.ediv_nonneg ha.1 (by omega)
  have q1 : a / b ≤ a := Int.ediv_le_self _ ha.1
  have r0 : 0 ≤ a % b := Int.emod_nonneg _ (by omega)
  have r1 : a % b < b := Int.emod_lt_of_pos _ hb.1
  have dm : a - a / b * b = a % b := by have := Int.emod_add_mul_ediv a b; rw [Int.mul_comm b] at this; omega
  have e1 : jl_ldiv a b = a / b := by
    rw [jl_ldiv, Int64.toInt_div, jl_to_i6 n1, jl_to_i6 n2, et]
    exact Int.bmod_eq_of_le (by omega) (by omega)
  have e : jl_i6 a / jl_i6 b = jl_i6 (a / b) := by
    apply Int64.toInt_inj.mp
    rw [jl_to_i6 (⟨by omega, by omega⟩ : jl_n6 (a / b))]
    exact e1
  have e2 : jl_i6 (a / b) * jl_i6 b = jl_i6 (a / b * b) := (Int64.ofInt_mul _ _).symm
  refine ⟨e1, ?_⟩
  rw [jl_lrem, e, e2, show jl_i6 a - jl_i6 (a / b * b) = jl_i6 (a - a / b * b) from (Int64.ofInt_sub _ _).symm, dm, show (jl_i6 (a % b)).toInt = a % b from jl_to_i6 ⟨by omega, by omega⟩]
theorem ku_land31 {v : Int} (h0 : 0 ≤ v) (h1 : v < 9223372036854775808) : jl_land v 2147483647 = v % 2147483648 := by
  obtain ⟨n, rfl⟩ : ∃ n : Nat, v = (n : Int) := ⟨v.toNat, by omega⟩
  have e1 : (jl_i6 (n : Int)).toBitVec.toNat = n := by
    have : (jl_i6 (n : Int)).toBitVec.toInt = (n : Int) := jl_to_i6 ⟨by omega, h1⟩
    have h2 := BitVec.toInt_eq_toNat_bmod (jl_i6 (n : Int)).toBitVec
    have h3 : (jl_i6 (n : Int)).toBitVec.toNat < 2 ^ 64 := (jl_i6 (n : Int)).toBitVec.isLt
    rw [this] at h2
    rw [Int.bmod_def] at h2
    split at h2 <;> omega
  have e2 : (jl_i6 2147483647).toBitVec.toNat = 2 ^ 31 - 1 := by decide +kernel
  have e3 : (jl_i6 (n : Int) &&& jl_i6 2147483647).toBitVec.toNat = n % 2 ^ 31 := by
    rw [Int64.toBitVec_and, BitVec.toNat_and, e1, e2, Nat.and_two_pow_sub_one_eq_mod]
  rw [jl_land]
  have e4 : (jl_i6 (n : Int) &&& jl_i6 2147483647).toInt = ((jl_i6 (n : Int) &&& jl_i6 2147483647).toBitVec.toNat : Int) := BitVec.toInt_eq_toNat_of_lt (by omega)
  rw [e4, e3]; omega
def ks_next (sd : Int) : Int := (1103515245 * sd + 12345) % 2147483648
theorem ks_next_b (sd : Int) : 0 ≤ ks_next sd ∧ ks_next sd < 2147483648 := ⟨Int.emod_nonneg _ (by decide), Int.emod_lt_of_pos _ (by decide)⟩
def ks_draw (sd m : Int) : Int := ks_next sd / 64 % m
theorem ks_draw_b {sd m : Int} (h : 0 < m) : 0 ≤ ks_draw sd m ∧ ks_draw sd m < m := ⟨Int.emod_nonneg _ (by omega), Int.emod_lt_of_pos _ h⟩
theorem kc_draw {sd m : Int} {s : jl_Mm} (h : jl_g s 0 17 = sd) (hs : 0 ≤ sd ∧ sd < 2147483648) (hm : 0 < m ∧ m ≤ 100) : jf_X11_draw m s = some (ks_draw sd m, jl_up s 0 17 (ks_next sd)) := by
  have b := ks_next_b sd
  have e : jl_l2i (jl_land (jl_ladd (jl_lmul 1103515245 sd) 12345) 2147483647) = ks_next sd := by
    rw [jp_lmul (by omega) (by omega), jp_ladd (by omega) (by omega), ku_land31 (by omega) (by omega)]
    exact ku_l2i ⟨by have := b.1; show -2147483648 ≤ ks_next sd; omega, b.2⟩
  have q0 : 0 ≤ ks_next sd / 64 ∧ ks_next sd / 64 < 2147483648 := by omega
  rw [jf_X11_draw, h, e, jp_lm, if_neg (by omega), if_pos (by omega), jp_g_eq (by omega) b.2, (ku_divG b ⟨by decide, by decide⟩).1, (ku_divG q0 (by omega)).2, jf_X11_draw_B39]
  rfl
theorem kr_draw {sd m : Int} {s : jl_Mm} (h : jl_gl s 206 74 = sd) (hs : 0 ≤ sd ∧ sd < 2147483648) (hm : 0 < m ∧ m ≤ 100) : jf_X12_drawOf m s = some (ks_draw sd m, jl_up s 206 74 (ks_next sd)) := by
  have b := ks_next_b sd
  have e : jl_lrem (jl_ladd (jl_lmul 1103515245 sd) 12345) 2147483648 = ks_next sd := by
    rw [jp_lmul (by omega) (by omega), jp_ladd (by omega) (by omega), (ku_ldivG (by omega) (by omega)).2]; rfl
  have q := ks_draw_b (sd := sd) hm.1
  have e2 : jl_lrem (ks_next sd / 64) m = ks_draw sd m := (ku_ldivG (by omega) (by omega)).2
  rw [jf_X12_drawOf, h, e, jp_lm, if_pos (by omega), jp_gl_eq (by omega) (by omega), (ku_ldivG (by omega) (by omega)).1, e2, ku_l2i ⟨by omega, by omega⟩]
