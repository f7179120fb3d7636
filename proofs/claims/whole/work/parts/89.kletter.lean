/-! PURE, both: the letters of a name -/
theorem ku_and31 {v : Int} (h0 : 0 ≤ v) (h1 : v < 2147483648) : jl_and v 31 = v % 32 := by
  obtain ⟨n, rfl⟩ : ∃ n : Nat, v = (n : Int) := ⟨v.toNat, by omega⟩
  have e1 : (jl_i3 (n : Int)).toBitVec.toNat = n := by
    have : (jl_i3 (n : Int)).toBitVec.toInt = (n : Int) := jl_to_i3 ⟨by omega, h1⟩
    have h2 := BitVec.toInt_eq_toNat_bmod (jl_i3 (n : Int)).toBitVec
    have h3 : (jl_i3 (n : Int)).toBitVec.toNat < 2 ^ 32 := (jl_i3 (n : Int)).toBitVec.isLt
    rw [this] at h2
    rw [Int.bmod_def] at h2
    split at h2 <;> omega
  have e2 : (jl_i3 31).toBitVec.toNat = 2 ^ 5 - 1 := by decide +kernel
  have e3 : (jl_i3 (n : Int) &&& jl_i3 31).toBitVec.toNat = n % 32 := by
    rw [Int32.toBitVec_and, BitVec.toNat_and, e1, e2, Nat.and_two_pow_sub_one_eq_mod]
  rw [jl_and]
  have e4 : (jl_i3 (n : Int) &&& jl_i3 31).toInt = ((jl_i3 (n : Int) &&& jl_i3 31).toBitVec.toNat : Int) := BitVec.toInt_eq_toNat_of_lt (by omega)
  rw [e4, e3]; omega
def kp_lt : List Int → Nat → Int
  | [], _ => 0
  | c :: _, 0 => c - 96
  | _ :: u, i + 1 => kp_lt u i
theorem kp_lt_o : ∀ (u : List Int) (i : Nat), u.length ≤ i → kp_lt u i = 0
  | [], _, _ => rfl
  | _ :: u, 0, h => by simp at h
  | _ :: u, i + 1, h => kp_lt_o u i (by simpa using h)
theorem kp_lt_i : ∀ (u : List Int) (i : Nat) (h : i < u.length), kp_lt u i = u[i] - 96
  | [], _, h => by simp at h
  | _ :: _, 0, _ => rfl
  | _ :: u, i + 1, h => by rw [kp_lt, kp_lt_i u i (by simpa using h)]; rfl
theorem ku_m5 : ∀ i, i < 6 → jl_mul 5 (jl_sub 5 ((i : Nat) : Int)) = ((5 * (5 - i) : Nat) : Int) := by decide +kernel
theorem jz_cf_d : ∀ (n : Nat) (u : List Int) (v : Int) (i : Nat), (∀ c ∈ u, jq_lt c) → u.length ≤ n → i < n → 0 ≤ v → jz_cf n u v / 2 ^ (5 * (n - 1 - i)) % 32 = kp_lt u i := by
  have hd : ∀ (n : Nat) (u : List Int) (v : Int), (∀ c ∈ u, jq_lt c) → u.length ≤ n → 0 ≤ v → jz_cf n u v / 2 ^ (5 * n) = v := by
    intro n
    induction n with
    | zero => intro u v _ _ _; rw [jz_cf]; simp
    | succ n ih =>
      intro u v hu hl hv
      have h32 : (2 : Int) ^ (5 * (n + 1)) = 2 ^ (5 * n) * 32 := by rw [show 5 * (n + 1) = 5 * n + 5 by omega, Int.pow_add]; rfl
      have hp : (0 : Int) < 2 ^ (5 * n) := Int.pow_pos (by decide)
      cases u with
      | nil =>
        rw [jz_cf, h32, ← Int.ediv_ediv_of_nonneg (by omega), ih [] (32 * v) (by simp) (by simp) (by omega)]; omega
      | cons c u =>
        have hc : 97 ≤ c ∧ c ≤ 122 := hu c (by simp)
        rw [jz_cf, h32, ← Int.ediv_ediv_of_nonneg (by omega), ih u (32 * v + (c - 96)) (fun x hx => hu x (by simp [hx])) (by simpa using hl) (by omega)]; omega
  intro n
  induction n with
  | zero => intro u v i _ _ h; omega
  | succ n ih =>
    intro u v i hu hl hi hv
    cases i with
    | zero =>
      rw [show n + 1 - 1 - 0 = n by omega]
      cases u with
      | nil => rw [jz_cf, hd n [] (32 * v) (by simp) (by simp) (by omega), kp_lt]; omega
      | cons c u =>
        have hc : 97 ≤ c ∧ c ≤ 122 := hu c (by simp)
        rw [jz_cf, hd n u (32 * v + (c - 96)) (fun x hx => hu x (by simp [hx])) (by simpa using hl) (by omega), kp_lt]; omega
    | succ i =>
      rw [show n + 1 - 1 - (i + 1) = n - 1 - i by omega]
      cases u with
      | nil => rw [jz_cf, ih [] (32 * v) i (by simp) (by simp) (by omega) (by omega)]; rfl
      | cons c u =>
        have hc : 97 ≤ c ∧ c ≤ 122 := hu c (by simp)
        rw [jz_cf, ih u (32 * v + (c - 96)) i (fun x hx => hu x (by simp [hx])) (by simpa using hl) (by omega) (by omega)]; rfl
theorem kc_letterOf {u : List Int} {i : Nat} {s : jl_Mm} (hu : jz_vn u) (hi : i < 6) : jf_X11_letterOf (jz_cn u) (i : Int) s = some (kp_lt u i, s) := by
  have hn := jz_cn_n hu
  have h0 := (jz_cf_b 6 u 0 hu.2.2 (Int.le_refl _)).1
  have h0' : 0 ≤ jz_cn u := h0
  have e : jl_shr (jz_cn u) ((5 * (5 - i) : Nat) : Int) = jz_cn u / 2 ^ (5 * (5 - i)) := ku_shr hn (by omega)
  have hp : (0 : Int) < 2 ^ (5 * (5 - i)) := Int.pow_pos (by decide)
  have hq : 0 ≤ jz_cn u / 2 ^ (5 * (5 - i)) := Int.ediv_nonneg h0' (by omega)
  have hq2 : jz_cn u / 2 ^ (5 * (5 - i)) ≤ jz_cn u := Int.ediv_le_self _ h0'
  have hn2 := hn.2
  rw [jf_X11_letterOf, ku_m5 i hi, e, ku_and31 hq (by omega), jz_cn, jz_cf_d 6 u 0 i hu.2.2 hu.2.1 hi (Int.le_refl _)]
theorem ku_ldiv27 {a : Int} (h0 : 0 ≤ a) (h1 : a < 2147483648) : jl_ldiv a 27 = a / 27 ∧ jl_l2i (jl_lrem a 27) = a % 27 := by
  have ha : jl_n6 a := ⟨by omega, by omega⟩
  have hb : jl_n6 27 := ⟨by decide, by decide⟩
  have et : a.tdiv 27 = a / 27 := Int.tdiv_eq_ediv_of_nonneg h0
  have e1 : jl_ldiv a 27 = a / 27 := by
    rw [jl_ldiv, Int64.toInt_div, jl_to_i6 ha, jl_to_i6 hb, et]
    exact Int.bmod_eq_of_le (by omega) (by omega)
  have e : jl_i6 a / jl_i6 27 = jl_i6 (a / 27) := by
    apply Int64.toInt_inj.mp
    rw [jl_to_i6 (⟨by omega, by omega⟩ : jl_n6 (a / 27))]
    exact e1
  have e2 : jl_i6 (a / 27) * jl_i6 27 = jl_i6 (a / 27 * 27) := (Int64.ofInt_mul _ _).symm
  refine ⟨e1, ?_⟩
  have hr : jl_lrem a 27 = a % 27 := by
    rw [jl_lrem, e, e2, show jl_i6 a - jl_i6 (a / 27 * 27) = jl_i6 (a - a / 27 * 27) from (Int64.ofInt_sub _ _).symm, show (jl_i6 (a - a / 27 * 27)).toInt = _ from jl_to_i6 ⟨by omega, by omega⟩]
    omega
  rw [hr, ku_l2i ⟨by omega, by omega⟩]
theorem jh_V {u : List Int} {k : Nat} (h : k < u.length) : jh_cn (u.take (k + 1)) = 27 * jh_cn (u.take k) + (u[k] - 96) := by
  rw [List.take_succ_eq_append_getElem h, jh_cn, jh_cf_app]; rfl
theorem jh_Vb {u : List Int} (hu : jz_vn u) (k : Nat) : 0 ≤ jh_cn (u.take k) ∧ jh_cn (u.take k) < 387420489 := by
  by_cases c : u.take k = []
  · rw [c]; exact ⟨by decide, by decide⟩
  · refine jh_cn_n ⟨?_, ?_, fun x hx => hu.2.2 x (List.mem_of_mem_take hx)⟩
    · exact List.length_pos_iff.mpr c
    · rw [List.length_take]; have := hu.2.1; omega
theorem jh_Vd {u : List Int} (hu : jz_vn u) {k : Nat} (h : k < u.length) : jh_cn (u.take (k + 1)) / 27 = jh_cn (u.take k) ∧ jh_cn (u.take (k + 1)) % 27 = kp_lt u k ∧ 0 < jh_cn (u.take (k + 1)) := by
  have hc : 97 ≤ u[k] ∧ u[k] ≤ 122 := hu.2.2 _ (List.getElem_mem h)
  have hb := jh_Vb hu k
  rw [jh_V h, kp_lt_i u k h]
  omega
theorem kr_letL {u : List Int} {i : Nat} {s : jl_Mm} (hu : jz_vn u) (hi : i < u.length) : jf_X12_letter_L103 jl_fu (i : Int) (jh_cn u) (jl_sub ((u.length : Nat) : Int) 1) s = some (kp_lt u i, s) := by
  have h6 := hu.2.1
  rw [ku_pred (N := u.length - 1) (by omega) (by omega), show jh_cn u = jh_cn (u.take (u.length - 0)) by rw [Nat.sub_zero, List.take_length]]
  refine ku_forU (G := fun n m => jf_X12_letter_L103 n (i : Int) (jh_cn (u.take (u.length - m))) ((u.length - 1 - m : Nat) : Int) s) (N := u.length - 1 - i) (fun n m hm => ?_) (fun n => ?_) (u.length - 1 - i) 0 jl_fu (Nat.zero_add _) (by show u.length - 1 - i < 4000; omega)
  · have eM : u.length - m = (u.length - (m + 1)) + 1 := by omega
    have hv := jh_Vd hu (k := u.length - (m + 1)) (by omega)
    have hb := jh_Vb hu (u.length - (m + 1) + 1)
    have ed : jl_add ((u.length - 1 - m : Nat) : Int) (-1) = ((u.length - 1 - (m + 1) : Nat) : Int) := ku_dec (by omega) (by omega)
    show jf_X12_letter_L103 (n + 1) (i : Int) (jh_cn (u.take (u.length - m))) ((u.length - 1 - m : Nat) : Int) s = jf_X12_letter_L103 n (i : Int) (jh_cn (u.take (u.length - (m + 1)))) ((u.length - 1 - (m + 1) : Nat) : Int) s
    rw [jf_X12_letter_L103, if_neg (by omega), ed, eM, (ku_ldiv27 hb.1 (by omega)).1, hv.1, jp_let]
  · have eM : u.length - (u.length - 1 - i) = i + 1 := by omega
    have hb := jh_Vb hu (i + 1)
    show jf_X12_letter_L103 (n + 1) (i : Int) (jh_cn (u.take (u.length - (u.length - 1 - i)))) ((u.length - 1 - (u.length - 1 - i) : Nat) : Int) s = _
    rw [jf_X12_letter_L103, if_pos (by omega), eM, (ku_ldiv27 hb.1 (by omega)).2, (jh_Vd hu hi).2.1]
theorem kr_letN {u : List Int} {i : Nat} {s : jl_Mm} (hu : jz_vn u) : jf_X12_letter_L68 jl_fu (i : Int) (jh_cn u) 0 (jh_cn u) s = some (kp_lt u i, s) := by
  have h6 := hu.2.1
  have n0 : jl_n6 0 := ⟨by decide, by decide⟩
  have key : jf_X12_letter_L68 jl_fu (i : Int) (jh_cn u) ((0 : Nat) : Int) (jh_cn (u.take (u.length - 0))) s = some (kp_lt u i, s) := by
    refine ku_forU (G := fun n m => jf_X12_letter_L68 n (i : Int) (jh_cn u) ((m : Nat) : Int) (jh_cn (u.take (u.length - m))) s) (N := u.length) (fun n m hm => ?_) (fun n => ?_) u.length 0 jl_fu (Nat.zero_add _) (by show u.length < 4000; omega)
    · have eM : u.length - m = (u.length - (m + 1)) + 1 := by omega
      have hv := jh_Vd hu (k := u.length - (m + 1)) (by omega)
      have hb := jh_Vb hu (u.length - (m + 1) + 1)
      have lc := kr_lt (a := jh_cn (u.take (u.length - (m + 1) + 1))) (b := 0) ⟨by omega, by omega⟩ n0
      show jf_X12_letter_L68 (n + 1) (i : Int) (jh_cn u) ((m : Nat) : Int) (jh_cn (u.take (u.length - m))) s = jf_X12_letter_L68 n (i : Int) (jh_cn u) ((m + 1 : Nat) : Int) (jh_cn (u.take (u.length - (m + 1)))) s
      rw [jf_X12_letter_L68, eM, if_neg (fun q => lc.2.1.mp q hv.2.2), (ku_ldiv27 hb.1 (by omega)).1, hv.1, jp_let, jp_add (by omega) (by omega), ku_s]
    · show jf_X12_letter_L68 (n + 1) (i : Int) (jh_cn u) ((u.length : Nat) : Int) (jh_cn (u.take (u.length - u.length))) s = _
      have z : jh_cn (u.take (u.length - u.length)) = 0 := by rw [Nat.sub_self]; rfl
      have lc := kr_lt (a := 0) (b := 0) n0 n0
      rw [jf_X12_letter_L68, z, if_pos (lc.2.1.mpr (by decide))]
      by_cases c : i < u.length
      · rw [if_pos (by omega), jp_let]
        exact kr_letL hu c
      · rw [if_neg (by omega), kp_lt_o u i (by omega)]
  rw [Nat.sub_zero, List.take_length] at key
  exact key
def kp_letter (Z : jz_Z) (v w k : Int) : Int := if (0 ≤ k ∧ k ≤ 5) ∧ ((v = 0 ∧ 0 ≤ w ∧ w < ((ks_np Z : Nat) : Int)) ∨ (v = 1 ∧ 0 ≤ w ∧ w < ((ks_nl Z : Nat) : Int))) then kp_lt (Z.2.2 (if v = 0 then 1 else 4) w.toNat) k.toNat else -1
theorem kI_letter {v w k : Int} (hv : jl_n3 v) (hw : jl_n3 w) (hk : jl_n3 k) : kI_call (jf_X11_letter v w k) (jf_X12_letter v w k) := kI_see (fun Z Ds a d nx n hV => ⟨kp_letter Z v w k, fun s hs => by
  obtain ⟨H, G, ⟨hW, hK, hA⟩, hG, -, -, hM, hP⟩ := hs
  have h6 := hW.1.p
  have h8 := hW.1.l
  have R := hW.2.2.2.2
  have z10 : jf_X11_letter_B10 s = some (-1, s) := rfl
  have z65 : ∀ t, jf_X11_letter_B65 t = some (-1, t) := fun _ => rfl
  rw [jf_X11_letter, z10, kp_letter]
  by_cases c0 : k < 0
  · rw [if_pos c0, if_neg (fun q => by omega)]; exact jE.ret trivial
  rw [if_neg c0]
  by_cases c6 : k < 6
  · obtain ⟨i, rfl⟩ : ∃ i : Nat, k = (i : Int) := ⟨k.toNat, by omega⟩
    rw [if_pos c6, hW.isP, jp_bd, jf_X11_letter_B38, hW.isL, jp_bd, z65]
    by_cases v0 : v = 0
    · rw [if_pos v0]
      by_cases c : 0 ≤ w ∧ w < ((ks_np Z : Nat) : Int)
      · obtain ⟨p, rfl⟩ : ∃ p : Nat, w = (p : Int) := ⟨w.toNat, by omega⟩
        have r := R.2.1 p (by omega)
        rw [if_pos c, if_neg (by decide), hW.g0, hW.gr0, if_pos (by omega), Int.toNat_natCast, r.1, kc_letterOf r.2.1 (by omega), jp_bd, if_pos (show (0 ≤ (i : Int) ∧ (i : Int) ≤ 5) ∧ ((v = 0 ∧ 0 ≤ (p : Int) ∧ (p : Int) < ((ks_np Z : Nat) : Int)) ∨ (v = 1 ∧ 0 ≤ (p : Int) ∧ (p : Int) < ((ks_nl Z : Nat) : Int))) from ⟨by omega, Or.inl ⟨v0, c⟩⟩), if_pos v0]
        exact jE.ret trivial
      · rw [if_neg c, if_pos rfl, if_neg (show ¬ v = 1 by omega), if_neg (fun q => by omega)]; exact jE.ret trivial
    · rw [if_neg v0]
      by_cases v1 : v = 1
      · rw [if_pos v1]
        by_cases c : 0 ≤ w ∧ w < ((ks_nl Z : Nat) : Int)
        · obtain ⟨p, rfl⟩ : ∃ p : Nat, w = (p : Int) := ⟨w.toNat, by omega⟩
          have r := R.2.2.1 p (by omega)
          rw [if_pos c, if_neg (by decide), hW.g0, hW.gr0, if_pos (by omega), Int.toNat_natCast, r.1, kc_letterOf r.2.1 (by omega), jp_bd, if_pos (show (0 ≤ (i : Int) ∧ (i : Int) ≤ 5) ∧ ((v = 0 ∧ 0 ≤ (p : Int) ∧ (p : Int) < ((ks_np Z : Nat) : Int)) ∨ (v = 1 ∧ 0 ≤ (p : Int) ∧ (p : Int) < ((ks_nl Z : Nat) : Int))) from ⟨by omega, Or.inr ⟨v1, c⟩⟩), if_neg v0]
          exact jE.ret trivial
        · rw [if_neg c, if_pos rfl, if_neg (fun q => by omega)]; exact jE.ret trivial
      · rw [if_neg v1, if_neg (fun q => by omega)]; exact jE.ret trivial
  · rw [if_neg c6, if_neg (fun q => by omega)]; exact jE.ret trivial, fun s hs => by
  obtain ⟨hN, hM, hH, -, hn⟩ := hs
  have hW := hN.1
  have h6 := hW.1.p
  have h8 := hW.1.l
  have z43 : ∀ t, jf_X12_letter_B43 t = some (-1, t) := fun _ => rfl
  rw [jf_X12_letter, jx12_isIn s (jl_n36 hv) ⟨by decide, by decide⟩ ⟨by decide, by decide⟩, jp_bd, z43, kp_letter]
  by_cases cv : 0 ≤ v ∧ v ≤ 1
  · obtain ⟨q, hq, rfl⟩ : ∃ q : Nat, q < 2 ∧ v = (q : Int) := ⟨v.toNat, by omega, by omega⟩
    have a7 : jl_add 7 (q : Int) = ((6 + (1 + q) : Nat) : Int) := by rw [jp_add (by omega) (by omega)]; omega
    have g7 : jl_g s 241 (6 + (1 + q)) = Z.1 (1 + q + 1) := hW.2.1 (1 + q) (by omega)
    have hz : 0 ≤ Z.1 (1 + q + 1) ∧ Z.1 (1 + q + 1) ≤ 8 := by
      have hq2 : q = 0 ∨ q = 1 := by omega
      rcases hq2 with rfl | rfl
      · have := hW.1.2.1; exact ⟨this.1, by have := this.2; show Z.1 2 ≤ 8; omega⟩
      · exact hW.1.2.2.1
    rw [if_pos cv, if_neg (by decide), a7, if_pos (by omega), Int.toNat_natCast, g7, jp_sub (by omega) (by omega), jx12_isIn s (jl_n36 hw) ⟨by decide, by decide⟩ ⟨by omega, by omega⟩, jp_bd, z43]
    by_cases cw : 0 ≤ w ∧ w ≤ Z.1 (1 + q + 1) - 1
    · obtain ⟨p, rfl⟩ : ∃ p : Nat, w = (p : Int) := ⟨w.toNat, by omega⟩
      rw [if_pos cw, if_neg (by decide), jx12_isIn s (jl_n36 hk) ⟨by decide, by decide⟩ ⟨by decide, by decide⟩, jp_bd, z43]
      by_cases ck : 0 ≤ k ∧ k ≤ 5
      · obtain ⟨i, rfl⟩ : ∃ i : Nat, k = (i : Int) := ⟨k.toNat, by omega⟩
        have ap : jl_add (jl_add 16 (jl_mul 8 (q : Int))) (p : Int) = ((16 + (8 * q + p) : Nat) : Int) := by rw [jp_mul (by omega) (by omega), jp_add (a := 16) (by omega) (by omega), jp_add (by omega) (by omega)]; omega
        have e := (rfl : Z = Z)
        have hq2 : q = 0 ∨ q = 1 := by omega
        rcases hq2 with rfl | rfl
        · have r := hn.1 p (by have : Z.1 (1 + 0 + 1) = Z.1 2 := rfl; omega)
          have r1 : jl_gl s 242 (16 + (8 * 0 + p)) = jh_cn (Z.2.2 1 p) := by rw [show 16 + (8 * 0 + p) = 16 + p by omega]; exact r.1
          rw [if_pos ck, if_neg (by decide), ap, if_pos (by omega), Int.toNat_natCast, r1, jp_let, kr_letN r.2, if_pos (show (0 ≤ (i : Int) ∧ (i : Int) ≤ 5) ∧ ((((0 : Nat) : Int) = 0 ∧ 0 ≤ (p : Int) ∧ (p : Int) < ((ks_np Z : Nat) : Int)) ∨ (((0 : Nat) : Int) = 1 ∧ 0 ≤ (p : Int) ∧ (p : Int) < ((ks_nl Z : Nat) : Int))) from ⟨ck, Or.inl ⟨rfl, by omega, by have : Z.1 (1 + 0 + 1) = Z.1 2 := rfl; omega⟩⟩), if_pos (show ((0 : Nat) : Int) = 0 from rfl)]
          exact jE.ret hN
        · have r := hn.2 p (by have : Z.1 (1 + 1 + 1) = Z.1 3 := rfl; omega)
          have r1 : jl_gl s 242 (16 + (8 * 1 + p)) = jh_cn (Z.2.2 4 p) := by rw [show 16 + (8 * 1 + p) = 16 + (8 + p) by omega]; exact r.1
          rw [if_pos ck, if_neg (by decide), ap, if_pos (by omega), Int.toNat_natCast, r1, jp_let, kr_letN r.2, if_pos (show (0 ≤ (i : Int) ∧ (i : Int) ≤ 5) ∧ ((((1 : Nat) : Int) = 0 ∧ 0 ≤ (p : Int) ∧ (p : Int) < ((ks_np Z : Nat) : Int)) ∨ (((1 : Nat) : Int) = 1 ∧ 0 ≤ (p : Int) ∧ (p : Int) < ((ks_nl Z : Nat) : Int))) from ⟨ck, Or.inr ⟨rfl, by omega, by have : Z.1 (1 + 1 + 1) = Z.1 3 := rfl; omega⟩⟩), if_neg (by decide)]
          exact jE.ret hN
      · rw [if_neg ck, if_pos rfl, if_neg (fun q => ck q.1)]; exact jE.ret hN
    · have hq2 : q = 0 ∨ q = 1 := by omega
      have cw' : ¬ ((0 ≤ k ∧ k ≤ 5) ∧ (((q : Int) = 0 ∧ 0 ≤ w ∧ w < ((ks_np Z : Nat) : Int)) ∨ ((q : Int) = 1 ∧ 0 ≤ w ∧ w < ((ks_nl Z : Nat) : Int)))) := by
        rcases hq2 with rfl | rfl
        · have : Z.1 (1 + 0 + 1) = Z.1 2 := rfl; omega
        · have : Z.1 (1 + 1 + 1) = Z.1 3 := rfl; omega
      rw [if_neg cw, if_pos rfl, if_neg cw']; exact jE.ret hN
  · rw [if_neg cv, if_pos rfl, if_neg (fun q => by omega)]; exact jE.ret hN⟩)
