/-! PURE, both: the letters of a name -/
theorem ku_and31 {v : Int} (h0 : 0 ≤ v) (h1 : v < 2147483648) : jl_and v 31 = v % 32 := by
  obtain ⟨n, rfl⟩ : ∃ n : Nat, v = (n : Int) := ⟨v.toNat, by omega⟩
  have e1 : (jl_i3 (n : Int)).toBitVec.toNat = n := by
    have : (jl_i3 (n : Int)).toBitVec.toInt = (n : Int) := jl_to_i3 ⟨by omega, h1⟩
    have h2 := BitVec.toInt_eq_toNat_bmod (jl_i3 (n : Int)).toBitVec
    have h3 : (jl_i3 (n : Int)).toBitVec.toNat < 2 ^ 32 := (jl_i3 (n : Int)).toBitVec.isLt
    rw [this] at h2
    rw [Int.bmod_def] at h2
    split at h2 <;> omega
  have e2 : (jl_i3 31).toBitVec.toNat = 2 ^ 5 - 1 := by decide +kernel
  have e3 : (jl_i3 (n : Int) &&& jl_i3 31).toBitVec.toNat = n % 32 := by
    rw [Int32.toBitVec_and, BitVec.toNat_and, e1, e2, Nat.and_two_pow_sub_one_eq_mod]
  rw [jl_and]
  have e4 : (jl_i3 (n : Int) &&& jl_i3 31).toInt = ((jl_i3 (n : Int) &&& jl_i3 31).toBitVec.toNat : Int) := BitVec.toInt_eq_toNat_of_lt (by omega)
  rw [e4, e3]; omega
def kp_lt : List Int → Nat → Int
  | [], _ => 0
  | c :: _, 0 => c - 96
  | _ :: u, i + 1 => kp_lt u i
theorem kp_lt_o : ∀ (u : List Int) (i : Nat), u.length ≤ i → kp_lt u i = 0
  | [], _, _ => rfl
  | _ :: u, 0, h => by simp at h
  | _ :: u, i + 1, h => kp_lt_o u i (by simpa using h)
theorem kp_lt_i : ∀ (u : List Int) (i : Nat) (h : i < u.length), kp_lt u i = u[i] - 96
  | [], _, h => by simp at h
  | _ :: _, 0, _ => rfl
  | _ :: u, i + 1, h => by rw [kp_lt, kp_lt_i u i (by simpa using h)]; rfl
theorem ku_m5 : ∀ i, i < 6 → jl_mul 5 (jl_sub 5 ((i : Nat) : Int)) = ((5 * (5 - i) : Nat) : Int) := by decide +kernel
theorem jz_cf_d : ∀ (n : Nat) (u : List Int) (v : Int) (i : Nat), (∀ c ∈ u, jq_lt c) → u.length ≤ n → i < n → 0 ≤ v → jz_cf n u v / 2 ^ (5 * (n - 1 - i)) % 32 = kp_lt u i := by
  have hd : ∀ (n : Nat) (u : List Int) (v : Int), (∀ c ∈ u, jq_lt c) → u.length ≤ n → 0 ≤ v → jz_cf n u v / 2 ^ (5 * n) = v := by
    intro n
    induction n with
    | zero => intro u v _ _ _; rw [jz_cf]; simp
    | succ n ih =>
      intro u v hu hl hv
      have h32 : (2 : Int) ^ (5 * (n + 1)) = 2 ^ (5 * n) * 32 := by rw [show 5 * (n + 1) = 5 * n + 5 by omega, Int.pow_add]; rfl
      have hp : (0 : Int) < 2 ^ (5 * n) := Int.pow_pos (by decide)
      cases u with
      | nil =>
        rw [jz_cf, h32, ← Int.ediv_ediv_of_nonneg (by omega), ih [] (32 * v) (by simp) (by simp) (by omega)]; omega
      | cons c u =>
        have hc : 97 ≤ c ∧ c ≤ 122 := hu c (by simp)
        rw [jz_cf, h32, ← Int.ediv_ediv_of_nonneg (by omega), ih u (32 * v + (c - 96)) (fun x hx => hu x (by simp [hx])) (by simpa using hl) (by omega)]; omega
  intro n
  induction n with
  | zero => intro u v i _ _ h; omega
  | succ n ih =>
    intro u v i hu hl hi hv
    cases i with
    | zero =>
      rw [show n + 1 - 1 - 0 = n by omega]
      cases u with
      | nil => rw [jz_cf, hd n [] (32 * v) (by simp) (by simp) (by omega), kp_lt]; omega
      | cons c u =>
        have hc : 97 ≤ c ∧ c ≤ 122 := hu c (by simp)
        rw [jz_cf, hd n u (32 * v + (c - 96)) (fun x hx => hu x (by simp [hx])) (by simpa using hl) (by omega), kp_lt]; omega
    | succ i =>
      rw [show n + 1 - 1 - (i + 1) = n - 1 - i by omega]
      cases u with
      | nil => rw [jz_cf, ih [] (32 * v) i (by simp) (by simp) (by omega) (by omega)]; rfl
      | cons c u =>
        have hc : 97 ≤ c ∧ c ≤ 122 := hu c (by simp)
        rw [jz_cf, ih u (32 * v + (c - 96)) i (fun x hx => hu x (by simp [hx])) (by simpa using hl) (by omega) (by omega)]; rfl
theorem kc_letterOf {u : List Int} {i : Nat} {s : jl_Mm} (hu : jz_vn u) (hi : i < 6) : jf_X11_letterOf (jz_cn u) (i : Int) s = some (kp_lt u i, s) := by
  have hn := jz_cn_n hu
  have h0 := (jz_cf_b 6 u 0 hu.2.2 (Int.le_refl _)).1
  have h0' : 0 ≤ jz_cn u := h0
  have e : jl_shr (jz_cn u) ((5 * (5 - i) : Nat) : Int) = jz_cn u / 2 ^ (5 * (5 - i)) := ku_shr hn (by omega)
  have hp : (0 : Int) < 2 ^ (5 * (5 - i)) := Int.pow_pos (by decide)
  have hq : 0 ≤ jz_cn u / 2 ^ (5 * (5 - i)) := Int.ediv_nonneg h0' (by omega)
  have hq2 : jz_cn u / 2 ^ (5 * (5 - i)) ≤ jz_cn u := Int.ediv_le_self _ h0'
  have hn2 := hn.2
  rw [jf_X11_letterOf, ku_m5 i hi, e, ku_and31 hq (by omega), jz_cn, jz_cf_d 6 u 0 i hu.2.2 hu.2.1 hi (Int.le_refl _)]
