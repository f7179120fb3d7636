/-! PURE: counting up, sets as bits, how many of a set -/
theorem ku_forU {G : Nat → Nat → jl_O} {N : Nat} {o : jl_O} (step : ∀ n l, l < N → G (n + 1) l = G n (l + 1)) (last : ∀ n, G (n + 1) N = o) : ∀ m l n, l + m = N → m < n → G n l = o := by
  intro m
  induction m with
  | zero =>
    intro l n hl hn
    obtain ⟨n, rfl⟩ : ∃ j, n = j + 1 := ⟨n - 1, by omega⟩
    obtain rfl : l = N := by omega
    exact last n
  | succ m ih =>
    intro l n hl hn
    obtain ⟨n, rfl⟩ : ∃ j, n = j + 1 := ⟨n - 1, by omega⟩
    rw [step n l (by omega)]
    exact ih (l + 1) n (by omega) (by omega)
theorem ku_for {α : Type} {G : Nat → Nat → α → jl_O} {N : Nat} {P : jl_O → Prop} {I : Nat → α → Prop} (step : ∀ n l x, l < N → I l x → P (G (n + 1) l x) ∨ ∃ x', G (n + 1) l x = G n (l + 1) x' ∧ I (l + 1) x') (last : ∀ n x, I N x → P (G (n + 1) N x)) : ∀ m l n x, l + m = N → m < n → I l x → P (G n l x) := by
  intro m
  induction m with
  | zero =>
    intro l n x hl hn hI
    obtain ⟨n, rfl⟩ : ∃ j, n = j + 1 := ⟨n - 1, by omega⟩
    obtain rfl : l = N := by omega
    exact last n x hI
  | succ m ih =>
    intro l n x hl hn hI
    obtain ⟨n, rfl⟩ : ∃ j, n = j + 1 := ⟨n - 1, by omega⟩
    rcases step n l x (by omega) hI with h | ⟨x', h1, h2⟩
    · exact h
    · rw [h1]
      exact ih (l + 1) n x' (by omega) (by omega) h2
theorem ku_s (l : Nat) : ((l : Nat) : Int) + 1 = ((l + 1 : Nat) : Int) := rfl
theorem ku_min (a b : Int) (s : jl_Mm) : jf_J9_min_7cf53 a b s = some (if b < a then b else a, s) := by
  rw [jf_J9_min_7cf53]; split <;> rfl
theorem ku_max (a b : Int) (s : jl_Mm) : jf_J9_max_7cf53 a b s = some (if a < b then b else a, s) := by
  rw [jf_J9_max_7cf53]; split <;> rfl
/-- how many below n -/
def ku_n (p : Nat → Bool) : Nat → Int
  | 0 => 0
  | n + 1 => if p n = true then ku_n p n + 1 else ku_n p n
/-- those below n, as bits -/
def ku_b (p : Nat → Bool) : Nat → Int
  | 0 => 0
  | n + 1 => if p n = true then jl_or (ku_b p n) (jl_shl 1 ((n : Nat) : Int)) else ku_b p n
theorem ku_nT {p : Nat → Bool} {n : Nat} (h : p n = true) : ku_n p (n + 1) = ku_n p n + 1 := by rw [ku_n, if_pos h]
theorem ku_nF {p : Nat → Bool} {n : Nat} (h : p n = false) : ku_n p (n + 1) = ku_n p n := by rw [ku_n, if_neg (by rw [h]; decide)]
theorem ku_bT {p : Nat → Bool} {n : Nat} (h : p n = true) : ku_b p (n + 1) = jl_or (ku_b p n) (jl_shl 1 ((n : Nat) : Int)) := by rw [ku_b, if_pos h]
theorem ku_bF {p : Nat → Bool} {n : Nat} (h : p n = false) : ku_b p (n + 1) = ku_b p n := by rw [ku_b, if_neg (by rw [h]; decide)]
theorem ku_n_ge (p : Nat → Bool) : ∀ n, 0 ≤ ku_n p n ∧ ku_n p n ≤ (n : Int)
  | 0 => ⟨Int.le_refl _, Int.le_refl _⟩
  | n + 1 => by
    have := ku_n_ge p n
    rw [ku_n]; split <;> omega
theorem ku_n_cg {p q : Nat → Bool} : ∀ n, (∀ k, k < n → p k = q k) → ku_n p n = ku_n q n
  | 0, _ => rfl
  | n + 1, h => by rw [ku_n, ku_n, ku_n_cg n (fun k hk => h k (by omega)), h n (by omega)]
theorem ku_b_cg {p q : Nat → Bool} : ∀ n, (∀ k, k < n → p k = q k) → ku_b p n = ku_b q n
  | 0, _ => rfl
  | n + 1, h => by rw [ku_b, ku_b, ku_b_cg n (fun k hk => h k (by omega)), h n (by omega)]
theorem ku_b_tb (p : Nat → Bool) {b : Nat} (hb : b < 32) : ∀ n, n ≤ 32 → jp_tb (ku_b p n) b = (decide (b < n) && p b)
  | 0, _ => by rw [ku_b, jp_tb_0 hb]; simp
  | n + 1, h => by
    have ih := ku_b_tb p hb n (by omega)
    rw [ku_b]
    split
    · rename_i hp
      rw [jp_tb_or, ih, jp_tb_s1 n (by omega) b hb]
      by_cases e : n = b
      · subst e; simp [hp]
      · by_cases l : b < n
        · have l2 : b < n + 1 := by omega
          simp [l, l2, e]
        · have l2 : ¬ b < n + 1 := by omega
          simp [l, l2, e]
    · rename_i hp
      rw [ih]
      by_cases e : n = b
      · subst e; simp [hp]
      · by_cases l : b < n
        · have l2 : b < n + 1 := by omega
          simp [l, l2]
        · have l2 : ¬ b < n + 1 := by omega
          simp [l, l2]
theorem ku_b_bit (p : Nat → Bool) {b n : Nat} (hn : n ≤ 8) (hb : b < n) : jl_and (jl_shr (ku_b p n) (b : Int)) 1 = if p b = true then 1 else 0 := by
  rw [jp_bit (by omega), ku_b_tb p (by omega) n (by omega)]
  have : decide (b < n) = true := by simpa using hb
  rw [this, Bool.true_and]
theorem ku_b_n3 (p : Nat → Bool) : ∀ n, jl_n3 (ku_b p n)
  | 0 => jl_n3_0
  | n + 1 => by
    rw [ku_b]; split
    · exact jp_or_n _ _
    · exact ku_b_n3 p n
theorem ku_or1 : ∀ n, n < 8 → ∀ v, v < 256 → v < 2 ^ n → jl_or ((v : Nat) : Int) (jl_shl 1 ((n : Nat) : Int)) = ((v + 2 ^ n : Nat) : Int) := by decide +kernel
theorem ku_b_v (p : Nat → Bool) : ∀ n, n ≤ 8 → ∃ v : Nat, ku_b p n = (v : Int) ∧ v < 2 ^ n
  | 0, _ => ⟨0, rfl, by decide⟩
  | n + 1, h => by
    obtain ⟨v, hv, hl⟩ := ku_b_v p n (by omega)
    have h8 : (2 : Nat) ^ n ≤ 2 ^ 7 := Nat.pow_le_pow_right (by decide) (by omega)
    have h7 : (2 : Nat) ^ 7 = 128 := by decide
    rw [ku_b]; split
    · exact ⟨v + 2 ^ n, by rw [hv, ku_or1 n (by omega) v (by omega) hl], by rw [Nat.pow_succ]; omega⟩
    · exact ⟨v, hv, by rw [Nat.pow_succ]; omega⟩
/-- how many bits -/
def ku_pop (v : Int) : Int :=
  jl_and (jl_add (jl_add (jl_and (jl_add (jl_add (jl_and (jl_sub v (jl_and (jl_ushr v 1) 1431655765)) 858993459) (jl_and (jl_ushr (jl_sub v (jl_and (jl_ushr v 1) 1431655765)) 2) 858993459)) (jl_ushr (jl_add (jl_and (jl_sub v (jl_and (jl_ushr v 1) 1431655765)) 858993459) (jl_and (jl_ushr (jl_sub v (jl_and (jl_ushr v 1) 1431655765)) 2) 858993459)) 4)) 252645135) (jl_ushr (jl_and (jl_add (jl_add (jl_and (jl_sub v (jl_and (jl_ushr v 1) 1431655765)) 858993459) (jl_and (jl_ushr (jl_sub v (jl_and (jl_ushr v 1) 1431655765)) 2) 858993459)) (jl_ushr (jl_add (jl_and (jl_sub v (jl_and (jl_ushr v 1) 1431655765)) 858993459) (jl_and (jl_ushr (jl_sub v (jl_and (jl_ushr v 1) 1431655765)) 2) 858993459)) 4)) 252645135) 8)) (jl_ushr (jl_add (jl_and (jl_add (jl_add (jl_and (jl_sub v (jl_and (jl_ushr v 1) 1431655765)) 858993459) (jl_and (jl_ushr (jl_sub v (jl_and (jl_ushr v 1) 1431655765)) 2) 858993459)) (jl_ushr (jl_add (jl_and (jl_sub v (jl_and (jl_ushr v 1) 1431655765)) 858993459) (jl_and (jl_ushr (jl_sub v (jl_and (jl_ushr v 1) 1431655765)) 2) 858993459)) 4)) 252645135) (jl_ushr (jl_and (jl_add (jl_add (jl_and (jl_sub v (jl_and (jl_ushr v 1) 1431655765)) 858993459) (jl_and (jl_ushr (jl_sub v (jl_and (jl_ushr v 1) 1431655765)) 2) 858993459)) (jl_ushr (jl_add (jl_and (jl_sub v (jl_and (jl_ushr v 1) 1431655765)) 858993459) (jl_and (jl_ushr (jl_sub v (jl_and (jl_ushr v 1) 1431655765)) 2) 858993459)) 4)) 252645135) 8)) 16)) 63
theorem kx_pop (v : Int) (s : jl_Mm) : jf_J6_bitCount_0f7a4 v s = some (ku_pop v, s) := rfl
def ku_popT (v : Nat) : Nat := v % 2 + v / 2 % 2 + v / 4 % 2 + v / 8 % 2 + v / 16 % 2 + v / 32 % 2 + v / 64 % 2 + v / 128 % 2
theorem ku_pop_t : ∀ v, v < 256 → ku_pop ((v : Nat) : Int) = ((ku_popT v : Nat) : Int) := by decide +kernel
theorem ku_popT1 : ∀ n, n < 8 → ∀ v, v < 256 → v < 2 ^ n → ku_popT (v + 2 ^ n) = ku_popT v + 1 := by decide +kernel
theorem ku_pop_n (p : Nat → Bool) : ∀ n, n ≤ 8 → ku_pop (ku_b p n) = ku_n p n
  | 0, _ => (by decide +kernel : ku_pop 0 = 0)
  | n + 1, h => by
    have ih := ku_pop_n p n (by omega)
    obtain ⟨v, hv, hl⟩ := ku_b_v p n (by omega)
    have h8 : (2 : Nat) ^ n ≤ 2 ^ 7 := Nat.pow_le_pow_right (by decide) (by omega)
    have h7 : (2 : Nat) ^ 7 = 128 := by decide
    rw [ku_b, ku_n]
    split
    · rw [hv] at ih ⊢
      rw [ku_or1 n (by omega) v (by omega) hl, ku_pop_t _ (by omega), ku_popT1 n (by omega) v (by omega) hl, ← ih, ku_pop_t v (by omega)]
      rfl
    · exact ih
theorem ku_and1 : ∀ v, v < 256 → v ≠ 0 → ∃ w, w < v ∧ jl_and ((v : Nat) : Int) (jl_sub ((v : Nat) : Int) 1) = ((w : Nat) : Int) ∧ ku_popT w + 1 = ku_popT v := by decide +kernel
theorem kr_bitsL (s : jl_Mm) : ∀ (v n : Nat) (c : Int), v < 256 → v < n → 0 ≤ c → c + v < 1000000 → jf_X12_bits_L4 n c ((v : Nat) : Int) s = some (c + ((ku_popT v : Nat) : Int), s) := by
  intro v
  induction v using Nat.strongRecOn with
  | ind v ih =>
    intro n c hv hn hc hc2
    obtain ⟨n, rfl⟩ : ∃ j, n = j + 1 := ⟨n - 1, by omega⟩
    rw [jf_X12_bits_L4]
    by_cases h0 : v = 0
    · subst h0
      rw [if_pos (by decide)]
      have : ku_popT 0 = 0 := by decide
      rw [this]; simp
    · obtain ⟨w, w1, w2, w3⟩ := ku_and1 v hv h0
      rw [if_neg (by omega), jp_let, w2, jp_add (by omega) (by omega), ih w w1 n (c + 1) (by omega) (by omega) (by omega) (by omega), ← w3]
      congr 2
      omega
theorem kr_bits (p : Nat → Bool) {n : Nat} (hn : n ≤ 8) (s : jl_Mm) : jf_X12_bits (ku_b p n) s = some (ku_n p n, s) := by
  obtain ⟨v, hv, hl⟩ := ku_b_v p n hn
  have h8 : (2 : Nat) ^ n ≤ 2 ^ 8 := Nat.pow_le_pow_right (by decide) hn
  have h7 : (2 : Nat) ^ 8 = 256 := by decide
  rw [← ku_pop_n p n hn, hv, ku_pop_t v (by omega), jf_X12_bits, kr_bitsL s v jl_fu 0 (by omega) (by show v < 4000; omega) (by decide) (by omega)]
  simp
theorem ku_l2i {a : Int} (h : jl_n3 a) : jl_l2i a = a := by
  have h6 := jl_n36 h
  rw [jl_l2i, Int64.toInt_toInt32, jl_to_i6 h6]
  obtain ⟨h1, h2⟩ := h
  exact Int.bmod_eq_of_le (by omega) (by omega)
theorem kr_lt {a b : Int} (ha : jl_n6 a) (hb : jl_n6 b) : (0 ≤ jl_lcmp a b ↔ ¬ a < b) ∧ (jl_lcmp a b ≤ 0 ↔ ¬ b < a) ∧ (jl_lcmp a b = 0 ↔ a = b) := by
  rw [jp_lcmp ha hb]
  by_cases z : a < b
  · rw [if_pos z]; refine ⟨⟨fun h => absurd h (by decide), fun h => absurd z h⟩, ⟨fun _ => by omega, fun _ => by decide⟩, ⟨fun h => absurd h (by decide), fun h => by omega⟩⟩
  · rw [if_neg z]
    by_cases y : a = b
    · rw [if_pos y]; refine ⟨⟨fun _ => z, fun _ => by decide⟩, ⟨fun _ => by omega, fun _ => by decide⟩, ⟨fun _ => y, fun _ => rfl⟩⟩
    · rw [if_neg y]; refine ⟨⟨fun _ => z, fun _ => by decide⟩, ⟨fun h => absurd h (by decide), fun h => by omega⟩, ⟨fun h => absurd h (by decide), fun h => absurd h y⟩⟩
theorem kr_clamp {v m : Int} (s : jl_Mm) (h : jl_n6 v) (hm : 0 ≤ m ∧ m < 2147483648) : jf_X12_clamp v m s = some (if v < 0 then 0 else if m < v then m else v, s) := by
  have hm6 : jl_n6 m := ⟨by omega, by omega⟩
  have h0 : jl_n6 0 := ⟨by decide, by decide⟩
  rw [jf_X12_clamp]
  simp only [jf_X12_clamp_B23]
  by_cases a : v < 0
  · rw [if_pos a, if_neg (fun q => (kr_lt h h0).1.mp q a)]
  · rw [if_neg a, if_pos ((kr_lt h h0).1.mpr a)]
    by_cases b : m < v
    · rw [if_pos b, if_neg (fun q => (kr_lt h hm6).2.1.mp q b)]
    · rw [if_neg b, if_pos ((kr_lt h hm6).2.1.mpr b), ku_l2i ⟨by omega, by omega⟩]
