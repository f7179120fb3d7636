/-! PURE, the class: one code -/
theorem kv_1n {env : Int → Int} {of : Int → Int → Int} {c : Int} {vs : List Int} (h : 1000 ≤ c) : kv_1 env of c vs = (c - 1000) :: vs := by unfold kv_1; rw [if_pos h]
theorem kv_1o {env : Int → Int} {of : Int → Int → Int} {c v : Int} {r : List Int} (h : c = 60 ∨ c = 61) : kv_1 env of c (v :: r) = of c v :: r := by unfold kv_1; rw [if_neg (by omega), if_pos (by omega)]
theorem kv_1p {env : Int → Int} {of : Int → Int → Int} {c : Int} {vs : List Int} (h : 40 ≤ c ∧ c < 50) : kv_1 env of c vs = env c :: vs := by unfold kv_1; rw [if_neg (by omega), if_neg (by omega), if_pos (by omega)]
theorem kv_1a {env : Int → Int} {of : Int → Int → Int} {vs : List Int} : kv_1 env of 13 vs = 1 :: vs := by unfold kv_1; rw [if_neg (by omega), if_neg (by omega), if_neg (by omega), if_pos rfl]
theorem kv_1x {env : Int → Int} {of : Int → Int → Int} {v : Int} {r : List Int} : kv_1 env of 12 (v :: r) = (1 - v) :: r := by unfold kv_1; rw [if_neg (by omega), if_neg (by omega), if_neg (by omega), if_neg (by omega), if_pos rfl]
theorem kv_1t {env : Int → Int} {of : Int → Int → Int} {c a b : Int} {r : List Int} (h : 1 ≤ c ∧ c ≤ 11) : kv_1 env of c (b :: a :: r) = kv_2 c a b :: r := by unfold kv_1; rw [if_neg (by omega), if_neg (by omega), if_neg (by omega), if_neg (by omega), if_neg (by omega)]
theorem kv_2b {c a b : Int} (h : ((1 ≤ c ∧ c ≤ 9) ∧ kv_b a ∧ kv_b b) ∨ ((c = 10 ∨ c = 11) ∧ (a = 0 ∨ a = 1) ∧ (b = 0 ∨ b = 1))) : kv_b (kv_2 c a b) := by
  rcases h with ⟨x, y, z⟩ | ⟨x, y, z⟩
  · by_cases q : c ≤ 6
    · exact kv_2s ⟨x.1, q⟩ y z
    · rcases kv_2c (c := c) (a := a) (b := b) ⟨by omega, x.2⟩ with g | g <;> rw [g] <;> exact ⟨by decide, by decide⟩
  · rcases kv_2t x y z with g | g <;> rw [g] <;> exact ⟨by decide, by decide⟩
