/-! PURE: what codes can be -/
/-- what codes can be -/
theorem kv_shape {c : Int} {ts us : List Bool} {vs : List Int} (h : kv_ok ts vs) (ht : jq_t1 c ts = some us) :
    (1000 ≤ c ∧ c ≤ 10999 ∧ us.length = vs.length + 1) ∨ ((c = 60 ∨ c = 61) ∧ ∃ v r, vs = v :: r ∧ kv_b v) ∨ (40 ≤ c ∧ c < 50 ∧ us.length = vs.length + 1) ∨ (c = 13 ∧ us.length = vs.length + 1) ∨ (c = 12 ∧ ∃ v r, vs = v :: r ∧ (v = 0 ∨ v = 1)) ∨
    ((1 ≤ c ∧ c ≤ 11) ∧ ∃ b a r, vs = b :: a :: r ∧ (((1 ≤ c ∧ c ≤ 9) ∧ kv_b a ∧ kv_b b) ∨ ((c = 10 ∨ c = 11) ∧ (a = 0 ∨ a = 1) ∧ (b = 0 ∨ b = 1)))) := by
  have hl := kv_ok_len h
  unfold jq_t1 at ht
  by_cases c0 : 1000 ≤ c
  · rw [if_pos c0] at ht
    by_cases c1 : c ≤ 10999
    · rw [if_pos c1] at ht; cases ht
      exact Or.inl ⟨c0, c1, by rw [List.length_cons, hl]⟩
    · rw [if_neg c1] at ht; cases ht
  · rw [if_neg c0] at ht
    by_cases c1 : 62 ≤ c
    · rw [if_pos c1] at ht; cases ht
    · rw [if_neg c1] at ht
      by_cases c2 : 60 ≤ c
      · rw [if_pos c2] at ht
        match ts, vs, h, ht with
        | false :: r, v :: w, h, ht =>
          have := h.1
          rw [if_neg (by decide)] at this
          exact Or.inr (Or.inl ⟨by omega, v, w, rfl, this⟩)
        | true :: r, _, _, ht => cases ht
        | [], _, _, ht => cases ht
      · rw [if_neg c2] at ht
        by_cases c3 : 50 ≤ c
        · rw [if_pos c3] at ht; cases ht
        · rw [if_neg c3] at ht
          by_cases c4 : 40 ≤ c
          · rw [if_pos c4] at ht; cases ht
            exact Or.inr (Or.inr (Or.inl ⟨c4, by omega, by rw [List.length_cons, hl]⟩))
          · rw [if_neg c4] at ht
            by_cases c5 : c = 13
            · rw [if_pos c5] at ht; cases ht
              exact Or.inr (Or.inr (Or.inr (Or.inl ⟨c5, by rw [List.length_cons, hl]⟩)))
            · rw [if_neg c5] at ht
              by_cases c6 : c = 12
              · rw [if_pos c6] at ht
                match ts, vs, h, ht with
                | true :: r, v :: w, h, ht =>
                  have := h.1
                  rw [if_pos rfl] at this
                  exact Or.inr (Or.inr (Or.inr (Or.inr (Or.inl ⟨c6, v, w, rfl, this⟩))))
                | false :: r, _, _, ht => cases ht
                | [], _, _, ht => cases ht
              · rw [if_neg c6] at ht
                by_cases c7 : c = 10 ∨ c = 11
                · rw [if_pos c7] at ht
                  match ts, vs, h, ht with
                  | true :: true :: r, b :: a :: w, h, ht =>
                    have h1 := h.1
                    have h2 := h.2.1
                    rw [if_pos rfl] at h1 h2
                    exact Or.inr (Or.inr (Or.inr (Or.inr (Or.inr ⟨by omega, b, a, w, rfl, Or.inr ⟨c7, h2, h1⟩⟩))))
                  | false :: r, _, _, ht => cases ht
                  | true :: false :: r, _, _, ht => cases ht
                  | [true], _, _, ht => cases ht
                  | [], _, _, ht => cases ht
                · rw [if_neg c7] at ht
                  by_cases c8 : 1 ≤ c ∧ c ≤ 9
                  · have hx : ∃ q, (match ts with | false :: false :: r => some (q :: r) | _ => none) = some us := by
                      by_cases c9 : 7 ≤ c ∧ c ≤ 9
                      · rw [if_pos c9] at ht; exact ⟨_, ht⟩
                      · rw [if_neg c9, if_pos (by omega)] at ht; exact ⟨_, ht⟩
                    obtain ⟨q, ht⟩ := hx
                    match ts, vs, h, ht with
                    | false :: false :: r, b :: a :: w, h, ht =>
                      have h1 := h.1
                      have h2 := h.2.1
                      rw [if_neg (by decide)] at h1 h2
                      exact Or.inr (Or.inr (Or.inr (Or.inr (Or.inr ⟨by omega, b, a, w, rfl, Or.inl ⟨c8, h2, h1⟩⟩))))
                    | true :: r, _, _, ht => cases ht
                    | false :: true :: r, _, _, ht => cases ht
                    | [false], _, _, ht => cases ht
                    | [], _, _, ht => cases ht
                  · rw [if_neg (by omega), if_neg (by omega)] at ht; cases ht
