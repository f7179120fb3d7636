/-! PURE, both: what codes tell: a stack of numbers, the top first -/
def kv_cl (v : Int) : Int := if 1000000 < v then 1000000 else if v < -1000000 then -1000000 else v
def kv_div (a b : Int) : Int := if b = 0 then 0 else if (a < 0 ↔ b < 0) ∨ a.tdiv b * b = a then a.tdiv b else a.tdiv b - 1
def kv_2 (c a b : Int) : Int :=
  if c = 1 then kv_cl (a + b) else if c = 2 then kv_cl (a - b) else if c = 3 then kv_cl (a * b) else if c = 4 then kv_div a b
  else if c = 5 then (if a < b then a else b) else if c = 6 then (if b < a then a else b)
  else if c = 7 then (if a < b then 1 else 0) else if c = 8 then (if b < a then 1 else 0) else if c = 9 then (if a = b then 1 else 0)
  else if c = 10 then a * b else (if 0 < a + b then 1 else 0)
/-- one code: env what a word is, of what a word of a number is -/
def kv_1 (env : Int → Int) (of : Int → Int → Int) (c : Int) (vs : List Int) : List Int :=
  if 1000 ≤ c then (c - 1000) :: vs
  else if 60 ≤ c then (match vs with | v :: r => of c v :: r | [] => [])
  else if 40 ≤ c then env c :: vs
  else if c = 13 then 1 :: vs
  else if c = 12 then (match vs with | v :: r => (1 - v) :: r | [] => [])
  else (match vs with | b :: a :: r => kv_2 c a b :: r | r => r)
def kv_run (env : Int → Int) (of : Int → Int → Int) : List Int → List Int → List Int
  | [], vs => vs
  | c :: cs, vs => kv_run env of cs (kv_1 env of c vs)
def kv_b (v : Int) : Prop := -1000000 ≤ v ∧ v ≤ 1000000
def kv_ok : List Bool → List Int → Prop
  | [], [] => True
  | t :: ts, v :: vs => (if t = true then v = 0 ∨ v = 1 else kv_b v) ∧ kv_ok ts vs
  | _, _ => False
theorem kv_cl_b (v : Int) : kv_b (kv_cl v) := by
  simp only [kv_b, kv_cl]; split
  · omega
  · split <;> omega
theorem kv_cl_id {v : Int} (h : kv_b v) : kv_cl v = v := by
  obtain ⟨a, b⟩ := h
  rw [kv_cl, if_neg (by omega), if_neg (by omega)]
theorem kv_tdiv {a b : Int} (ha : kv_b a) (hb : b ≠ 0) : kv_b (a.tdiv b) ∧ (a.tdiv b * b ≠ a → -500000 ≤ a.tdiv b ∧ a.tdiv b ≤ 500000) := by
  obtain ⟨a1, a2⟩ := ha
  have h : (a.tdiv b).natAbs = a.natAbs / b.natAbs := Int.natAbs_tdiv a b
  have h1 : a.natAbs / b.natAbs ≤ a.natAbs := Nat.div_le_self _ _
  rw [← h] at h1
  refine ⟨⟨by omega, by omega⟩, fun hne => ?_⟩
  have hb1 : b ≠ 1 := by
    intro z; subst z; apply hne; rw [Int.tdiv_one, Int.mul_one]
  have hb2 : b ≠ -1 := by
    intro z; subst z; apply hne
    rw [Int.tdiv_neg, Int.tdiv_one]; omega
  have h2 : a.natAbs / b.natAbs ≤ a.natAbs / 2 := Nat.div_le_div_left (by omega) (by decide)
  rw [← h] at h2
  omega
theorem kv_div_b {a b : Int} (ha : kv_b a) : kv_b (kv_div a b) := by
  rw [kv_div]
  split
  · exact ⟨by decide, by decide⟩
  · rename_i hb
    obtain ⟨h1, h2⟩ := kv_tdiv ha hb
    split
    · exact h1
    · rename_i h
      have := h2 (fun z => h (Or.inr z))
      exact ⟨by omega, by omega⟩
theorem kv_mulb {a b : Int} (ha : kv_b a) (hb : kv_b b) : -1000000000000 ≤ a * b ∧ a * b ≤ 1000000000000 := by
  obtain ⟨a1, a2⟩ := ha
  obtain ⟨b1, b2⟩ := hb
  have h : (a * b).natAbs = a.natAbs * b.natAbs := Int.natAbs_mul a b
  have h2 : a.natAbs * b.natAbs ≤ 1000000 * 1000000 := Nat.mul_le_mul (by omega) (by omega)
  omega
/-- of two tests, of two sums -/
theorem kv_2s {c a b : Int} (hc : 1 ≤ c ∧ c ≤ 6) (ha : kv_b a) (hb : kv_b b) : kv_b (kv_2 c a b) := by
  rw [kv_2]
  split
  · exact kv_cl_b _
  · split
    · exact kv_cl_b _
    · split
      · exact kv_cl_b _
      · split
        · exact kv_div_b ha
        · split
          · split <;> assumption
          · split
            · split <;> assumption
            · omega
theorem kv_2c {c a b : Int} (hc : 7 ≤ c ∧ c ≤ 9) : kv_2 c a b = 0 ∨ kv_2 c a b = 1 := by
  rw [kv_2, if_neg (by omega), if_neg (by omega), if_neg (by omega), if_neg (by omega), if_neg (by omega), if_neg (by omega)]
  split
  · split <;> simp
  · split
    · split <;> simp
    · split
      · split <;> simp
      · omega
theorem kv_2t {c a b : Int} (hc : c = 10 ∨ c = 11) (ha : a = 0 ∨ a = 1) (hb : b = 0 ∨ b = 1) : kv_2 c a b = 0 ∨ kv_2 c a b = 1 := by
  rcases hc with rfl | rfl <;> rcases ha with rfl | rfl <;> rcases hb with rfl | rfl <;> simp [kv_2]
theorem kv_ok1 {env : Int → Int} {of : Int → Int → Int} {c : Int} {ts us : List Bool} {vs : List Int} (h : kv_ok ts vs) (ht : jq_t1 c ts = some us) (he : 40 ≤ c → c < 50 → kv_b (env c)) (ho : c = 60 ∨ c = 61 → ∀ v, kv_b v → kv_b (of c v)) : kv_ok us (kv_1 env of c vs) := by
  unfold jq_t1 at ht
  unfold kv_1
  by_cases c0 : 1000 ≤ c
  · rw [if_pos c0] at ht ⊢
    by_cases c1 : c ≤ 10999
    · rw [if_pos c1] at ht
      cases ht
      exact ⟨by rw [if_neg (by decide)]; exact ⟨by omega, by omega⟩, h⟩
    · rw [if_neg c1] at ht; cases ht
  · rw [if_neg c0] at ht ⊢
    by_cases c1 : 62 ≤ c
    · rw [if_pos c1] at ht; cases ht
    · rw [if_neg c1] at ht
      by_cases c2 : 60 ≤ c
      · rw [if_pos c2] at ht ⊢
        match ts, vs, h, ht with
        | false :: r, v :: w, h, ht =>
          cases ht
          refine ⟨?_, h.2⟩
          have := h.1
          rw [if_neg (by decide)] at this ⊢
          exact ho (by omega) v this
        | true :: r, _, _, ht => cases ht
        | [], _, _, ht => cases ht
      · rw [if_neg c2] at ht ⊢
        by_cases c3 : 50 ≤ c
        · rw [if_pos c3] at ht; cases ht
        · rw [if_neg c3] at ht
          by_cases c4 : 40 ≤ c
          · rw [if_pos c4] at ht ⊢
            cases ht
            exact ⟨by rw [if_neg (by decide)]; exact he c4 (by omega), h⟩
          · rw [if_neg c4] at ht ⊢
            by_cases c5 : c = 13
            · rw [if_pos c5] at ht ⊢
              cases ht
              exact ⟨by rw [if_pos rfl]; exact Or.inr rfl, h⟩
            · rw [if_neg c5] at ht ⊢
              by_cases c6 : c = 12
              · rw [if_pos c6] at ht ⊢
                match ts, vs, h, ht with
                | true :: r, v :: w, h, ht =>
                  cases ht
                  refine ⟨?_, h.2⟩
                  have := h.1
                  rw [if_pos rfl] at this ⊢
                  omega
                | false :: r, _, _, ht => cases ht
                | [], _, _, ht => cases ht
              · rw [if_neg c6] at ht ⊢
                by_cases c7 : c = 10 ∨ c = 11
                · rw [if_pos c7] at ht
                  match ts, vs, h, ht with
                  | true :: true :: r, b :: a :: w, h, ht =>
                    cases ht
                    have h1 := h.1
                    have h2 := h.2.1
                    rw [if_pos rfl] at h1 h2
                    refine ⟨?_, h.2.2⟩
                    rw [if_pos rfl]
                    exact kv_2t c7 h2 h1
                  | false :: r, _, _, ht => cases ht
                  | true :: false :: r, _, _, ht => cases ht
                  | [true], _, _, ht => cases ht
                  | [], _, _, ht => cases ht
                · rw [if_neg c7] at ht
                  by_cases c8 : 7 ≤ c ∧ c ≤ 9
                  · rw [if_pos c8] at ht
                    match ts, vs, h, ht with
                    | false :: false :: r, b :: a :: w, h, ht =>
                      cases ht
                      refine ⟨?_, h.2.2⟩
                      rw [if_pos rfl]
                      exact kv_2c c8
                    | true :: r, _, _, ht => cases ht
                    | false :: true :: r, _, _, ht => cases ht
                    | [false], _, _, ht => cases ht
                    | [], _, _, ht => cases ht
                  · rw [if_neg c8] at ht
                    by_cases c9 : 1 ≤ c ∧ c ≤ 6
                    · rw [if_pos c9] at ht
                      match ts, vs, h, ht with
                      | false :: false :: r, b :: a :: w, h, ht =>
                        cases ht
                        have h1 := h.1
                        have h2 := h.2.1
                        rw [if_neg (by decide)] at h1 h2
                        refine ⟨?_, h.2.2⟩
                        rw [if_neg (by decide)]
                        exact kv_2s c9 h2 h1
                      | true :: r, _, _, ht => cases ht
                      | false :: true :: r, _, _, ht => cases ht
                      | [false], _, _, ht => cases ht
                      | [], _, _, ht => cases ht
                    · rw [if_neg c9] at ht; cases ht
theorem kv_ok_len : ∀ {ts : List Bool} {vs : List Int}, kv_ok ts vs → ts.length = vs.length
  | [], [], _ => rfl
  | t :: ts, v :: vs, h => by rw [List.length_cons, List.length_cons, kv_ok_len h.2]
  | [], _ :: _, h => h.elim
  | _ :: _, [], h => h.elim
/-! the arithmetic of both -/
theorem ku_div {a b : Int} (ha : jl_n3 a) (hb : jl_n3 b) (h : kv_b (a.tdiv b)) : jl_div a b = a.tdiv b := by
  rw [jl_div, Int32.toInt_div, jl_to_i3 ha, jl_to_i3 hb]
  exact Int.bmod_eq_of_le (by have := h.1; omega) (by have := h.2; omega)
theorem ku_ldiv {a b : Int} (ha : jl_n6 a) (hb : jl_n6 b) (h : kv_b (a.tdiv b)) : jl_ldiv a b = a.tdiv b := by
  rw [jl_ldiv, Int64.toInt_div, jl_to_i6 ha, jl_to_i6 hb]
  exact Int.bmod_eq_of_le (by have := h.1; omega) (by have := h.2; omega)
theorem ku_sgn (x : Int) : jp_tb x 31 = decide ((jl_i3 x).toInt < 0) := by
  rw [jp_tb, Int32.toInt, ← BitVec.msb_eq_toInt]
  rfl
theorem ku_xor0 {a b : Int} (ha : jl_n3 a) (hb : jl_n3 b) : 0 ≤ jl_xor a b ↔ (a < 0 ↔ b < 0) := by
  have h := ku_sgn (jl_xor a b)
  rw [jp_tb_xor, ku_sgn, ku_sgn, jl_to_i3 ha, jl_to_i3 hb, jl_to_i3 (jp_xor_n a b)] at h
  by_cases x : a < 0 <;> by_cases y : b < 0 <;> by_cases z : jl_xor a b < 0 <;> simp [x, y, z] at h ⊢ <;> omega
theorem kv_b.n3 {v : Int} (h : kv_b v) : jl_n3 v := ⟨by have := h.1; omega, by have := h.2; omega⟩
theorem kv_b.n6 {v : Int} (h : kv_b v) : jl_n6 v := jl_n36 h.n3
theorem kc_clip {v : Int} (h : jl_n6 v) (s : jl_Mm) : jf_X5_ofTwo_B296 v s = some (kv_cl v, s) := by
  have h1 : jl_n6 1000000 := ⟨by decide, by decide⟩
  have h2 : jl_n6 (-1000000) := ⟨by decide, by decide⟩
  rw [jf_X5_ofTwo_B296]
  simp only [jf_X5_ofTwo_B325]
  by_cases a : 1000000 < v
  · rw [if_neg (fun q => (kr_lt h h1).2.1.mp q a), kv_cl, if_pos a, ku_l2i ⟨by decide, by decide⟩]
  · rw [if_pos ((kr_lt h h1).2.1.mpr a), kv_cl, if_neg a]
    by_cases b : v < -1000000
    · rw [if_neg (fun q => (kr_lt h h2).1.mp q b), if_pos b, ku_l2i ⟨by decide, by decide⟩]
    · rw [if_pos ((kr_lt h h2).1.mpr b), if_neg b, ku_l2i ⟨by omega, by omega⟩]
theorem kc_fdiv {a b : Int} (ha : kv_b a) (hb : kv_b b) (h0 : b ≠ 0) (s : jl_Mm) : jf_J9_floorDiv_7cf53 a b s = some (kv_div a b, s) := by
  obtain ⟨t1, t2⟩ := kv_tdiv ha h0
  rw [jf_J9_floorDiv_7cf53, if_pos h0, jp_let, ku_div ha.n3 hb.n3 t1]
  simp only [jf_J9_floorDiv_7cf53_B21]
  rw [kv_div, if_neg h0]
  by_cases x : (a < 0 ↔ b < 0)
  · rw [if_pos ((ku_xor0 ha.n3 hb.n3).mpr x), if_pos (Or.inl x)]
  · rw [if_neg (fun z => x ((ku_xor0 ha.n3 hb.n3).mp z))]
    have hm : jl_mul (a.tdiv b) b = a.tdiv b * b := by
      have e := Int.tdiv_mul_le
      have h : (a.tdiv b * b).natAbs = (a.tdiv b).natAbs * b.natAbs := Int.natAbs_mul _ b
      have h1 : (a.tdiv b).natAbs = a.natAbs / b.natAbs := Int.natAbs_tdiv a b
      have h2 : a.natAbs / b.natAbs * b.natAbs ≤ a.natAbs := Nat.div_mul_le_self _ _
      rw [← h1] at h2
      obtain ⟨a1, a2⟩ := ha
      exact jp_mul (by omega) (by omega)
    rw [hm]
    by_cases y : a.tdiv b * b = a
    · rw [if_pos y, if_pos (Or.inr y)]
    · have := t2 y
      rw [if_neg y, if_neg (fun q => q.elim x y), jp_sub (by omega) (by omega)]
/-- the class's word of a code of two -/
def kv_w2 (c : Int) : Int := if c = 1 then 43 else if c = 2 then 45 else if c = 3 then 42 else if c = 4 then 47 else if c = 5 then 30 else if c = 6 then 31 else if c = 7 then 60 else if c = 8 then 62 else if c = 9 then 61 else if c = 10 then 27 else 26
theorem kv_2e (a b : Int) : kv_2 1 a b = kv_cl (a + b) ∧ kv_2 2 a b = kv_cl (a - b) ∧ kv_2 3 a b = kv_cl (a * b) ∧ kv_2 4 a b = kv_div a b ∧ kv_2 5 a b = (if a < b then a else b) ∧ kv_2 6 a b = (if b < a then a else b) ∧ kv_2 7 a b = (if a < b then 1 else 0) ∧ kv_2 8 a b = (if b < a then 1 else 0) ∧ kv_2 9 a b = (if a = b then 1 else 0) ∧ kv_2 10 a b = a * b ∧ kv_2 11 a b = (if 0 < a + b then 1 else 0) := by
  refine ⟨?_, ?_, ?_, ?_, ?_, ?_, ?_, ?_, ?_, ?_, ?_⟩ <;> simp [kv_2]
theorem kv_cl01 : kv_cl 0 = 0 ∧ kv_cl 1 = 1 := ⟨kv_cl_id ⟨by decide, by decide⟩, kv_cl_id ⟨by decide, by decide⟩⟩
theorem kv_w2e : kv_w2 1 = 43 ∧ kv_w2 2 = 45 ∧ kv_w2 3 = 42 ∧ kv_w2 4 = 47 ∧ kv_w2 5 = 30 ∧ kv_w2 6 = 31 ∧ kv_w2 7 = 60 ∧ kv_w2 8 = 62 ∧ kv_w2 9 = 61 ∧ kv_w2 10 = 27 ∧ kv_w2 11 = 26 := by decide
theorem kc_two1 {c a b : Int} (s : jl_Mm) (hc : 1 ≤ c ∧ c ≤ 9) (ha : kv_b a) (hb : kv_b b) : jf_X5_ofTwo (kv_w2 c) a b s = some (kv_2 c a b, s) := by
  have hm := kv_mulb ha hb
  have ha1 := ha.1; have ha2 := ha.2; have hb1 := hb.1; have hb2 := hb.2
  obtain ⟨e1, e2, e3, e4, e5, e6, e7, e8, e9, -, -⟩ := kv_2e a b
  obtain ⟨w1, w2, w3, w4, w5, w6, w7, w8, w9, -, -⟩ := kv_w2e
  have c0 : kv_cl 0 = 0 := kv_cl01.1
  have c1 : kv_cl 1 = 1 := kv_cl01.2
  have n0 : jl_n6 0 := ⟨by decide, by decide⟩
  have n1 : jl_n6 1 := ⟨by decide, by decide⟩
  obtain rfl | rfl | rfl | rfl | rfl | rfl | rfl | rfl | rfl : c = 1 ∨ c = 2 ∨ c = 3 ∨ c = 4 ∨ c = 5 ∨ c = 6 ∨ c = 7 ∨ c = 8 ∨ c = 9 := by omega
  · rw [w1, e1]; unfold jf_X5_ofTwo
    simp only [Int.reduceEq, if_false, if_true, jp_let]
    rw [jp_ladd (by omega) (by omega), kc_clip ⟨by omega, by omega⟩]
  · rw [w2, e2]; unfold jf_X5_ofTwo
    simp only [Int.reduceEq, if_false, if_true, jp_let]
    rw [jp_lsub (by omega) (by omega), kc_clip ⟨by omega, by omega⟩]
  · rw [w3, e3]; unfold jf_X5_ofTwo
    simp only [Int.reduceEq, if_false, if_true, jp_let]
    rw [jp_lmul (by omega) (by omega), kc_clip ⟨by omega, by omega⟩]
  · rw [w4, e4]; unfold jf_X5_ofTwo
    simp only [Int.reduceEq, if_false, if_true, jf_X5_ofTwo_B205]
    by_cases z : b = 0
    · rw [if_pos z, kc_clip n0, c0, kv_div, if_pos z]
    · rw [if_neg z, kc_fdiv ha hb z, jp_bd, kc_clip (kv_div_b ha).n6, kv_cl_id (kv_div_b ha)]
  · rw [w5, e5]; unfold jf_X5_ofTwo
    simp only [Int.reduceEq, if_false, if_true, jf_X5_ofTwo_B279]
    rw [kc_clip ha.n6, kc_clip hb.n6, kv_cl_id ha, kv_cl_id hb]
    by_cases z : a < b
    · rw [if_pos z, if_neg (by omega)]
    · rw [if_neg z, if_pos (by omega)]
  · rw [w6, e6]; unfold jf_X5_ofTwo
    simp only [Int.reduceEq, if_false, if_true, jf_X5_ofTwo_B295]
    rw [kc_clip ha.n6, kc_clip hb.n6, kv_cl_id ha, kv_cl_id hb]
    by_cases z : b < a
    · rw [if_pos z, if_neg (by omega)]
    · rw [if_neg z, if_pos (by omega)]
  · rw [w7, e7]; unfold jf_X5_ofTwo
    simp only [Int.reduceEq, if_false, if_true, jf_X5_ofTwo_B219]
    rw [kc_clip n0, kc_clip n1, c0, c1]
    by_cases z : a < b
    · rw [if_pos z, if_neg (by omega)]
    · rw [if_neg z, if_pos (by omega)]
  · rw [w8, e8]; unfold jf_X5_ofTwo
    simp only [Int.reduceEq, if_false, if_true, jf_X5_ofTwo_B233]
    rw [kc_clip n0, kc_clip n1, c0, c1]
    by_cases z : b < a
    · rw [if_pos z, if_neg (by omega)]
    · rw [if_neg z, if_pos (by omega)]
  · rw [w9, e9]; unfold jf_X5_ofTwo
    simp only [Int.reduceEq, if_false, if_true, jf_X5_ofTwo_B247]
    rw [kc_clip n0, kc_clip n1, c0, c1]
    by_cases z : a = b
    · rw [if_pos z, if_pos z]
    · rw [if_neg z, if_neg z]
theorem ku_ao : ∀ a, a < 2 → ∀ b, b < 2 → jl_and ((a : Nat) : Int) ((b : Nat) : Int) = ((a * b : Nat) : Int) ∧ jl_or ((a : Nat) : Int) ((b : Nat) : Int) = (if 0 < a + b then 1 else 0) := by decide +kernel
theorem kc_two2 {c a b : Int} (s : jl_Mm) (hc : c = 10 ∨ c = 11) (ha : a = 0 ∨ a = 1) (hb : b = 0 ∨ b = 1) : jf_X5_ofTwo (kv_w2 c) a b s = some (kv_2 c a b, s) := by
  obtain ⟨-, -, -, -, -, -, -, -, -, e10, e11⟩ := kv_2e a b
  obtain ⟨-, -, -, -, -, -, -, -, -, w10, w11⟩ := kv_w2e
  have c0 : kv_cl 0 = 0 := kv_cl01.1
  have c1 : kv_cl 1 = 1 := kv_cl01.2
  have n0 : jl_n6 0 := ⟨by decide, by decide⟩
  have n1 : jl_n6 1 := ⟨by decide, by decide⟩
  rcases hc with rfl | rfl
  · rw [w10, e10]; unfold jf_X5_ofTwo
    simp only [Int.reduceEq, if_false, if_true, jp_let]
    rcases ha with rfl | rfl <;> rcases hb with rfl | rfl
    · rw [show jl_and 0 0 = 0 from (ku_ao 0 (by decide) 0 (by decide)).1, kc_clip n0, c0]; rfl
    · rw [show jl_and 0 1 = 0 from (ku_ao 0 (by decide) 1 (by decide)).1, kc_clip n0, c0]; rfl
    · rw [show jl_and 1 0 = 0 from (ku_ao 1 (by decide) 0 (by decide)).1, kc_clip n0, c0]; rfl
    · rw [show jl_and 1 1 = 1 from (ku_ao 1 (by decide) 1 (by decide)).1, kc_clip n1, c1]; rfl
  · rw [w11, e11]; unfold jf_X5_ofTwo
    simp only [Int.reduceEq, if_false, if_true, jp_let]
    rcases ha with rfl | rfl <;> rcases hb with rfl | rfl
    · rw [show jl_or 0 0 = 0 from (ku_ao 0 (by decide) 0 (by decide)).2, kc_clip n0, c0]; rfl
    · rw [show jl_or 0 1 = 1 from (ku_ao 0 (by decide) 1 (by decide)).2, kc_clip n1, c1]; rfl
    · rw [show jl_or 1 0 = 1 from (ku_ao 1 (by decide) 0 (by decide)).2, kc_clip n1, c1]; rfl
    · rw [show jl_or 1 1 = 1 from (ku_ao 1 (by decide) 1 (by decide)).2, kc_clip n1, c1]; rfl
theorem kc_two {c a b : Int} (s : jl_Mm) (h : ((1 ≤ c ∧ c ≤ 9) ∧ kv_b a ∧ kv_b b) ∨ ((c = 10 ∨ c = 11) ∧ (a = 0 ∨ a = 1) ∧ (b = 0 ∨ b = 1))) : jf_X5_ofTwo (kv_w2 c) a b s = some (kv_2 c a b, s) := by
  rcases h with ⟨hc, ha, hb⟩ | ⟨hc, ha, hb⟩
  · exact kc_two1 s hc ha hb
  · exact kc_two2 s hc ha hb
