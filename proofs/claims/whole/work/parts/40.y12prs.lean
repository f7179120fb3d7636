/-! PURE, the reference's street reader: persons, lies, rows laid -/
def jh_FA : jp_F := [(206, 2, 3), (206, 4, 5), (206, 5, 7), (206, 10, 11), (206, 43, 44), (241, 0, 6), (242, 0, 16), (243, 0, 12), (244, 0, 16), (245, 0, 48)]
theorem jh_FA1 : (jh_F.all fun q => jh_FA.contains q) = true := by decide
theorem jh_Lc {T : Nat → Int} {e : Nat} {st : jq_S} {s τ : jl_Mm} {F : jp_F} (h : jh_L T e st s) (f : jp_fr F s τ) (w : ∀ c i, jp_in F c i = true → 241 ≤ c ∧ c < 258) : jh_L T e st τ := by
  have no : ∀ c i, (c < 241 ∨ 258 ≤ c) → jp_in F c i = false := by
    intro c i hc
    cases hz : jp_in F c i with
    | false => rfl
    | true => have := w c i hz; omega
  exact h.fr f (fun i _ => no _ _ (by omega)) (fun i => no _ _ (by omega)) (fun c i hc => no _ _ (by rcases hc with hc | hc <;> omega))
theorem jh_numh {T : Nat → Int} {e : Nat} {lo hi hi' : Int} {st : jq_S} {s : jl_Mm} (hlo : jl_n3 lo) (hhi : jl_n3 hi') (hq : st.1 = 0 → hi' = hi) (h : jh_L T e st s) : ∃ r, jE (jf_X12_number lo hi' s) r jh_F s (jh_L T e (jz_num T e lo hi st).1) ∧ ((jz_num T e lo hi st).1.1 = 0 → r = (jz_num T e lo hi st).2) := by
  by_cases z : st.1 = 0
  · have e1 := hq z
    subst e1
    exact jh_num hlo hhi h
  · obtain ⟨k1, k2⟩ := jz_num_k (T := T) (e := e) (lo := lo) (hi := hi) z
    rw [k1, jf_X12_number, h.m, if_neg (by omega)]
    exact ⟨0, jE.ret h, fun y => absurd y z⟩
theorem jh_n3 {a : Int} (h : 0 ≤ a ∧ a ≤ 2000) : jl_n3 a := ⟨by omega, by omega⟩
theorem jz_name_wf {T : Nat → Int} {e : Nat} {st : jq_S} (hs : jq_wf T e st) : jq_wf T e (jz_name T e st).1 := by
  have ha := hs.at
  have hb : jq_pb T e st ≤ e := by
    rw [jq_pb, jq_wb]
    split
    · exact jq_we_ub ha
    · exact ha
  rw [jz_name]
  split
  · exact hs.fl ha (by decide)
  · split
    · exact hs.fl (by omega) (by decide)
    · exact hs.mv hb
theorem jh_addP {T : Nat → Int} {e N : Nat} {st : jq_S} {Z : jz_Z} {s : jl_Mm} {u : List Int} {a b : Int} (h : jh_B T e st Z s) (h0 : st.1 = 0) (hN : Z.1 2 = (N : Int)) (h6 : N < 6) (hu : jz_vn u) (ha : jl_n3 a) (hb : jl_n3 b) : jE (some (0, jl_up (jl_up (jl_up (jl_up s 242 N (jh_cn u)) 243 (2 * N) a) 243 (2 * N + 1) b) 241 1 ((N : Int) + 1))) 0 jh_FA s (jh_B T e st (jz_s (jz_a (jz_a (jz_n Z 1 (Z.1 2) u) 2 (Z.1 2) a) 3 (Z.1 2) b) 2 (Z.1 2 + 1))) := by
  obtain ⟨hL, hM, hR⟩ := h
  obtain ⟨r1, r2, r3, r4⟩ := hR h0
  obtain ⟨m1, m2, m3⟩ := hM
  have hc := jh_cn_n hu
  obtain ⟨a1, a2⟩ := ha
  obtain ⟨b1, b2⟩ := hb
  have f : jp_fr [(242, 0, 16), (243, 0, 12), (241, 1, 2)] s (jl_up (jl_up (jl_up (jl_up s 242 N (jh_cn u)) 243 (2 * N) a) 243 (2 * N + 1) b) 241 1 ((N : Int) + 1)) := (((jp_fr.rf.up (by simp [jp_in]; omega)).up (by simp [jp_in]; omega)).up (by simp [jp_in]; omega)).up rfl
  have v1 : jl_g (jl_up (jl_up (jl_up (jl_up s 242 N (jh_cn u)) 243 (2 * N) a) 243 (2 * N + 1) b) 241 1 ((N : Int) + 1)) 241 1 = (N : Int) + 1 := jp_g_eq (by omega) (by omega)
  have v2 : ∀ i, jl_gl (jl_up (jl_up (jl_up (jl_up s 242 N (jh_cn u)) 243 (2 * N) a) 243 (2 * N + 1) b) 241 1 ((N : Int) + 1)) 242 i = if i = N then jh_cn u else jl_gl s 242 i := by
    intro i
    rw [jp_gl_ne (by decide), jp_gl_ne (by decide), jp_gl_ne (by decide)]
    by_cases q : i = N
    · subst q; rw [if_pos rfl, jp_gl_eq (by omega) (by omega)]
    · rw [if_neg q, jp_gl_nei q]
  have v3 : ∀ i, jl_g (jl_up (jl_up (jl_up (jl_up s 242 N (jh_cn u)) 243 (2 * N) a) 243 (2 * N + 1) b) 241 1 ((N : Int) + 1)) 243 i = if i = 2 * N + 1 then b else if i = 2 * N then a else jl_g s 243 i := by
    intro i
    rw [jp_g_ne (by decide)]
    by_cases q : i = 2 * N + 1
    · subst q; rw [if_pos rfl, jp_g_eq (by omega) (by omega)]
    · rw [if_neg q, jp_g_nei q]
      by_cases q2 : i = 2 * N
      · subst q2; rw [if_pos rfl, jp_g_eq (by omega) (by omega)]
      · rw [if_neg q2, jp_g_nei q2, jp_g_ne (by decide)]
  generalize jl_up (jl_up (jl_up (jl_up s 242 N (jh_cn u)) 243 (2 * N) a) 243 (2 * N + 1) b) 241 1 ((N : Int) + 1) = τ at *
  have n1 : ∀ i, i ≠ 1 → jp_in [(242, 0, 16), (243, 0, 12), (241, 1, 2)] 241 i = false := by intro i hi; simp [jp_in]; omega
  refine ⟨τ, rfl, f.ws ?_, jh_Lc hL f ?_, ⟨?_, ?_, ?_⟩, fun _ => ⟨fun k hk => ?_, fun i hi => ?_, fun i hi => ?_, fun i hi => ?_⟩⟩
  · intro c i hc; simp [jp_in, jh_FA] at hc ⊢; omega
  · intro c i hc; simp [jp_in] at hc; omega
  · rw [v1]; omega
  · rw [f.g _ _ (n1 2 (by decide))]; exact m2
  · rw [f.g _ _ (n1 3 (by decide))]; exact m3
  · by_cases q : k = 1
    · subst q; rw [v1]; simp only [jz_s]; rw [if_pos trivial, hN]
    · rw [f.g _ _ (n1 k q), r1 k hk]; simp only [jz_s]; rw [if_neg (by omega)]; rfl
  · simp only [jz_s, jz_a, jz_n, if_true] at hi ⊢
    rw [v2, v3, v3, if_neg (show ¬ 2 * i = 2 * N + 1 by omega)]
    by_cases q : i = N
    · subst q
      have hN' : ((i : Nat) : Int) = Z.1 2 := hN.symm
      simp only [if_pos, hN', and_self, if_true]
      exact ⟨trivial, hu, by simp, by simp⟩
    · obtain ⟨x1, x2, x3, x4⟩ := r2 i (by omega)
      have hN' : ¬ ((i : Nat) : Int) = Z.1 2 := by omega
      rw [if_neg q, if_neg (show ¬ 2 * i = 2 * N by omega), if_neg (show ¬ 2 * i + 1 = 2 * N + 1 by omega), if_neg (show ¬ 2 * i + 1 = 2 * N by omega)]
      simp only [hN', and_false, if_false]
      exact ⟨x1, x2, x3, x4⟩
  · simp only [jz_s, jz_a, jz_n] at hi ⊢
    rw [if_neg (by decide)] at hi
    obtain ⟨x1, x2, x3, x4⟩ := r3 i hi
    rw [v2, if_neg (by omega), f.g _ _ (by simp [jp_in]), f.g _ _ (by simp [jp_in])]
    simp only [show ¬ ((4 : Nat) = 1) by decide, show ¬ ((5 : Nat) = 2) by decide, show ¬ ((5 : Nat) = 3) by decide, show ¬ ((6 : Nat) = 2) by decide, show ¬ ((6 : Nat) = 3) by decide, false_and, if_false]
    exact ⟨x1, x2, x3, x4⟩
  · simp only [jz_s, jz_a, jz_n] at hi ⊢
    rw [if_neg (by decide)] at hi
    obtain ⟨x1, x2, x3⟩ := r4 i hi
    rw [f.g _ _ (by simp [jp_in]), f.g _ _ (by simp [jp_in]), f.g _ _ (by simp [jp_in])]
    simp only [show ¬ ((7 : Nat) = 2) by decide, show ¬ ((7 : Nat) = 3) by decide, show ¬ ((8 : Nat) = 2) by decide, show ¬ ((8 : Nat) = 3) by decide, show ¬ ((9 : Nat) = 2) by decide, show ¬ ((9 : Nat) = 3) by decide, false_and, if_false]
    exact ⟨x1, x2, x3⟩
theorem jh_isFull {T : Nat → Int} {e k : Nat} {st : jq_S} {s : jl_Mm} {lim v : Int} (h : jh_L T e st s) (h0 : st.1 = 0) (hk : k < 12) (hn : jl_g s 241 k ≠ lim) : jf_X12_isFull (k : Int) lim v s = some (0, s) := by
  have h5 : jl_g s 206 5 = 0 := by rw [h.m, h0]; rfl
  rw [jf_X12_isFull, if_pos h5, if_pos (by omega), Int.toNat_natCast, if_neg hn, jf_X12_isFull_B23, if_pos h5, jf_X12_isFull_B35, jp_zb0]
theorem jh_person {T : Nat → Int} {e : Nat} {st : jq_S} {Z : jz_Z} {s : jl_Mm} {v : Int} (h : jh_B T e st Z s) (h0 : st.1 = 0) (hs : jq_wf T e st) (hfull : Z.1 2 < 6) (hwin : 0 ≤ Z.1 1 ∧ Z.1 1 ≤ 30) : jE (jf_X12_personTold v s) 0 jh_FA s (jh_B T e (jz_person T e Z st).1 (jz_person T e Z st).2) := by
  have hR0 := h.2.2 h0
  have hm := h.2.1.1
  have hN0 := hR0.1 1 (by decide)
  simp only [Nat.reduceAdd] at hN0
  have key : ∃ N : Nat, Z.1 2 = (N : Int) ∧ N < 6 := ⟨(Z.1 2).toNat, by omega, by omega⟩
  obtain ⟨N, hN, hN6⟩ := key
  rw [jf_X12_personTold, show jf_X12_isFull 1 6 v s = some (0, s) from jh_isFull (k := 1) h.1 h0 (by decide) (by omega), jp_bd, if_pos rfl]
  obtain ⟨r4, ⟨a, a1, a2, a3⟩, a4⟩ := jh_newName h hs
  have kA : st.1 ≠ 0 → (jz_rk Z (jz_name T e st).2 (jq_at e st) (jz_name T e st).1).1 ≠ 0 := fun y => absurd h0 y
  have hp : jz_person T e Z st = ((jz_num T e 0 9 (jz_ew T e 3 (jz_num T e 0 (Z.1 1 - 1) (jz_ew T e 2 (jz_rk Z (jz_name T e st).2 (jq_at e st) (jz_name T e st).1))).1)).1, jz_s (jz_a (jz_a (jz_n Z 1 (Z.1 2) (jz_name T e st).2) 2 (Z.1 2) (jz_num T e 0 (Z.1 1 - 1) (jz_ew T e 2 (jz_rk Z (jz_name T e st).2 (jq_at e st) (jz_name T e st).1))).2) 3 (Z.1 2) (jz_num T e 0 9 (jz_ew T e 3 (jz_num T e 0 (Z.1 1 - 1) (jz_ew T e 2 (jz_rk Z (jz_name T e st).2 (jq_at e st) (jz_name T e st).1))).1)).2) 2 (Z.1 2 + 1)) := rfl
  rw [hp]
  clear hp
  have wA : jq_wf T e (jz_rk Z (jz_name T e st).2 (jq_at e st) (jz_name T e st).1) := jz_rk_wf (jz_name_wf hs) hs.at
  generalize jz_rk Z (jz_name T e st).2 (jq_at e st) (jz_name T e st).1 = S2 at *
  generalize (jz_name T e st).2 = u at *
  obtain ⟨b, b1, b2, b3⟩ := jh_asks (c := 211) (w := 2) (Or.inl (by omega)) rfl a3.1
  have Bb := a3.st b2 b3 (fun y => jz_ew_k y)
  have hq : (jz_ew T e ((2 : Nat) : Int) S2).1 = 0 → jl_sub (jl_g b 241 0) 1 = Z.1 1 - 1 := by
    intro y
    have z := (Bb.2.2 y).1 0 (by decide)
    simp only [Nat.reduceAdd] at z
    rw [z, jp_sub (by omega) (by omega)]
  obtain ⟨r8, ⟨c, c1, c2, c3⟩, c4⟩ := jh_numh (lo := 0) (hi := Z.1 1 - 1) (hi' := jl_sub (jl_g b 241 0) 1) (jp_n3s (by decide)) (jl_n3_to _) hq b3
  have Bc := Bb.st c2 c3 (fun y => by rw [(jz_num_k y).1]; exact y)
  obtain ⟨d, d1, d2, d3⟩ := jh_asks (c := 212) (w := 3) (Or.inl (by omega)) rfl c3
  have Bd := Bc.st d2 d3 (fun y => jz_ew_k y)
  obtain ⟨r12, ⟨f, f1, f2, f3⟩, f4⟩ := jh_num (lo := 0) (hi := 9) (jp_n3s (by decide)) (jp_n3s (by decide)) d3
  have Bf := Bd.st f2 f3 (fun y => by rw [(jz_num_k y).1]; exact y)
  simp only [show ((2 : Nat) : Int) = 2 from rfl, show ((3 : Nat) : Int) = 3 from rfl] at *
  have frs : jp_fr jh_FA s f := ((((a2.tr b2).tr c2).tr d2).tr f2).w jh_FA1
  rw [a1, jp_bd, b1, jp_bd, show (0 : Int).toNat = 0 from rfl, c1, jp_bd, d1, jp_bd, f1, jp_bd, f3.m]
  have n1 : (jz_ew T e 2 S2).1 ≠ 0 → (jz_num T e 0 9 (jz_ew T e 3 (jz_num T e 0 (Z.1 1 - 1) (jz_ew T e 2 S2)).1)).1.1 ≠ 0 := fun y => by
    rw [(jz_num_k y).1]
    have y2 : (jz_ew T e 3 (jz_ew T e 2 S2)).1 ≠ 0 := jz_ew_k y
    rw [(jz_num_k y2).1]; exact y2
  by_cases z : (jz_num T e 0 9 (jz_ew T e 3 (jz_num T e 0 (Z.1 1 - 1) (jz_ew T e 2 S2)).1)).1.1 = 0
  · have z4 : (jz_num T e 0 (Z.1 1 - 1) (jz_ew T e 2 S2)).1.1 = 0 := Classical.byContradiction (fun y => by
      have y2 : (jz_ew T e 3 (jz_num T e 0 (Z.1 1 - 1) (jz_ew T e 2 S2)).1).1 ≠ 0 := jz_ew_k y
      rw [(jz_num_k y2).1] at z; exact y2 z)
    have z3 : (jz_ew T e 2 S2).1 = 0 := Classical.byContradiction (fun y => n1 y z)
    have z2 : S2.1 = 0 := Classical.byContradiction (fun y => (jz_ew_k (T := T) (e := e) (v := 2) y) z3)
    obtain ⟨e1, e2⟩ := a4 z2
    have e8 := c4 z4
    have e12 := f4 z
    have w8 : jl_n3 r8 := by rw [e8]; exact jz_num_b (jz_ew_wf wA (by decide)) (Or.inl rfl) (by omega)
    have w12 : jl_n3 r12 := by rw [e12]; exact jz_num_b (jz_ew_wf (jz_num_wf (jz_ew_wf wA (by decide))) (by decide)) (Or.inl rfl) (by decide)
    have gN : jl_g f 241 1 = (N : Int) := by
      have q := (Bf.2.2 z).1 1 (by decide)
      simp only [Nat.reduceAdd] at q
      rw [q, hN]
    rw [if_pos (by omega), show (1 : Int).toNat = 1 from rfl, gN, jp_let, if_pos (by omega), Int.toNat_natCast, jp_lm, jp_mul (by omega) (by omega), if_pos (by omega), jp_lm, jp_add (by omega) (by omega), if_pos (by omega), jp_lm]
    have gN2 : jl_g (jl_up (jl_up (jl_up f 242 N r4) 243 (2 * (N : Int)).toNat r8) 243 (2 * (N : Int) + 1).toNat r12) 241 1 = (N : Int) := by
      rw [jp_g_ne (by decide), jp_g_ne (by decide), jp_g_ne (by decide)]; exact gN
    rw [gN2, jp_lm, jp_add (by omega) (by omega), show (2 * (N : Int)).toNat = 2 * N by omega, show (2 * (N : Int) + 1).toNat = 2 * N + 1 by omega, e1, e8, e12]
    rw [e8] at w8
    rw [e12] at w12
    exact jE.fr frs (jh_addP Bf z hN hN6 e2 w8 w12)
  · rw [if_neg (by omega)]
    exact ⟨f, rfl, frs, Bf.1, Bf.2.1, fun y => absurd y z⟩
