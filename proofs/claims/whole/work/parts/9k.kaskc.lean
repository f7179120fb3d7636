/-! PURE: a question as it is read; the class reads it -/
def kq_s0 (T : Nat → Int) (e : Nat) : jq_S := (0, jq_sk T e 0, [])
def kq_w (T : Nat → Int) (e : Nat) : Int := jq_pn T e (kq_s0 T e)
def kq_t (T : Nat → Int) (e : Nat) : Nat := if 34 < kq_w T e then 3 else 0
def kq_r (T : Nat → Int) (e : Nat) : jq_S := if 32 ≤ kq_w T e then jq_g T e 3 60 (kq_t T e) 0 0 (jq_mv T e (jq_pb T e (kq_s0 T e)) (kq_s0 T e)) else jq_fl 1 (jq_at e (kq_s0 T e)) (kq_s0 T e)
def kq_st (T : Nat → Int) (e : Nat) : jq_S := if 32 ≤ kq_w T e then (if jq_pc T e (kq_r T e) = -1 then kq_r T e else jq_fl 1 (jq_at e (kq_r T e)) (kq_r T e)) else kq_r T e
theorem kq_wf0 {T : Nat → Int} {e : Nat} : jq_wf T e (kq_s0 T e) := ⟨jq_sk_ub (Nat.zero_le _), fun _ => jq_sk_idem⟩
theorem kq_pb {T : Nat → Int} {e : Nat} (h : 32 ≤ kq_w T e) : jq_pb T e (kq_s0 T e) ≤ e ∧ (kq_s0 T e).2.1 < jq_pb T e (kq_s0 T e) ∧ jq_pb T e (kq_s0 T e) = jq_we T e (jq_sk T e 0) := by
  obtain ⟨-, -, h3, h4⟩ := jq_pn_in (T := T) (e := e) (st := kq_s0 T e) rfl (by have : jq_pn T e (kq_s0 T e) = kq_w T e := rfl; omega)
  have := jq_we_ub (T := T) (e := e) (a := (kq_s0 T e).2.1) (kq_wf0).1
  exact ⟨by omega, by omega, h3⟩
theorem kq_t7 {T : Nat → Int} {e : Nat} : (kq_t T e = 0 ∨ kq_t T e = 3) ∧ jq_nd (kq_t T e) 0 ≤ 60 := by
  rw [kq_t]
  split
  · exact ⟨Or.inr rfl, by decide⟩
  · exact ⟨Or.inl rfl, by decide⟩
theorem kq_ml {T : Nat → Int} {e : Nat} (h : 32 ≤ kq_w T e) : jq_wf T e (kq_r T e) ∧ jq_rl 3 (decide (kq_t T e ≤ 2)) (jq_h (kq_t T e) 0) (jq_mv T e (jq_pb T e (kq_s0 T e)) (kq_s0 T e)) (kq_r T e) := by
  have ht := kq_t7 (T := T) (e := e)
  have W := (kq_wf0 (T := T) (e := e)).mv (kq_pb h).1
  rw [kq_r, if_pos h]
  exact jq_ML_all (T := T) (e := e) (kind := 3) 60 (kq_t T e) 0 0 _ ht.2 (by omega) (by decide) W (fun z => by omega) (fun z => by omega)
theorem kq_st0 {T : Nat → Int} {e : Nat} (h : (kq_st T e).1 = 0) : 32 ≤ kq_w T e ∧ kq_st T e = kq_r T e ∧ (kq_r T e).1 = 0 ∧ jq_pc T e (kq_r T e) = -1 := by
  rw [kq_st] at h ⊢
  by_cases c : 32 ≤ kq_w T e
  · rw [if_pos c] at h ⊢
    by_cases p : jq_pc T e (kq_r T e) = -1
    · rw [if_pos p] at h ⊢; exact ⟨c, rfl, h, p⟩
    · rw [if_neg p] at h
      rw [jq_fl] at h
      by_cases z : (kq_r T e).1 = 0
      · rw [if_pos z] at h; exact absurd h (by show (1 : Nat) ≠ 0; decide)
      · rw [if_neg z] at h; exact absurd h z
  · rw [if_neg c] at h
    rw [kq_r, if_neg c, jq_fl, if_pos (show (kq_s0 T e).1 = 0 from rfl)] at h
    exact absurd h (by show (1 : Nat) ≠ 0; decide)
theorem kq_ty {T : Nat → Int} {e : Nat} (h : (kq_st T e).1 = 0) : jq_ty (kq_st T e).2.2 [] = some [decide (kq_t T e ≤ 2)] ∧ (∀ x ∈ (kq_st T e).2.2, jq_cq 3 x) ∧ (kq_st T e).2.2.length ≤ e := by
  obtain ⟨h1, h2, h3, h4⟩ := kq_st0 h
  obtain ⟨m1, -, m3⟩ := kq_ml h1
  obtain ⟨c, c1, c2, c3, c4, c5⟩ := m3 (by rw [jq_mv0 (show (kq_s0 T e).1 = 0 from rfl)]) h3
  rw [jq_mv0 (show (kq_s0 T e).1 = 0 from rfl)] at c1 c2
  rw [h2, c1]
  have e0 : ((0 : Nat), jq_sk T e (jq_pb T e (kq_s0 T e)), (kq_s0 T e).2.2).2.2 ++ c = c := List.nil_append c
  rw [e0]
  refine ⟨c4 [] (by rw [List.length_nil]; have := (kq_t7 (T := T) (e := e)).1; rw [jq_h]; omega), c5, ?_⟩
  have := m1.1
  omega
/-- the cells of the question's reading -/
def kc_FQr : jp_F := [(38, 0, 0), (3, 0, 0), (4, 0, 0), (5, 0, 0), (6, 0, 0), (7, 0, 0)]
theorem kc_FQrn {c i : Nat} (h : c < 3 ∨ (7 < c ∧ c ≠ 38)) : jp_in kc_FQr c i = false := by simp [jp_in, kc_FQr]; omega
theorem kc_QF {s τ : jl_Mm} {w : Nat} (f : jp_fr (jq_QF 3 w) s τ) : jp_fr kc_FQr s τ := f.ws (by intro c i h; simp [jp_in, jq_QF, kc_FQr] at h ⊢; omega)
theorem kc_qstart {T : Nat → Int} {e w : Nat} {s : jl_Mm} (hw : w = 0 ∨ w = 1 ∨ w = 2) (hP : jq_P T e s) (h5 : jl_g s 3 5 = (w : Int)) : jE (jf_X4_start 3 s) 0 kc_FQr s (fun τ => jq_CS T e 3 w 0 (kq_s0 T e) τ ∧ jl_g τ 38 3 = 0) := by
  have q0 : jq_qw 3 w := ⟨Or.inl rfl, hw⟩
  have f1 : jp_fr [(38, 1, 2), (3, 4, 5)] s (jl_up (jl_up s 38 1 ((3 : Nat) : Int)) 3 4 0) := (jp_fr.rf.up (by decide)).up (by decide)
  have v31 : jl_up (jl_up s 38 1 ((3 : Nat) : Int)) 3 4 0 38 1 = ((3 : Nat) : Int) := by rw [jp_r_ne (by decide), jp_r_eq]
  have v34 : jl_g (jl_up (jl_up s 38 1 ((3 : Nat) : Int)) 3 4 0) 3 4 = 0 := jp_g_eq (by decide) (by decide)
  rw [jf_X4_start, if_pos (jq_kdq q0), jp_lm, jf_X0_clear, if_pos (jq_kdq q0), jp_lm]
  generalize jl_up (jl_up s 38 1 ((3 : Nat) : Int)) 3 4 0 = s3 at *
  have n3 : ∀ {c i : Nat}, (c = 38 → i ≠ 1) → (c = 3 → i ≠ 4) → jp_in [(38, 1, 2), (3, 4, 5)] c i = false := by intro c i h1 h2; simp [jp_in]; omega
  have P3 := hP.fr f1 (n3 (by omega) (by omega)) (fun i => n3 (by omega) (by omega))
  have c5 : jl_g s3 3 5 = (w : Int) := (f1.g _ _ (n3 (by omega) (by omega))).trans h5
  obtain ⟨s4, t1, f4, t3⟩ := jx0_clearL (q := 3) 3 jl_fu 0 s3 rfl (by decide)
  rw [show jf_X0_clear_L7 jl_fu 3 0 s3 = some (0, s4) from t1, jp_bd, jp_lm, jp_lm, jp_lm, jp_lm]
  have n4 : ∀ {c i : Nat}, (c < 5 ∨ 7 < c) → jp_in [(3 + 2, 0, 0), (3 + 3, 0, 0), (3 + 4, 0, 0)] c i = false := by intro c i h1; simp [jp_in]; omega
  have P4 := P3.fr f4 (n4 (by omega)) (fun i => n4 (by omega))
  have d5 : jl_g s4 3 5 = (w : Int) := (f4.g _ _ (n4 (by omega))).trans c5
  have w31 : s4 38 1 = ((3 : Nat) : Int) := (f4 _ _ (n4 (by omega))).trans v31
  have w34 : jl_g s4 3 4 = 0 := (f4.g _ _ (n4 (by omega))).trans v34
  have v23 : jl_g s4 6 w = 0 := ((t3 w (by omega)).1 (by omega)).2
  have f5 : jp_fr [(38, 3, 5), (38, 7, 9)] s4 (jl_up (jl_up (jl_up (jl_up s4 38 3 0) 38 4 0) 38 7 0) 38 8 (-1)) := (((jp_fr.rf.up (by decide)).up (by decide)).up (by decide)).up (by decide)
  have y3 : jl_g (jl_up (jl_up (jl_up (jl_up s4 38 3 0) 38 4 0) 38 7 0) 38 8 (-1)) 38 3 = 0 := by rw [jp_g_nei (by decide), jp_g_nei (by decide), jp_g_nei (by decide), jp_g_eq (by decide) (by decide)]
  have y4 : jl_g (jl_up (jl_up (jl_up (jl_up s4 38 3 0) 38 4 0) 38 7 0) 38 8 (-1)) 38 4 = 0 := by rw [jp_g_nei (by decide), jp_g_nei (by decide), jp_g_eq (by decide) (by decide)]
  have y7 : jl_g (jl_up (jl_up (jl_up (jl_up s4 38 3 0) 38 4 0) 38 7 0) 38 8 (-1)) 38 7 = 0 := by rw [jp_g_nei (by decide), jp_g_eq (by decide) (by decide)]
  have y8 : jl_g (jl_up (jl_up (jl_up (jl_up s4 38 3 0) 38 4 0) 38 7 0) 38 8 (-1)) 38 8 = -1 := jp_g_eq (by decide) (by decide)
  generalize jl_up (jl_up (jl_up (jl_up s4 38 3 0) 38 4 0) 38 7 0) 38 8 (-1) = s5 at *
  have n5 : ∀ {c i : Nat}, (c = 38 → i < 3) → jp_in [(38, 3, 5), (38, 7, 9)] c i = false := by intro c i h1; simp [jp_in]; omega
  have P5 := P4.fr f5 (n5 (by omega)) (fun i => n5 (by omega))
  have F : jp_fr kc_FQr s s5 := (f1.ws (by intro c i h; simp [jp_in, kc_FQr] at h ⊢; omega)).tr ((f4.ws (by intro c i h; simp [jp_in, kc_FQr] at h ⊢; omega)).tr (f5.ws (by intro c i h; simp [jp_in, kc_FQr] at h ⊢; omega)))
  have z4 : jl_g s5 3 4 = 0 := (f5.g _ _ (n5 (by omega))).trans w34
  refine ⟨s5, rfl, F, ⟨P5, (f5 _ _ (n5 (by omega))).trans w31, (f5.g _ _ (n5 (by omega))).trans d5, by omega, ⟨0, y4, Nat.zero_le _, rfl⟩, fun _ => ⟨y7, y8, ⟨z4, (f5.g _ _ (n5 (by omega))).trans v23, fun i hi => absurd hi (Nat.not_lt_zero _), ?_, ?_⟩, Nat.le_refl _, Nat.zero_le _⟩, fun z => absurd rfl z⟩, y3⟩ <;> (intro hm; simp [kq_s0] at hm)
theorem kc_qallow {T : Nat → Int} {e w : Nat} {st : jq_S} {s : jl_Mm} (hw : w = 0 ∨ w = 1 ∨ w = 2) (h : jq_CS T e 3 w 0 st s) (h0 : st.1 = 0) (hn : st.2.2 = []) (h3 : jl_g s 38 3 = 0) : ∃ τ, jf_X4_allow 0 67076104 s = some (0, τ) ∧ jp_fr kc_FQr s τ ∧ jq_CO T e 3 0 0 3 0 st τ ∧ jl_g τ 5 0 = 0 := by
  have q0 : jq_qw 3 w := ⟨Or.inl rfl, hw⟩
  obtain ⟨g1, g2⟩ := jq_gc q0 h
  obtain ⟨c1, c2, c3, c3b, ⟨p, p1, p2, p3⟩, c5, -⟩ := h
  obtain ⟨a1, a2, ⟨k1, -, -, -, -⟩, -, a5⟩ := c5 h0
  rw [hn] at k1
  have k4 : jl_g s 3 4 = 0 := k1
  have e4a : jl_g (jl_up s 3 5 0) 3 4 = 0 := by rw [jp_g_nei (by decide)]; exact k4
  have e4b : jl_g (jl_up (jl_up s 3 5 0) (3 + 2) 0 0) 3 4 = 0 := by rw [jp_g_ne (by decide)]; exact e4a
  rw [jf_X4_allow, if_pos g1, g2, jf_X0_start, if_pos (jq_kdq q0), jp_lm, if_pos (by decide), show (0 : Int).toNat = 0 from rfl, e4a, jp_lm, if_pos (by decide), e4b, jp_lm, if_pos (by decide), jp_lm, jp_bd, jp_lm]
  have F : jp_fr kc_FQr s (jl_up (jl_up (jl_up (jl_up (jl_up s 3 5 0) (3 + 2) 0 0) (3 + 3) 0 0) (3 + 4) 0 0) 38 2 67076104) := ((((jp_fr.rf.up (by decide)).up (by decide)).up (by decide)).up (by decide)).up (by decide)
  have f : jp_fr [(3, 5, 6), (5, 0, 0), (6, 0, 0), (7, 0, 0), (38, 2, 3)] s (jl_up (jl_up (jl_up (jl_up (jl_up s 3 5 0) (3 + 2) 0 0) (3 + 3) 0 0) (3 + 4) 0 0) 38 2 67076104) := ((((jp_fr.rf.up (by decide)).up (by decide)).up (by decide)).up (by decide)).up (by decide)
  have x5 : jl_g (jl_up (jl_up (jl_up (jl_up (jl_up s 3 5 0) (3 + 2) 0 0) (3 + 3) 0 0) (3 + 4) 0 0) 38 2 67076104) 3 5 = 0 := by rw [jp_g_ne (by decide), jp_g_ne (by decide), jp_g_ne (by decide), jp_g_ne (by decide), jp_g_eq (by decide) (by decide)]
  have x2 : jl_g (jl_up (jl_up (jl_up (jl_up (jl_up s 3 5 0) (3 + 2) 0 0) (3 + 3) 0 0) (3 + 4) 0 0) 38 2 67076104) 5 0 = 0 := by rw [jp_g_ne (by decide), jp_g_ne (by decide), jp_g_ne (by decide), show (3 + 2 : Nat) = 5 from rfl, jp_g_eq (by decide) (by decide)]
  have x3 : jl_g (jl_up (jl_up (jl_up (jl_up (jl_up s 3 5 0) (3 + 2) 0 0) (3 + 3) 0 0) (3 + 4) 0 0) 38 2 67076104) 6 0 = 0 := by rw [jp_g_ne (by decide), jp_g_ne (by decide), show (3 + 3 : Nat) = 6 from rfl, jp_g_eq (by decide) (by decide)]
  have xv : jl_g (jl_up (jl_up (jl_up (jl_up (jl_up s 3 5 0) (3 + 2) 0 0) (3 + 3) 0 0) (3 + 4) 0 0) 38 2 67076104) 38 2 = 67076104 := jp_g_eq (by decide) (by decide)
  generalize jl_up (jl_up (jl_up (jl_up (jl_up s 3 5 0) (3 + 2) 0 0) (3 + 3) 0 0) (3 + 4) 0 0) 38 2 67076104 = τ at *
  have n : ∀ {c i : Nat}, (c = 38 → i ≠ 2) → (c = 3 → i ≠ 5) → (c < 5 ∨ 7 < c) → jp_in [(3, 5, 6), (5, 0, 0), (6, 0, 0), (7, 0, 0), (38, 2, 3)] c i = false := by intro c i h1 h2 h3; simp [jp_in]; omega
  have z4 : jl_g τ 3 4 = 0 := (f.g _ _ (n (by omega) (by omega) (by omega))).trans k4
  refine ⟨τ, rfl, F, ⟨⟨c1.fr f (n (by omega) (by omega) (by omega)) (fun i => n (by omega) (by omega) (by omega)), (f _ _ (n (by omega) (by omega) (by omega))).trans c2, x5, by omega, ⟨p, (f.g _ _ (n (by omega) (by omega) (by omega))).trans p1, p2, p3⟩, fun z => ⟨(f.g _ _ (n (by omega) (by omega) (by omega))).trans a1, (f.g _ _ (n (by omega) (by omega) (by omega))).trans a2, ?_, Nat.zero_le _, a5⟩, fun z => absurd h0 z⟩, (f.g _ _ (n (by omega) (by omega) (by omega))).trans h3, by rw [xv]; rfl⟩, x2⟩
  rw [hn]
  refine ⟨z4, x3, fun i hi => absurd hi (Nat.not_lt_zero _), ?_, ?_⟩ <;> (intro hm; simp at hm)
/-- what the class's reader leaves -/
def kc_qP (T : Nat → Int) (e : Nat) (τ : jl_Mm) : Prop :=
  (∃ w : Nat, (w = 0 ∨ w = 1 ∨ w = 2) ∧ jl_g τ 3 5 = (w : Int)) ∧ (jl_g τ 38 7 = ((kq_st T e).1 : Int) ∧ jl_g τ 38 8 = if (kq_st T e).1 = 0 then -1 else ((kq_st T e).2.1 : Int)) ∧ ((kq_st T e).1 = 0 → kc_C 3 0 (kq_st T e).2.2 τ)
theorem kc_qP.of {T : Nat → Int} {e w : Nat} {τ : jl_Mm} (hw : w = 0 ∨ w = 1 ∨ w = 2) (h : jq_CS T e 3 w 0 (kq_st T e) τ) (h0 : (kq_st T e).1 = 0 → w = 0 ∧ jl_g τ 5 0 = 0) : kc_qP T e τ := by
  have he := h.1.1
  obtain ⟨-, -, c3, c3b, -, c5, c6⟩ := h
  refine ⟨⟨w, hw, c3⟩, ?_, fun z => ?_⟩
  · by_cases c : (kq_st T e).1 = 0
    · obtain ⟨a1, a2, -⟩ := c5 c
      rw [if_pos c]
      exact ⟨by rw [a1, c]; rfl, a2⟩
    · rw [if_neg c]; exact c6 c
  · obtain ⟨-, -, ⟨k1, k2, k3, k4, k5⟩, -, -⟩ := c5 z
    obtain ⟨rfl, y⟩ := h0 z
    have hl := (kq_ty z).2.2
    refine ⟨0, (kq_st T e).2.2.length, y, k2, Nat.zero_add _, by omega, fun i hi => ?_, k4, k5⟩
    rw [Nat.zero_add]
    exact k3 i hi
theorem kc_readQ {T : Nat → Int} {e : Nat} {s : jl_Mm} (hP : jq_P T e s) (h5 : ∃ w : Nat, (w = 0 ∨ w = 1 ∨ w = 2) ∧ jl_g s 3 5 = (w : Int)) : jE (jf_X4_readQuestion 3 s) (kq_w T e) kc_FQr s (kc_qP T e) := by
  obtain ⟨w, hw, h5⟩ := h5
  have q0 : jq_qw 3 w := ⟨Or.inl rfl, hw⟩
  have q1 : jq_qw 3 0 := ⟨Or.inl rfl, Or.inl rfl⟩
  obtain ⟨s1, t1, f1, C1, z1⟩ := kc_qstart hw hP h5
  obtain ⟨s2, t2, f2, C2, z2, z3⟩ := jx4c_word q0 C1
  have F2 : jp_fr kc_FQr s s2 := f1.tr (f2.ws (by intro c i h; simp [jp_in, kc_FQr] at h ⊢; omega))
  have y3 : jl_g s2 38 3 = 0 := (f2.g _ _ (by decide)).trans z1
  have he := hP.1
  rw [jf_X4_readQuestion, if_pos (jq_kdq q0), t1, jp_bd, t2, jp_bd]
  show jE (if 32 ≤ kq_w T e then _ else _) _ _ _ _
  by_cases c : 32 ≤ kq_w T e
  · obtain ⟨b1, b2, b3⟩ := kq_pb c
    have C3 := jx4c_mv q0 C2 rfl b1 (Nat.le_of_lt b2)
    have F3 : jp_fr kc_FQr s (jl_up s2 38 4 ((jq_pb T e (kq_s0 T e) : Nat) : Int)) := F2.up (by decide)
    have x3 : jl_g (jl_up s2 38 4 ((jq_pb T e (kq_s0 T e) : Nat) : Int)) 38 3 = 0 := by rw [jp_g_nei (by decide)]; exact y3
    rw [if_pos c, z3, jp_lm]
    generalize jl_up s2 38 4 ((jq_pb T e (kq_s0 T e) : Nat) : Int) = s3 at *
    have m0 : (jq_mv T e (jq_pb T e (kq_s0 T e)) (kq_s0 T e)).1 = 0 := by rw [jq_mv0 (show (kq_s0 T e).1 = 0 from rfl)]
    have m2 : (jq_mv T e (jq_pb T e (kq_s0 T e)) (kq_s0 T e)).2.2 = [] := by rw [jq_mv0 (show (kq_s0 T e).1 = 0 from rfl)]; rfl
    obtain ⟨s4, t4, f4, C4, z4⟩ := kc_qallow hw C3 m0 m2 x3
    have ht := kq_t7 (T := T) (e := e)
    have W := (kq_wf0 (T := T) (e := e)).mv b1
    obtain ⟨s5, t5, f5, C5⟩ := jx4_grp q1 (f := 0) (kind := 3) (by decide) 60 (kq_t T e) 0 0 _ s4 ht.2 (by omega) (by decide) W C4 (fun z => by omega) (fun z => by omega)
    have er : jq_g T e 3 60 (kq_t T e) 0 0 (jq_mv T e (jq_pb T e (kq_s0 T e)) (kq_s0 T e)) = kq_r T e := by rw [kq_r, if_pos c]
    rw [er] at C5
    have z5 : jl_g s5 5 0 = 0 := (f5.g _ _ (by decide)).trans z4
    have F5 : jp_fr kc_FQr s s5 := (F3.tr f4).tr (kc_QF f5)
    have wr := (kq_ml c).1
    have e5 : (if 34 < kq_w T e then jl_bd (jf_X4_grp 60 3 0 s4) fun _ s11 => jf_X4_readQuestion_B59 (kq_w T e) s11 else jl_bd (jf_X4_grp 60 0 0 s4) fun _ s18 => jf_X4_readQuestion_B59 (kq_w T e) s18) = jf_X4_readQuestion_B59 (kq_w T e) s5 := by
      rw [kq_t] at t5
      by_cases q : 34 < kq_w T e
      · rw [if_pos q] at t5 ⊢; rw [t5, jp_bd]
      · rw [if_neg q] at t5 ⊢; rw [t5, jp_bd]
    rw [t4, jp_bd]
    show jE (if 34 < kq_w T e then jl_bd (jf_X4_grp 60 3 0 s4) fun _ s11 => jf_X4_readQuestion_B59 (kq_w T e) s11 else jl_bd (jf_X4_grp 60 0 0 s4) fun _ s18 => jf_X4_readQuestion_B59 (kq_w T e) s18) _ _ _ _
    rw [e5, jf_X4_readQuestion_B59]
    obtain ⟨s6, t6, f6, C6, y6⟩ := jx4c_peek q1 C5.1
    have F6 : jp_fr kc_FQr s s6 := F5.tr (f6.ws (by intro c i h; simp [jp_in, kc_FQr] at h ⊢; omega))
    have z6 : jl_g s6 5 0 = 0 := (f6.g _ _ (by decide)).trans z5
    rw [t6, jp_bd]
    by_cases p : jq_pc T e (kq_r T e) = -1
    · have es : kq_st T e = kq_r T e := by rw [kq_st, if_pos c, if_pos p]
      rw [if_pos p, jf_X4_readQuestion_B76]
      exact ⟨s6, rfl, F6, kc_qP.of (w := 0) (Or.inl rfl) (by rw [es]; exact C6) (fun _ => ⟨rfl, z6⟩)⟩
    · have es : kq_st T e = jq_fl 1 (jq_at e (kq_r T e)) (kq_r T e) := by rw [kq_st, if_pos c, if_neg p]
      obtain ⟨s7, t7, f7, C7⟩ := jx4c_fail (k := 1) (p := jq_at e (kq_r T e)) q1 C6 (by decide) (by decide) (by have := wr.at; omega)
      rw [if_neg p, y6, show jf_X4_fail 1 ((jq_at e (kq_r T e) : Nat) : Int) s6 = some (0, s7) from t7, jp_bd, jf_X4_readQuestion_B76]
      exact ⟨s7, rfl, F6.tr (f7.ws (by intro c i h; simp [jp_in, kc_FQr] at h ⊢; omega)), kc_qP.of (w := 0) (Or.inl rfl) (by rw [es]; exact C7) (fun _ => ⟨rfl, (f7.g _ _ (by decide)).trans z6⟩)⟩
  · have es : kq_st T e = jq_fl 1 (jq_at e (kq_s0 T e)) (kq_s0 T e) := by rw [kq_st, if_neg c, kq_r, if_neg c]
    obtain ⟨s7, t7, f7, C7⟩ := jx4c_fail (k := 1) (p := jq_at e (kq_s0 T e)) q0 C2 (by decide) (by decide) (by have := (kq_wf0 (T := T) (e := e)).at; omega)
    have ne : (kq_st T e).1 ≠ 0 := by rw [es, jq_fl0 (show (kq_s0 T e).1 = 0 from rfl)]; show (1 : Nat) ≠ 0; decide
    rw [if_neg c, z2, show jf_X4_fail 1 ((jq_at e (kq_s0 T e) : Nat) : Int) s2 = some (0, s7) from t7, jp_bd]
    exact ⟨s7, rfl, F2.tr (f7.ws (by intro c i h; simp [jp_in, kc_FQr] at h ⊢; omega)), kc_qP.of hw (by rw [es]; exact C7) (fun z => absurd z ne)⟩
