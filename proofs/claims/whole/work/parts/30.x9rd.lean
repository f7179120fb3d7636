/-! PURE, the class's street reader: each kind of statement is read as jz_one tells -/
theorem jz_B.k {T : Nat → Int} {e H w f : Nat} {st : jq_S} {Z Z' : jz_Z} {τ : jl_Mm} (h : jz_B T e H w f st Z τ) (hz : st.1 ≠ 0 ∨ Z = Z') : jz_B T e H w f st Z' τ := by
  rcases hz with hz | rfl
  · obtain ⟨h1, h2, h3, h4, h5, h6, h7, -⟩ := h
    exact ⟨h1, h2, h3, h4, h5, h6, h7, fun z => absurd z hz⟩
  · exact h
theorem jp_n3s {a : Int} (h : -2147483648 ≤ a ∧ a < 2147483648) : jl_n3 a := h
theorem jz_num_b {T : Nat → Int} {e : Nat} {lo hi : Int} {st : jq_S} (hs : jq_wf T e st) (hl : lo = 0 ∨ lo = 1 ∨ lo = 2) (hi9 : hi ≤ 100000) : jl_n3 (jz_num T e lo hi st).2 := by
  have nm := jq_nm_ok (T := T) (lo := lo) (hi := hi) hs.at
  rw [jz_num]
  simp only
  by_cases h : (jq_nm T e lo hi (jq_at e st)).1 = 0
  · obtain ⟨a, b, c⟩ := nm.2 h
    exact ⟨by omega, by omega⟩
  · have : (jq_nm T e lo hi (jq_at e st)).2.2 = lo := by
      have h2 := h
      rw [jq_nm] at h2 ⊢
      split
      · rfl
      · split
        · rfl
        · split
          · rfl
          · rename_i a b c
            rw [if_neg a, if_neg b, if_neg c] at h2
            exact absurd rfl h2
    rw [this]
    rcases hl with rfl | rfl | rfl <;> exact ⟨by decide, by decide⟩
theorem jz_bPerson {T : Nat → Int} {e H w f : Nat} {st : jq_S} {Z : jz_Z} {s : jl_Mm} (hH : jz_Hq H) (hw : w = 0 ∨ w = 1 ∨ w = 2) (h : jz_B T e H w f st Z s) (hs : jq_wf T e st) (hfull : st.1 = 0 → Z.1 2 < 6) (hwin : st.1 = 0 → 0 ≤ Z.1 1 ∧ Z.1 1 ≤ 30) : ∃ τ, jf_X9_readPerson s = some (0, τ) ∧ jp_fr (jz_FH H) s τ ∧ jz_B T e H w f (jz_person T e Z st).1 (jz_person T e Z st).2 τ ∧ jq_wf T e (jz_person T e Z st).1 := by
  have he := h.1.1.1
  have ha := hs.at
  obtain ⟨r1, a0, a1, a2, a3, a4, a5, a6⟩ := jz_bName hH hw h hs
  obtain ⟨b0, b1, b2, b3⟩ := jz_bRk hH hw a3 a5 a4 (by omega)
  have b6 := jz_rk_wf (Z := Z) (u := (jz_name T e st).2) a6 ha
  obtain ⟨c0, c1, c2, c3⟩ := jz_bEw (v := 2) hH hw b3 b6 (by decide)
  have c6 := jz_ew_wf (v := 2) b6 (by decide)
  obtain ⟨g1, g2⟩ := jz_gH hH c3
  obtain ⟨d0, d1, d2, d3⟩ := jz_bNum (lo := 0) (hi := jl_sub (jl_g c0 H 1) 1) hH hw c3 c6
  have d6 := jz_num_wf (lo := 0) (hi := jl_sub (jl_g c0 H 1) 1) c6
  have ekey : jz_num T e 0 (jl_sub (jl_g c0 H 1) 1) (jz_ew T e 2 (jz_rk Z (jz_name T e st).2 (jq_at e st) (jz_name T e st).1)) = jz_num T e 0 (Z.1 1 - 1) (jz_ew T e 2 (jz_rk Z (jz_name T e st).2 (jq_at e st) (jz_name T e st).1)) := by
    generalize hS : jz_ew T e 2 (jz_rk Z (jz_name T e st).2 (jq_at e st) (jz_name T e st).1) = S at *
    by_cases h0 : S.1 = 0
    · have hst : st.1 = 0 := by
        apply Classical.byContradiction
        intro z
        rw [← hS] at h0
        refine jz_ew_k ?_ h0
        rw [jz_rk_k (jz_name_k z)]
        exact jz_name_k z
      have := hwin hst
      rw [(c3.2.2.2.2.2.2.2 h0).1 1 (by decide), jp_sub (by omega) (by omega)]
    · have e1 := jz_num_k (T := T) (e := e) (lo := 0) (hi := jl_sub (jl_g c0 H 1) 1) h0
      have e2 := jz_num_k (T := T) (e := e) (lo := 0) (hi := Z.1 1 - 1) h0
      exact Prod.ext (e1.1.trans e2.1.symm) (e1.2.trans e2.2.symm)
  rw [ekey] at d1 d3 d6
  obtain ⟨f0, f1, f2, f3⟩ := jz_bEw (v := 3) hH hw d3 d6 (by decide)
  have f6 := jz_ew_wf (v := 3) d6 (by decide)
  obtain ⟨x0, x1, x2, x3⟩ := jz_bNum (lo := 0) (hi := 9) hH hw f3 f6
  have x6 := jz_num_wf (lo := 0) (hi := 9) f6
  obtain ⟨g1', g2'⟩ := jz_gH hH x3
  have hmono : (jz_person T e Z st).1.1 = 0 → (jz_name T e st).1.1 = 0 ∧ st.1 = 0 := by
    intro z
    have k1 : (jz_name T e st).1.1 = 0 := by
      apply Classical.byContradiction
      intro y
      refine absurd z ?_
      have y1 : (jz_ew T e 2 (jz_rk Z (jz_name T e st).2 (jq_at e st) (jz_name T e st).1)).1 ≠ 0 := jz_ew_k (by rw [jz_rk_k y]; exact y)
      have y2 := (jz_num_k (T := T) (e := e) (lo := 0) (hi := Z.1 1 - 1) y1).1
      have y3 : (jz_ew T e 3 (jz_num T e 0 (Z.1 1 - 1) (jz_ew T e 2 (jz_rk Z (jz_name T e st).2 (jq_at e st) (jz_name T e st).1))).1).1 ≠ 0 := jz_ew_k (by rw [y2]; exact y1)
      have y4 := (jz_num_k (T := T) (e := e) (lo := 0) (hi := 9) y3).1
      show (jz_num T e 0 9 (jz_ew T e 3 (jz_num T e 0 (Z.1 1 - 1) (jz_ew T e 2 (jz_rk Z (jz_name T e st).2 (jq_at e st) (jz_name T e st).1))).1)).1.1 ≠ 0
      rw [y4]
      exact y3
    exact ⟨k1, Classical.byContradiction (fun y => jz_name_k (T := T) (e := e) y k1)⟩
  have hn8 : jl_n3 (jz_num T e 0 (Z.1 1 - 1) (jz_ew T e 2 (jz_rk Z (jz_name T e st).2 (jq_at e st) (jz_name T e st).1))).2 := by
    by_cases h0 : st.1 = 0
    · have := hwin h0
      exact jz_num_b c6 (Or.inl rfl) (by omega)
    · rw [(jz_num_k (T := T) (e := e) (lo := 0) (hi := Z.1 1 - 1) (jz_ew_k (by rw [jz_rk_k (jz_name_k h0)]; exact jz_name_k h0))).2]
      exact ⟨by decide, by decide⟩
  obtain ⟨y0, y1, y2, y3⟩ := jz_bAddP (v := r1) (a := (jz_num T e 0 (Z.1 1 - 1) (jz_ew T e 2 (jz_rk Z (jz_name T e st).2 (jq_at e st) (jz_name T e st).1))).2) (b := (jz_num T e 0 9 (jz_ew T e 3 (jz_num T e 0 (Z.1 1 - 1) (jz_ew T e 2 (jz_rk Z (jz_name T e st).2 (jq_at e st) (jz_name T e st).1))).1)).2) (u := (jz_name T e st).2) hH x3 (fun z => a5 (hmono z).1) hn8 (jz_num_b f6 (Or.inl rfl) (by decide)) (fun z => hfull (hmono z).2)
  refine ⟨y0, ?_, ((((((a2.tr b2).tr c2).tr d2).tr f2).tr x2).w (jz_FHw H)).tr y2, y3, x6⟩
  rw [jf_X9_readPerson, a1, jp_bd, b1, jp_bd, c1, jp_bd, if_pos g1, g2, d1, jp_bd, f1, jp_bd, x1, jp_bd, if_pos g1', g2', y1, jp_bd]
theorem jz_rn_i {i : Int} {na : Nat} {st : jq_S} (h : (jz_rn i na st).1 = 0) : i ≠ -1 := by
  intro q
  rw [jz_rn, if_pos q] at h
  by_cases k : st.1 = 0
  · rw [jq_fl0 k] at h; exact absurd (show (3 : Nat) = 0 from h) (by decide)
  · rw [jq_flk k] at h; exact k h
theorem jz_bLie {T : Nat → Int} {e H w f : Nat} {st : jq_S} {Z : jz_Z} {s : jl_Mm} (hH : jz_Hq H) (hw : w = 0 ∨ w = 1 ∨ w = 2) (h : jz_B T e H w f st Z s) (hs : jq_wf T e st) (hfull : st.1 = 0 → Z.1 3 < 8) : ∃ τ, jf_X9_readLie s = some (0, τ) ∧ jp_fr (jz_FH H) s τ ∧ jz_B T e H w f (jz_lie T e Z st).1 (jz_lie T e Z st).2 τ ∧ jq_wf T e (jz_lie T e Z st).1 := by
  have he := h.1.1.1
  have ha := hs.at
  obtain ⟨r1, a0, a1, a2, a3, a4, a5, a6⟩ := jz_bName hH hw h hs
  obtain ⟨b0, b1, b2, b3⟩ := jz_bRk hH hw a3 a5 a4 (by omega)
  have b6 := jz_rk_wf (Z := Z) (u := (jz_name T e st).2) a6 ha
  obtain ⟨c0, c1, c2, c3⟩ := jz_bEw (v := 5) hH hw b3 b6 (by decide)
  have c6 := jz_ew_wf (v := 5) b6 (by decide)
  obtain ⟨g1, g2⟩ := jz_gH hH c3
  obtain ⟨r2, d0, d1, d2, d3, d4, d5, d6⟩ := jz_bName hH hw c3 c6
  obtain ⟨r3, p1, p2, p3, p4⟩ := jx8_person (v := r2) hH d3
  have hat := c6.at
  obtain ⟨x0, x1, x2, x3, -⟩ := jz_bRn (r := r3) (i := jz_find Z 1 (jz_name T e (jz_ew T e 5 (jz_rk Z (jz_name T e st).2 (jq_at e st) (jz_name T e st).1))).2) hH hw d3 (fun z => p4 z _ (d5 z).2 (d5 z).1) d4 (by omega)
  have x6 := jz_rn_wf (i := jz_find Z 1 (jz_name T e (jz_ew T e 5 (jz_rk Z (jz_name T e st).2 (jq_at e st) (jz_name T e st).1))).2) d6 hat
  obtain ⟨g1', g2'⟩ := jz_gH hH x3
  have hb2 := d3.2.2.2.2.1
  have hmono : (jz_lie T e Z st).1.1 = 0 → (jz_name T e (jz_ew T e 5 (jz_rk Z (jz_name T e st).2 (jq_at e st) (jz_name T e st).1))).1.1 = 0 ∧ (jz_name T e st).1.1 = 0 ∧ st.1 = 0 := by
    intro z
    have k0 : (jz_name T e (jz_ew T e 5 (jz_rk Z (jz_name T e st).2 (jq_at e st) (jz_name T e st).1))).1.1 = 0 := by
      apply Classical.byContradiction
      intro y
      refine absurd z ?_
      show (jz_rn _ _ _).1 ≠ 0
      rw [jz_rn_k y]; exact y
    have k1 : (jz_name T e st).1.1 = 0 := by
      apply Classical.byContradiction
      intro y
      exact jz_name_k (jz_ew_k (by rw [jz_rk_k y]; exact y)) k0
    exact ⟨k0, k1, Classical.byContradiction (fun y => jz_name_k (T := T) (e := e) y k1)⟩
  obtain ⟨y0, y1, y2, y3⟩ := jz_bAddL (v := r1) (a := r3) (a' := jz_find Z 1 (jz_name T e (jz_ew T e 5 (jz_rk Z (jz_name T e st).2 (jq_at e st) (jz_name T e st).1))).2) (u := (jz_name T e st).2) hH x3 (fun z => a5 (hmono z).2.1) ⟨by omega, by omega⟩ (fun z => p4 (hmono z).1 _ (d5 (hmono z).1).2 (d5 (hmono z).1).1) (fun z => by have q1 := jz_rn_i z; have q2 := p4 (hmono z).1 _ (d5 (hmono z).1).2 (d5 (hmono z).1).1; rw [← q2] at q1; omega) (fun z => hfull (hmono z).2.2)
  refine ⟨y0, ?_, (((((a2.tr b2).tr c2).tr d2).tr x2).w (jz_FHw H)).tr y2, y3, x6⟩
  rw [jf_X9_readLie, a1, jp_bd, b1, jp_bd, c1, jp_bd, if_pos g1, d1, jp_bd, g2, p1, jp_bd, x1, jp_bd, if_pos g1', g2', y1, jp_bd]
theorem jz_bLight {T : Nat → Int} {e H w f : Nat} {st : jq_S} {Z : jz_Z} {s : jl_Mm} (hH : jz_Hq H) (hw : w = 0 ∨ w = 1 ∨ w = 2) (h : jz_B T e H w f st Z s) (hs : jq_wf T e st) (hfull : st.1 = 0 → Z.1 4 < 16) : ∃ τ, jf_X9_readLight s = some (0, τ) ∧ jp_fr (jz_FH H) s τ ∧ jz_B T e H w f (jz_light T e Z st).1 (jz_light T e Z st).2 τ ∧ jq_wf T e (jz_light T e Z st).1 := by
  have he := h.1.1.1
  have ha := hs.at
  obtain ⟨g1, g2⟩ := jz_gH hH h
  obtain ⟨r1, a0, a1, a2, a3, a4, a5, a6⟩ := jz_bName hH hw h hs
  obtain ⟨r3, p1, p2, p3, p4⟩ := jx8_lie (v := r1) hH a3
  obtain ⟨b0, b1, b2, b3, -⟩ := jz_bRn (r := r3) (i := jz_find Z 4 (jz_name T e st).2) hH hw a3 (fun z => p4 z _ (a5 z).2 (a5 z).1) a4 (by omega)
  have b6 := jz_rn_wf (i := jz_find Z 4 (jz_name T e st).2) a6 ha
  obtain ⟨c0, c1, c2, c3⟩ := jz_bEw (v := 2) hH hw b3 b6 (by decide)
  have c6 := jz_ew_wf (v := 2) b6 (by decide)
  obtain ⟨d0, d1, d2, d3⟩ := jz_bNum (lo := 0) (hi := 999) hH hw c3 c6
  have d6 := jz_num_wf (lo := 0) (hi := 999) c6
  obtain ⟨f0, f1, f2, f3⟩ := jz_bEw (v := 9) hH hw d3 d6 (by decide)
  have f6 := jz_ew_wf (v := 9) d6 (by decide)
  obtain ⟨x0, x1, x2, x3⟩ := jz_bNum (lo := 1) (hi := 99) hH hw f3 f6
  have x6 := jz_num_wf (lo := 1) (hi := 99) f6
  obtain ⟨g1', g2'⟩ := jz_gH hH x3
  have hb3 := a3.2.2.2.2.2.1
  have hrn : (jz_light T e Z st).1.1 = 0 → (jz_rn (jz_find Z 4 (jz_name T e st).2) (jq_at e st) (jz_name T e st).1).1 = 0 := by
    intro z
    apply Classical.byContradiction
    intro y
    refine absurd z ?_
    have y1 : (jz_ew T e 2 (jz_rn (jz_find Z 4 (jz_name T e st).2) (jq_at e st) (jz_name T e st).1)).1 ≠ 0 := jz_ew_k y
    have y2 := (jz_num_k (T := T) (e := e) (lo := 0) (hi := 999) y1).1
    have y3 : (jz_ew T e 9 (jz_num T e 0 999 (jz_ew T e 2 (jz_rn (jz_find Z 4 (jz_name T e st).2) (jq_at e st) (jz_name T e st).1))).1).1 ≠ 0 := jz_ew_k (by rw [y2]; exact y1)
    have y4 := (jz_num_k (T := T) (e := e) (lo := 1) (hi := 99) y3).1
    show (jz_num T e 1 99 (jz_ew T e 9 (jz_num T e 0 999 (jz_ew T e 2 (jz_rn (jz_find Z 4 (jz_name T e st).2) (jq_at e st) (jz_name T e st).1))).1)).1.1 ≠ 0
    rw [y4]
    exact y3
  have hmono : (jz_light T e Z st).1.1 = 0 → (jz_name T e st).1.1 = 0 ∧ st.1 = 0 := by
    intro z
    have k1 : (jz_name T e st).1.1 = 0 := by
      apply Classical.byContradiction
      intro y
      refine absurd z ?_
      have y1 : (jz_ew T e 2 (jz_rn (jz_find Z 4 (jz_name T e st).2) (jq_at e st) (jz_name T e st).1)).1 ≠ 0 := jz_ew_k (by rw [jz_rn_k y]; exact y)
      have y2 := (jz_num_k (T := T) (e := e) (lo := 0) (hi := 999) y1).1
      have y3 : (jz_ew T e 9 (jz_num T e 0 999 (jz_ew T e 2 (jz_rn (jz_find Z 4 (jz_name T e st).2) (jq_at e st) (jz_name T e st).1))).1).1 ≠ 0 := jz_ew_k (by rw [y2]; exact y1)
      have y4 := (jz_num_k (T := T) (e := e) (lo := 1) (hi := 99) y3).1
      show (jz_num T e 1 99 (jz_ew T e 9 (jz_num T e 0 999 (jz_ew T e 2 (jz_rn (jz_find Z 4 (jz_name T e st).2) (jq_at e st) (jz_name T e st).1))).1)).1.1 ≠ 0
      rw [y4]
      exact y3
    exact ⟨k1, Classical.byContradiction (fun y => jz_name_k (T := T) (e := e) y k1)⟩
  obtain ⟨y0, y1, y2, y3⟩ := jz_bAddR (a := r3) (a' := jz_find Z 4 (jz_name T e st).2) (b := (jz_num T e 0 999 (jz_ew T e 2 (jz_rn (jz_find Z 4 (jz_name T e st).2) (jq_at e st) (jz_name T e st).1))).2) (d := (jz_num T e 1 99 (jz_ew T e 9 (jz_num T e 0 999 (jz_ew T e 2 (jz_rn (jz_find Z 4 (jz_name T e st).2) (jq_at e st) (jz_name T e st).1))).1)).2) hH x3 ⟨by omega, by omega⟩ (jz_num_b c6 (Or.inl rfl) (by decide)) (jz_num_b f6 (Or.inr (Or.inl rfl)) (by decide)) (fun z => p4 (hmono z).1 _ (a5 (hmono z).1).2 (a5 (hmono z).1).1) (fun z => by have q1 := jz_rn_i (hrn z); have q2 := p4 (hmono z).1 _ (a5 (hmono z).1).2 (a5 (hmono z).1).1; rw [← q2] at q1; omega) (fun z => hfull (hmono z).2)
  refine ⟨y0, ?_, ((((((a2.tr b2).tr c2).tr d2).tr f2).tr x2).w (jz_FHw H)).tr y2, y3, x6⟩
  rw [jf_X9_readLight, if_pos g1, a1, jp_bd, g2, p1, jp_bd, b1, jp_bd, c1, jp_bd, d1, jp_bd, f1, jp_bd, x1, jp_bd, if_pos g1', g2', y1, jp_bd]
theorem jz_bHangs {T : Nat → Int} {e H w f : Nat} {st : jq_S} {Z : jz_Z} {s : jl_Mm} (hH : jz_Hq H) (hw : w = 0 ∨ w = 1 ∨ w = 2) (h : jz_B T e H w f st Z s) (hs : jq_wf T e st) : ∃ τ, jf_X9_readHangs s = some (0, τ) ∧ jp_fr (jz_FH H) s τ ∧ jz_B T e H w f (jz_hangs T e Z st).1 (jz_hangs T e Z st).2 τ ∧ jq_wf T e (jz_hangs T e Z st).1 := by
  have he := h.1.1.1
  have ha := hs.at
  obtain ⟨g1, g2⟩ := jz_gH hH h
  obtain ⟨r1, a0, a1, a2, a3, a4, a5, a6⟩ := jz_bName hH hw h hs
  obtain ⟨i, p1, p2, p3, p4⟩ := jx8_lie (v := r1) hH a3
  have p4' : (jz_name T e st).1.1 = 0 → i = jz_find Z 4 (jz_name T e st).2 := fun z => p4 z _ (a5 z).2 (a5 z).1
  obtain ⟨b0, b1, b2, b3, b4⟩ := jz_bRn (r := i) (i := jz_find Z 4 (jz_name T e st).2) hH hw a3 p4' a4 (by omega)
  have b6 := jz_rn_wf (i := jz_find Z 4 (jz_name T e st).2) a6 ha
  have hb3 := a3.2.2.2.2.2.1
  have hi8 : i < 8 := by omega
  -- the second half, from any state
  have half : ∀ (S : jq_S) (u : jl_Mm), jz_B T e H w f S Z u → jq_wf T e S → (S.1 = 0 → (jz_name T e st).1.1 = 0) → ∃ τ, jf_X9_readHangs_B52 i u = some (0, τ) ∧ jp_fr (jz_FH H) u τ ∧ jz_B T e H w f (if jz_find Z 4 (jz_name T e st).2 ≤ jz_find Z 4 (jz_name T e (jz_ew T e 7 S)).2 then jq_fl 3 (jq_at e (jz_ew T e 7 S)) (jz_rn (jz_find Z 4 (jz_name T e (jz_ew T e 7 S)).2) (jq_at e (jz_ew T e 7 S)) (jz_name T e (jz_ew T e 7 S)).1) else jz_rn (jz_find Z 4 (jz_name T e (jz_ew T e 7 S)).2) (jq_at e (jz_ew T e 7 S)) (jz_name T e (jz_ew T e 7 S)).1) (jz_a Z 6 (jz_find Z 4 (jz_name T e st).2) (jz_find Z 4 (jz_name T e (jz_ew T e 7 S)).2)) τ ∧ jq_wf T e (if jz_find Z 4 (jz_name T e st).2 ≤ jz_find Z 4 (jz_name T e (jz_ew T e 7 S)).2 then jq_fl 3 (jq_at e (jz_ew T e 7 S)) (jz_rn (jz_find Z 4 (jz_name T e (jz_ew T e 7 S)).2) (jq_at e (jz_ew T e 7 S)) (jz_name T e (jz_ew T e 7 S)).1) else jz_rn (jz_find Z 4 (jz_name T e (jz_ew T e 7 S)).2) (jq_at e (jz_ew T e 7 S)) (jz_name T e (jz_ew T e 7 S)).1) := by
    intro S u hu hS hSn
    obtain ⟨c0, c1, c2, c3⟩ := jz_bEw (v := 7) hH hw hu hS (by decide)
    have c6 := jz_ew_wf (v := 7) hS (by decide)
    have hat := c6.at
    obtain ⟨g3, g4⟩ := jz_gH hH c3
    obtain ⟨r2, d0, d1, d2, d3, d4, d5, d6⟩ := jz_bName hH hw c3 c6
    obtain ⟨j, q1, q2, q3, q4⟩ := jx8_lie (v := r2) hH d3
    have q4' : (jz_name T e (jz_ew T e 7 S)).1.1 = 0 → j = jz_find Z 4 (jz_name T e (jz_ew T e 7 S)).2 := fun z => q4 z _ (d5 z).2 (d5 z).1
    obtain ⟨x0, x1, x2, x3, x4⟩ := jz_bRn (r := j) (i := jz_find Z 4 (jz_name T e (jz_ew T e 7 S)).2) hH hw d3 q4' d4 (by omega)
    have x6 := jz_rn_wf (i := jz_find Z 4 (jz_name T e (jz_ew T e 7 S)).2) d6 hat
    have hj8 := d3.2.2.2.2.2.1
    rw [jf_X9_readHangs_B52, c1, jp_bd, if_pos g3, d1, jp_bd, g4, q1, jp_bd, x1, jp_bd]
    simp only [jf_X9_readHangs_B118]
    have kS : (jz_rn (jz_find Z 4 (jz_name T e (jz_ew T e 7 S)).2) (jq_at e (jz_ew T e 7 S)) (jz_name T e (jz_ew T e 7 S)).1).1 = 0 → (jz_name T e (jz_ew T e 7 S)).1.1 = 0 ∧ (jz_name T e st).1.1 = 0 := by
      intro z
      have k0 : (jz_name T e (jz_ew T e 7 S)).1.1 = 0 := by
        apply Classical.byContradiction
        intro y
        rw [jz_rn_k y] at z
        exact y z
      refine ⟨k0, hSn ?_⟩
      apply Classical.byContradiction
      intro y
      exact jz_name_k (jz_ew_k y) k0
    generalize hR : jz_rn (jz_find Z 4 (jz_name T e (jz_ew T e 7 S)).2) (jq_at e (jz_ew T e 7 S)) (jz_name T e (jz_ew T e 7 S)).1 = R at *
    have fru : jp_fr (jz_FH H) u x0 := (((c2.tr d2).tr x2).w (jz_FHw H))
    by_cases hji : j < i
    · rw [if_pos hji]
      by_cases hi0 : i < 0
      · rw [if_pos hi0]
        refine ⟨x0, rfl, fru, ?_, ?_⟩
        · by_cases k0 : R.1 = 0
          · obtain ⟨k1, k2⟩ := kS k0
            exfalso
            have := q4' k1
            have := p4' k2
            omega
          · have e1 : (if jz_find Z 4 (jz_name T e st).2 ≤ jz_find Z 4 (jz_name T e (jz_ew T e 7 S)).2 then jq_fl 3 (jq_at e (jz_ew T e 7 S)) R else R) = R := by
              split
              · exact jq_flk k0
              · rfl
            rw [e1]
            exact x3.k (Or.inl k0)
        · split
          · exact x6.fl hat (by decide)
          · exact x6
      · obtain ⟨g5, g6⟩ := jz_gH hH x3
        rw [if_neg hi0, if_pos g5, g6, if_pos (by omega), jp_lm]
        have fr : jp_fr [(H + 6, 0, 0)] x0 (jl_up x0 (H + 6) i.toNat j) := jp_fr.rf.up (by simp [jp_in])
        have frH : jp_fr (jz_FH H) x0 (jl_up x0 (H + 6) i.toNat j) := jp_fr.rf.up (by simp [jp_in, jz_FH])
        have ej : jl_g (jl_up x0 (H + 6) i.toNat j) (H + 6) i.toNat = j := by
          simp (disch := omega) only [if_pos, if_neg, jp_bd, jp_lm, jp_let, jp_zb0, jp_zb1, jp_add, jp_sub, jp_g_eq, jp_g_eqg, jp_g_ne, jp_g_nei, jp_r_ne, jp_r_nei, Int.toNat_natCast]
        have en : ∀ c m, (c ≠ H + 6 ∨ m ≠ i.toNat) → jl_g (jl_up x0 (H + 6) i.toNat j) c m = jl_g x0 c m := by
          intro c m hc
          by_cases q : c = H + 6
          · subst q
            rw [jp_g_nei (by omega)]
          · rw [jp_g_ne q]
        generalize jl_up x0 (H + 6) i.toNat j = y0 at *
        have e1 : (R.1 = 0 → (if jz_find Z 4 (jz_name T e st).2 ≤ jz_find Z 4 (jz_name T e (jz_ew T e 7 S)).2 then jq_fl 3 (jq_at e (jz_ew T e 7 S)) R else R) = R) := by
          intro k0
          obtain ⟨k1, k2⟩ := kS k0
          rw [if_neg]
          rw [← q4' k1, ← p4' k2]
          omega
        have e2 : (if jz_find Z 4 (jz_name T e st).2 ≤ jz_find Z 4 (jz_name T e (jz_ew T e 7 S)).2 then jq_fl 3 (jq_at e (jz_ew T e 7 S)) R else R) = R := by
          by_cases k0 : R.1 = 0
          · exact e1 k0
          · split
            · exact jq_flk k0
            · rfl
        rw [e2]
        have hb := x3.2.2.2
        refine ⟨y0, rfl, fru.tr frH, x3.up hH fr (by intro c m hc; simp [jp_in] at hc; omega) trivial (by rw [en _ _ (by omega)]; exact hb.2.1) (by rw [en _ _ (by omega)]; exact hb.2.2.1) (by rw [en _ _ (by omega)]; exact hb.2.2.2.1) (fun k0 => ?_), x6⟩
        obtain ⟨k1, k2⟩ := kS k0
        obtain ⟨z1, z2, z3, z4⟩ := x3.2.2.2.2.2.2.2 k0
        have hqi := p4' k2
        have hqj := q4' k1
        refine ⟨fun k hk => ?_, fun m hm => ?_, fun m hm => ?_, fun m hm => ?_⟩
        · rw [en _ _ (by omega), z1 k hk]; rfl
        · simp only [jz_a] at hm ⊢
          rw [en _ _ (by omega), en _ _ (by omega), en _ _ (by omega)]
          simpa using z2 m hm
        · simp only [jz_a] at hm ⊢
          rw [en _ _ (by omega), en _ _ (by omega)]
          obtain ⟨w1, w2, w3, w4⟩ := z3 m hm
          refine ⟨w1, w2, by simpa using w3, ?_⟩
          by_cases q : (m : Int) = jz_find Z 4 (jz_name T e st).2
          · have : m = i.toNat := by omega
            subst this
            rw [ej, if_pos ⟨trivial, q⟩, hqj]
          · rw [en _ _ (by omega), if_neg (fun y => q y.2)]
            exact w4
        · simp only [jz_a] at hm ⊢
          rw [en _ _ (by omega), en _ _ (by omega), en _ _ (by omega)]
          simpa using z4 m hm
    · obtain ⟨y0, y1, y2, y3, -⟩ := jz_bFail (k := 3) (na := jq_at e (jz_ew T e 7 S)) hH hw x3 (by decide) (by decide) (by omega)
      rw [show ((3 : Nat) : Int) = 3 from rfl] at y1
      rw [if_neg hji, x4, y1, jp_bd]
      refine ⟨y0, rfl, fru.tr (y2.w (jz_FHw H)), ?_, ?_⟩
      · by_cases k0 : R.1 = 0
        · obtain ⟨k1, k2⟩ := kS k0
          rw [if_pos (by rw [← q4' k1, ← p4' k2]; omega)]
          exact y3.k (Or.inl (jq_fl_k (by decide)))
        · have e1 : (if jz_find Z 4 (jz_name T e st).2 ≤ jz_find Z 4 (jz_name T e (jz_ew T e 7 S)).2 then jq_fl 3 (jq_at e (jz_ew T e 7 S)) R else R) = R := by
            split
            · exact jq_flk k0
            · rfl
          rw [e1]
          rw [jq_flk k0] at y3
          exact y3.k (Or.inl k0)
      · split
        · exact x6.fl hat (by decide)
        · exact x6
  have k0 : (jz_rn (jz_find Z 4 (jz_name T e st).2) (jq_at e st) (jz_name T e st).1).1 = 0 → (jz_name T e st).1.1 = 0 := by
    intro z
    apply Classical.byContradiction
    intro y
    rw [jz_rn_k y] at z
    exact y z
  rw [jf_X9_readHangs, if_pos g1, a1, jp_bd, g2, p1, jp_bd, b1, jp_bd]
  have frb : jp_fr (jz_FH H) s b0 := ((a2.tr b2).w (jz_FHw H))
  have fin : ∀ (S : jq_S) (u : jl_Mm), S = (if 0 ≤ jz_find Z 4 (jz_name T e st).2 ∧ Z.2.1 6 (jz_find Z 4 (jz_name T e st).2).toNat ≠ -1 then jq_fl 3 (jq_at e st) (jz_rn (jz_find Z 4 (jz_name T e st).2) (jq_at e st) (jz_name T e st).1) else jz_rn (jz_find Z 4 (jz_name T e st).2) (jq_at e st) (jz_name T e st).1) → jp_fr (jz_FH H) s u → jz_B T e H w f S Z u → ∃ τ, jf_X9_readHangs_B52 i u = some (0, τ) ∧ jp_fr (jz_FH H) s τ ∧ jz_B T e H w f (jz_hangs T e Z st).1 (jz_hangs T e Z st).2 τ ∧ jq_wf T e (jz_hangs T e Z st).1 := by
    intro S u hS fu hu
    have wfS : jq_wf T e S := by
      rw [hS]
      split
      · exact b6.fl ha (by decide)
      · exact b6
    have kS : S.1 = 0 → (jz_name T e st).1.1 = 0 := by
      intro z
      refine k0 ?_
      rw [hS] at z
      split at z
      · exact absurd z (jq_fl_k (by decide))
      · exact z
    obtain ⟨τ, t1, t2, t3, t4⟩ := half S u hu wfS kS
    subst hS
    exact ⟨τ, t1, fu.tr t2, t3, t4⟩
  by_cases hi0 : i < 0
  · rw [if_pos hi0]
    refine fin _ b0 ?_ frb b3
    by_cases k1 : (jz_name T e st).1.1 = 0
    · rw [if_neg]
      rw [← p4' k1]
      omega
    · split
      · rw [jz_rn_k k1, jq_flk k1]
      · rfl
  · obtain ⟨g3, g4⟩ := jz_gH hH b3
    have fail3 : (∃ τ, jf_X4_fail 3 (jl_g b0 38 6) b0 = some (0, τ) ∧ jp_fr jz_F38 b0 τ ∧ jz_B T e H w f (jq_fl 3 (jq_at e st) (jz_rn (jz_find Z 4 (jz_name T e st).2) (jq_at e st) (jz_name T e st).1)) Z τ) := by
      obtain ⟨y0, y1, y2, y3, -⟩ := jz_bFail (k := 3) (na := jq_at e st) hH hw b3 (by decide) (by decide) (by omega)
      rw [show ((3 : Nat) : Int) = 3 from rfl, ← b4] at y1
      exact ⟨y0, y1, y2, y3⟩
    rw [if_neg hi0, if_pos g3, if_pos (by omega), g4]
    by_cases k1 : (jz_rn (jz_find Z 4 (jz_name T e st).2) (jq_at e st) (jz_name T e st).1).1 = 0
    · have hqi := p4' (k0 k1)
      obtain ⟨z1, z2, z3, z4⟩ := b3.2.2.2.2.2.2.2 k1
      have z33 := z1 3 (by decide)
      have hi3 : ((i.toNat : Nat) : Int) < Z.1 3 := by
        have := (a3.2.2.2.2.2.2.2 (k0 k1)).1 3 (by decide)
        omega
      have w4 := (z3 i.toNat hi3).2.2.2
      by_cases hb : jl_g b0 (H + 6) i.toNat = -1
      · rw [if_pos hb]
        refine fin _ b0 ?_ frb b3
        rw [if_neg]
        rw [← hqi, ← w4]
        exact fun y => y.2 hb
      · obtain ⟨y0, y1, y2, y3⟩ := fail3
        rw [if_neg hb, y1, jp_bd]
        refine fin _ y0 ?_ (frb.tr (y2.w (jz_FHw H))) y3
        rw [if_pos]
        rw [← hqi, ← w4]
        exact ⟨by omega, hb⟩
    · have e1 : (if 0 ≤ jz_find Z 4 (jz_name T e st).2 ∧ Z.2.1 6 (jz_find Z 4 (jz_name T e st).2).toNat ≠ -1 then jq_fl 3 (jq_at e st) (jz_rn (jz_find Z 4 (jz_name T e st).2) (jq_at e st) (jz_name T e st).1) else jz_rn (jz_find Z 4 (jz_name T e st).2) (jq_at e st) (jz_name T e st).1) = jz_rn (jz_find Z 4 (jz_name T e st).2) (jq_at e st) (jz_name T e st).1 := by
        split
        · exact jq_flk k1
        · rfl
      by_cases hb : jl_g b0 (H + 6) i.toNat = -1
      · rw [if_pos hb]
        exact fin _ b0 e1.symm frb b3
      · obtain ⟨y0, y1, y2, y3⟩ := fail3
        rw [if_neg hb, y1, jp_bd]
        rw [jq_flk k1] at y3
        exact fin _ y0 e1.symm (frb.tr (y2.w (jz_FHw H))) y3
