/-! PURE, the class's street reader: the codes, the statements one after the other -/
def jz_FC (H : Nat) : jp_F := [(38, 4, 6), (38, 4, 5), (38, 4, 7), (38, 7, 9), (38, 3, 6), (38, 2, 3), (H, 0, 0), (H + 1, 0, 0), (H + 2, 0, 0), (H + 3, 0, 0), (H + 4, 0, 0), (H + 5, 0, 0), (H + 6, 0, 0), (H + 7, 0, 0), (H + 8, 0, 0), (H + 9, 0, 0), (H + 10, 0, 0), (H + 11, 0, 0), (H + 12, 0, 0), (H + 13, 0, 0), (H + 14, 0, 0)]
theorem jz_FCw (H : Nat) : ((jz_FH H).all fun q => (jz_FC H).contains q) = true := by simp [jz_FH, jz_FC]
theorem jz_FC38 (H : Nat) : (jz_F38.all fun q => (jz_FC H).contains q) = true := by simp [jz_F38, jz_FC]
/-- where the codes of the three kinds stand -/
def jz_D (q : Nat) (L : List Int) (Z : jz_Z) (τ : jl_Mm) : Prop :=
  ∀ w, w < 3 → jl_g τ (q + 2) w = Z.1 (10 + w) ∧ jl_g τ (q + 3) w = Z.1 (20 + w) ∧ 0 ≤ Z.1 (10 + w) ∧ Z.1 (10 + w) ≤ Z.1 (20 + w) ∧ Z.1 (20 + w) ≤ (L.length : Int) ∧
    (43 ∈ (L.take (Z.1 (20 + w)).toNat).drop (Z.1 (10 + w)).toNat → jl_and (jl_shr (jl_g τ (q + 4) w) 16) 1 = 1) ∧ (44 ∈ (L.take (Z.1 (20 + w)).toNat).drop (Z.1 (10 + w)).toNat → jl_and (jl_shr (jl_g τ (q + 4) w) 17) 1 = 1)
theorem jz_D.fr {q : Nat} {L : List Int} {Z Z' : jz_Z} {s τ : jl_Mm} {F : jp_F} (h : jz_D q L Z s) (f : jp_fr F s τ) (w2 : ∀ i, jp_in F (q + 2) i = false) (w3 : ∀ i, jp_in F (q + 3) i = false) (w4 : ∀ i, jp_in F (q + 4) i = false) (hZ : ∀ w, w < 3 → Z'.1 (10 + w) = Z.1 (10 + w) ∧ Z'.1 (20 + w) = Z.1 (20 + w)) : jz_D q L Z' τ := by
  intro w hw
  obtain ⟨a, b⟩ := hZ w hw
  rw [a, b, f.g _ _ (w2 _), f.g _ _ (w3 _), f.g _ _ (w4 _)]
  exact h w hw
theorem jz_bAllow {T : Nat → Int} {e H w0 f0 w : Nat} {v : Int} {st : jq_S} {Z : jz_Z} {s : jl_Mm} (hH : jz_Hq H) (hw0 : w0 = 0 ∨ w0 = 1 ∨ w0 = 2) (hw : w = 0 ∨ w = 1 ∨ w = 2) (hv : jl_n3 v) (h : jz_B T e H w0 f0 st Z s) (h0 : st.1 = 0) : ∃ τ, jf_X4_allow (w : Int) v s = some (0, τ) ∧ jp_fr (jz_FC H) s τ ∧ jz_B T e H w st.2.2.length st Z τ ∧ jl_g τ 38 2 = v ∧ (∀ i, i ≠ w → jl_g τ (H + 12) i = jl_g s (H + 12) i ∧ jl_g τ (H + 13) i = jl_g s (H + 13) i ∧ jl_g τ (H + 14) i = jl_g s (H + 14) i) ∧ jl_g τ (H + 12) w = (st.2.2.length : Int) := by
  have hH38 : H + 14 < 38 ∧ 2 < H := by rcases hH with rfl | rfl <;> decide
  obtain ⟨⟨c1, c2, c3, c3b, ⟨p, p1, p2, p3⟩, c5, c6⟩, h2, h3, b0, b2, b3, b4, hR⟩ := h
  obtain ⟨a1, a2, ⟨k1, k2, k3, k4, k5⟩, a4, a5⟩ := c5 h0
  have g2 : jl_gr s 38 1 = H + 10 := by rw [jl_gr, c2]; exact Int.toNat_natCast _
  have gk : (jl_kd (H + 10)).1 = 0 := jq_kdq (hH.q hw0)
  have hle : (st.2.2.length : Int) ≤ 1608 := by rw [← k1]; exact c3b.2
  have g1 : (0 ≤ s 38 1 ∧ (jl_kd (jl_gr s 38 1)).1 = 0) := ⟨by rw [c2]; omega, by rw [g2]; exact gk⟩
  obtain ⟨v1, v2⟩ := hv
  have e4a : jl_g (jl_up s (H + 10) 5 (w : Int)) (H + 10) 4 = (st.2.2.length : Int) := by
    simp (disch := omega) only [if_pos, if_neg, jp_bd, jp_lm, jp_let, jp_zb0, jp_zb1, jp_add, jp_sub, jp_g_eq, jp_g_eqg, jp_g_ne, jp_g_nei, jp_r_ne, jp_r_nei, Int.toNat_natCast, k1]
  have e4b : jl_g (jl_up (jl_up s (H + 10) 5 (w : Int)) (H + 10 + 2) w (st.2.2.length : Int)) (H + 10) 4 = (st.2.2.length : Int) := by
    simp (disch := omega) only [if_pos, if_neg, jp_bd, jp_lm, jp_let, jp_zb0, jp_zb1, jp_add, jp_sub, jp_g_eq, jp_g_eqg, jp_g_ne, jp_g_nei, jp_r_ne, jp_r_nei, Int.toNat_natCast, k1]
  rw [jf_X4_allow, if_pos g1, g2, jf_X0_start, if_pos gk, jp_lm, if_pos (by omega), Int.toNat_natCast, e4a, jp_lm, if_pos (by omega), e4b, jp_lm, if_pos (by omega), jp_lm, jp_bd, jp_lm]
  have frC : jp_fr (jz_FC H) s (jl_up (jl_up (jl_up (jl_up (jl_up s (H + 10) 5 (w : Int)) (H + 10 + 2) w (st.2.2.length : Int)) (H + 10 + 3) w (st.2.2.length : Int)) (H + 10 + 4) w 0) 38 2 v) := ((((jp_fr.rf.up (by simp [jp_in, jz_FC])).up (by simp [jp_in, jz_FC])).up (by simp [jp_in, jz_FC])).up (by simp [jp_in, jz_FC])).up (by simp [jp_in, jz_FC])
  have fr : jp_fr [(H + 10, 5, 6), (H + 12, 0, 0), (H + 13, 0, 0), (H + 14, 0, 0), (38, 2, 3)] s (jl_up (jl_up (jl_up (jl_up (jl_up s (H + 10) 5 (w : Int)) (H + 10 + 2) w (st.2.2.length : Int)) (H + 10 + 3) w (st.2.2.length : Int)) (H + 10 + 4) w 0) 38 2 v) := ((((jp_fr.rf.up (by simp [jp_in])).up (by simp [jp_in])).up (by simp [jp_in])).up (by simp [jp_in])).up (by simp [jp_in])
  have x5 : jl_g (jl_up (jl_up (jl_up (jl_up (jl_up s (H + 10) 5 (w : Int)) (H + 10 + 2) w (st.2.2.length : Int)) (H + 10 + 3) w (st.2.2.length : Int)) (H + 10 + 4) w 0) 38 2 v) (H + 10) 5 = (w : Int) := by
    simp (disch := omega) only [if_pos, if_neg, jp_bd, jp_lm, jp_let, jp_zb0, jp_zb1, jp_add, jp_sub, jp_g_eq, jp_g_eqg, jp_g_ne, jp_g_nei, jp_r_ne, jp_r_nei, Int.toNat_natCast]
  have x2 : jl_g (jl_up (jl_up (jl_up (jl_up (jl_up s (H + 10) 5 (w : Int)) (H + 10 + 2) w (st.2.2.length : Int)) (H + 10 + 3) w (st.2.2.length : Int)) (H + 10 + 4) w 0) 38 2 v) (H + 12) w = (st.2.2.length : Int) := by
    simp (disch := omega) only [if_pos, if_neg, jp_bd, jp_lm, jp_let, jp_zb0, jp_zb1, jp_add, jp_sub, jp_g_eq, jp_g_eqg, jp_g_ne, jp_g_nei, jp_r_ne, jp_r_nei, Int.toNat_natCast]
  have x3 : jl_g (jl_up (jl_up (jl_up (jl_up (jl_up s (H + 10) 5 (w : Int)) (H + 10 + 2) w (st.2.2.length : Int)) (H + 10 + 3) w (st.2.2.length : Int)) (H + 10 + 4) w 0) 38 2 v) (H + 13) w = (st.2.2.length : Int) := by
    simp (disch := omega) only [if_pos, if_neg, jp_bd, jp_lm, jp_let, jp_zb0, jp_zb1, jp_add, jp_sub, jp_g_eq, jp_g_eqg, jp_g_ne, jp_g_nei, jp_r_ne, jp_r_nei, Int.toNat_natCast]
  have xv : jl_g (jl_up (jl_up (jl_up (jl_up (jl_up s (H + 10) 5 (w : Int)) (H + 10 + 2) w (st.2.2.length : Int)) (H + 10 + 3) w (st.2.2.length : Int)) (H + 10 + 4) w 0) 38 2 v) 38 2 = v := by
    simp (disch := omega) only [if_pos, if_neg, jp_bd, jp_lm, jp_let, jp_zb0, jp_zb1, jp_add, jp_sub, jp_g_eq, jp_g_eqg, jp_g_ne, jp_g_nei, jp_r_ne, jp_r_nei, Int.toNat_natCast]
  have xo : ∀ i, i ≠ w → jl_g (jl_up (jl_up (jl_up (jl_up (jl_up s (H + 10) 5 (w : Int)) (H + 10 + 2) w (st.2.2.length : Int)) (H + 10 + 3) w (st.2.2.length : Int)) (H + 10 + 4) w 0) 38 2 v) (H + 12) i = jl_g s (H + 12) i ∧ jl_g (jl_up (jl_up (jl_up (jl_up (jl_up s (H + 10) 5 (w : Int)) (H + 10 + 2) w (st.2.2.length : Int)) (H + 10 + 3) w (st.2.2.length : Int)) (H + 10 + 4) w 0) 38 2 v) (H + 13) i = jl_g s (H + 13) i ∧ jl_g (jl_up (jl_up (jl_up (jl_up (jl_up s (H + 10) 5 (w : Int)) (H + 10 + 2) w (st.2.2.length : Int)) (H + 10 + 3) w (st.2.2.length : Int)) (H + 10 + 4) w 0) 38 2 v) (H + 14) i = jl_g s (H + 14) i := by
    intro i hi
    refine ⟨?_, ?_, ?_⟩
    · simp (disch := omega) only [if_pos, if_neg, jp_bd, jp_lm, jp_let, jp_zb0, jp_zb1, jp_add, jp_sub, jp_g_eq, jp_g_eqg, jp_g_ne, jp_g_nei, jp_r_ne, jp_r_nei, Int.toNat_natCast]
    · simp (disch := omega) only [if_pos, if_neg, jp_bd, jp_lm, jp_let, jp_zb0, jp_zb1, jp_add, jp_sub, jp_g_eq, jp_g_eqg, jp_g_ne, jp_g_nei, jp_r_ne, jp_r_nei, Int.toNat_natCast]
    · simp (disch := omega) only [if_pos, if_neg, jp_bd, jp_lm, jp_let, jp_zb0, jp_zb1, jp_add, jp_sub, jp_g_eq, jp_g_eqg, jp_g_ne, jp_g_nei, jp_r_ne, jp_r_nei, Int.toNat_natCast]
  generalize jl_up (jl_up (jl_up (jl_up (jl_up s (H + 10) 5 (w : Int)) (H + 10 + 2) w (st.2.2.length : Int)) (H + 10 + 3) w (st.2.2.length : Int)) (H + 10 + 4) w 0) 38 2 v = τ at *
  have hn : ∀ c i, (c ≠ 38 ∨ i ≠ 2) → c ≠ H + 12 → c ≠ H + 13 → c ≠ H + 14 → (c ≠ H + 10 ∨ i ≠ 5) → jp_in [(H + 10, 5, 6), (H + 12, 0, 0), (H + 13, 0, 0), (H + 14, 0, 0), (38, 2, 3)] c i = false := by
    intro c i y1 y2 y3 y4 y5
    simp [jp_in]
    omega
  refine ⟨τ, rfl, frC, ⟨⟨c1.fr fr (hn _ _ (by omega) (by omega) (by omega) (by omega) (by omega)) (fun i => hn _ _ (by omega) (by omega) (by omega) (by omega) (by omega)), (fr _ _ (hn _ _ (by omega) (by omega) (by omega) (by omega) (by omega))).trans c2, x5, by rw [fr.g _ _ (hn _ _ (by omega) (by omega) (by omega) (by omega) (by omega))]; exact c3b, ⟨p, (fr.g _ _ (hn _ _ (by omega) (by omega) (by omega) (by omega) (by omega))).trans p1, p2, p3⟩, fun z => ?_, fun z => absurd h0 z⟩, ?_, ?_, trivial, ?_, ?_, ?_, fun z => ?_⟩, xv, xo, x2⟩
  · refine ⟨(fr.g _ _ (hn _ _ (by omega) (by omega) (by omega) (by omega) (by omega))).trans a1, (fr.g _ _ (hn _ _ (by omega) (by omega) (by omega) (by omega) (by omega))).trans a2, ⟨(fr.g _ _ (hn _ _ (by omega) (by omega) (by omega) (by omega) (by omega))).trans k1, x3, fun i hi => (fr.g _ _ (hn _ _ (by omega) (by omega) (by omega) (by omega) (by omega))).trans (k3 i hi), ?_, ?_⟩, Nat.le_refl _, a5⟩ <;> (intro hm; simp at hm)
  · exact (fr _ _ (hn _ _ (by omega) (by omega) (by omega) (by omega) (by omega))).trans h2
  · exact (fr.g _ _ (hn _ _ (by omega) (by omega) (by omega) (by omega) (by omega))).trans h3
  · rw [fr.g _ _ (hn _ _ (by omega) (by omega) (by omega) (by omega) (by omega))]; exact b2
  · rw [fr.g _ _ (hn _ _ (by omega) (by omega) (by omega) (by omega) (by omega))]; exact b3
  · rw [fr.g _ _ (hn _ _ (by omega) (by omega) (by omega) (by omega) (by omega))]; exact b4
  · exact (hR z).fr fr (fun c i y1 y2 => hn _ _ (by omega) (by omega) (by omega) (by omega) (by omega))
theorem jz_bCodes {T : Nat → Int} {e H w0 f0 w : Nat} {st : jq_S} {Z : jz_Z} {s : jl_Mm} (hH : jz_Hq H) (hw0 : w0 = 0 ∨ w0 = 1 ∨ w0 = 2) (hw : w = 0 ∨ w = 1 ∨ w = 2) (h : jz_B T e H w0 f0 st Z s) (hD : jz_D (H + 10) st.2.2 Z s) (h0 : st.1 = 0) (hs : jq_wf T e st) (t : Nat) (ht : t = if w = 2 then 0 else 3) : ∃ τ, (jl_bd (jf_X4_allow (w : Int) (jq_pt w) s) fun _ s27 => jf_X4_grp 60 t 0 s27) = some (0, τ) ∧ jp_fr (jz_FC H) s τ ∧ jz_B T e H w st.2.2.length (jz_codes T e w Z st).1 (jz_codes T e w Z st).2 τ ∧ jq_wf T e (jz_codes T e w Z st).1 ∧ ((jz_codes T e w Z st).1.1 = 0 → jz_D (H + 10) (jz_codes T e w Z st).1.2.2 (jz_codes T e w Z st).2 τ) := by
  have hH38 : H + 14 < 38 ∧ 2 < H := by rcases hH with rfl | rfl <;> decide
  have ht7 : t ≤ 5 := by rw [ht]; split <;> decide
  have hnd : jq_nd t 0 ≤ 60 := by rw [ht]; split <;> decide
  obtain ⟨a0, a1, a2, a3, a4, a5, a6⟩ := jz_bAllow (v := jq_pt w) hH hw0 hw (by rcases hw with rfl | rfl | rfl <;> exact ⟨by decide, by decide⟩) h h0
  obtain ⟨b0, b1, b2, b3⟩ := jx4_grp (hH.q hw) (kind := w) (by omega) 60 t 0 0 st a0 hnd (by omega) (by decide) hs ⟨a3.1, by rw [a3.2.2.1]; rfl, a4⟩ (fun z => by omega) (fun z => by omega)
  have hM := jq_ML_all (T := T) (e := e) (kind := w) 60 t 0 0 st hnd (by omega) (by decide) hs (fun z => by omega) (fun z => by omega)
  have er : (jz_codes T e w Z st).1 = jq_g T e w 60 t 0 0 st := by rw [ht]; rfl
  have eZ : (jz_codes T e w Z st).2 = jz_s (jz_s Z (10 + w) (st.2.2.length : Int)) (20 + w) ((jq_g T e w 60 t 0 0 st).2.2.length : Int) := by rw [ht]; rfl
  rw [a1, jp_bd, er, eZ]
  have hnH : ∀ c i, H ≤ c → c < H + 10 → jp_in (jq_QF (H + 10) w) c i = false := by
    intro c i y1 y2
    simp [jp_in, jq_QF]
    omega
  have hn39 : ∀ i, jp_in (jq_QF (H + 10) w) 39 i = false := by
    intro i
    simp [jp_in, jq_QF]
    omega
  have hnq : ∀ c i, (c = H + 12 ∨ ((c = H + 13 ∨ c = H + 14) ∧ i ≠ w)) → jp_in (jq_QF (H + 10) w) c i = false := by
    intro c i y1
    simp [jp_in, jq_QF]
    omega
  have frQ : jp_fr (jz_FC H) a0 b0 := by
    intro c i hc
    refine b2 c i ?_
    simp [jp_in, jq_QF, jz_FC] at hc ⊢
    omega
  generalize jq_g T e w 60 t 0 0 st = r at *
  obtain ⟨-, n2, n3, n4, n5, n6, n7, n8⟩ := a3
  refine ⟨b0, b1, a2.tr frQ, ⟨b3.1, (b2 _ _ (hn39 _)).trans n2, b3.2.1, trivial, ?_, ?_, ?_, fun z => ?_⟩, hM.1, fun z => ?_⟩
  · rw [b2.g _ _ (hnH _ _ (by omega) (by omega))]; exact n5
  · rw [b2.g _ _ (hnH _ _ (by omega) (by omega))]; exact n6
  · rw [b2.g _ _ (hnH _ _ (by omega) (by omega))]; exact n7
  · obtain ⟨r1, r2, r3, r4⟩ := (n8 h0).fr b2 hnH
    refine ⟨fun k hk => ?_, fun i hi => ?_, fun i hi => ?_, fun i hi => ?_⟩
    · rw [r1 k hk]
      simp only [jz_s]
      rw [if_neg (by omega), if_neg (by omega)]
    · simp only [jz_s] at hi ⊢
      rw [if_neg (by omega), if_neg (by omega)] at hi
      exact r2 i hi
    · simp only [jz_s] at hi ⊢
      rw [if_neg (by omega), if_neg (by omega)] at hi
      exact r3 i hi
    · simp only [jz_s] at hi ⊢
      rw [if_neg (by omega), if_neg (by omega)] at hi
      exact r4 i hi
  · obtain ⟨c, c1, c2, c3, -⟩ := hM.2.2 h0 z
    obtain ⟨-, -, -, -, -, m5, -⟩ := b3.1
    obtain ⟨-, -, ⟨k1, k2, k3, k4, k5⟩, k6, -⟩ := m5 z
    have elen : r.2.2.length = st.2.2.length + c.length := by rw [c1]; simp
    intro j hj
    by_cases q : j = w
    · subst q
      simp only [jz_s]
      rw [if_neg (by omega), if_pos trivial, if_pos trivial]
      refine ⟨(b2.g _ _ (hnq _ _ (Or.inl rfl))).trans a6, k2, by omega, by omega, by omega, ?_, ?_⟩
      · intro hm
        rw [Int.toNat_natCast, Int.toNat_natCast, List.take_length] at hm
        exact k4 hm
      · intro hm
        rw [Int.toNat_natCast, Int.toNat_natCast, List.take_length] at hm
        exact k5 hm
    · obtain ⟨d1, d2, d3, d4, d5, d6, d7⟩ := hD j hj
      have ez : (jz_s (jz_s Z (10 + w) (st.2.2.length : Int)) (20 + w) (r.2.2.length : Int)).1 (10 + j) = Z.1 (10 + j) ∧ (jz_s (jz_s Z (10 + w) (st.2.2.length : Int)) (20 + w) (r.2.2.length : Int)).1 (20 + j) = Z.1 (20 + j) := by
        simp only [jz_s]
        refine ⟨?_, ?_⟩
        · rw [if_neg (by omega), if_neg (by omega)]
        · rw [if_neg (by omega), if_neg (by omega)]
      have et : r.2.2.take (Z.1 (20 + j)).toNat = st.2.2.take (Z.1 (20 + j)).toNat := by
        rw [c1, List.take_append_of_le_length (by omega)]
      obtain ⟨f1, f2, f3⟩ := a5 j q
      rw [ez.1, ez.2, et]
      refine ⟨(b2.g _ _ (hnq _ _ (Or.inl rfl))).trans (f1.trans d1), (b2.g _ _ (hnq _ _ (Or.inr ⟨Or.inl rfl, q⟩))).trans (f2.trans d2), d3, d4, by omega, ?_, ?_⟩
      · rw [b2.g _ _ (hnq _ _ (Or.inr ⟨Or.inr rfl, q⟩))]
        show 43 ∈ _ → jl_and (jl_shr (jl_g a0 (H + 14) j) 16) 1 = 1
        rw [f3]; exact d6
      · rw [b2.g _ _ (hnq _ _ (Or.inr ⟨Or.inr rfl, q⟩))]
        show 44 ∈ _ → jl_and (jl_shr (jl_g a0 (H + 14) j) 17) 1 = 1
        rw [f3]; exact d7
