/-! PURE, the class's street reader: each kind of statement -/
/-- what of a street's cells may change -/
def jz_FH (H : Nat) : jp_F := [(38, 4, 6), (38, 4, 5), (38, 4, 7), (38, 7, 9), (H, 0, 0), (H + 1, 0, 0), (H + 2, 0, 0), (H + 3, 0, 0), (H + 4, 0, 0), (H + 5, 0, 0), (H + 6, 0, 0), (H + 7, 0, 0), (H + 8, 0, 0), (H + 9, 0, 0)]
theorem jz_FHw (H : Nat) : (jz_F38.all fun q => (jz_FH H).contains q) = true := by simp [jz_F38, jz_FH]
theorem jz_in38 {H c i : Nat} (hH : jz_Hq H) (h : c ≠ 38) (h2 : c < H ∨ H + 10 ≤ c) : jp_in (jz_FH H) c i = false := by
  simp [jp_in, jz_FH]
  rcases hH with rfl | rfl <;> omega
/-- the street's numbers change -/
theorem jz_B.up {T : Nat → Int} {e H w f : Nat} {st : jq_S} {Z Z' : jz_Z} {s τ : jl_Mm} {F : jp_F} (hH : jz_Hq H) (h : jz_B T e H w f st Z s) (fr : jp_fr F s τ) (hF : ∀ c i, jp_in F c i = true → H ≤ c ∧ c < H + 10) (b0 : True) (b2 : 0 ≤ jl_g τ H 2 ∧ jl_g τ H 2 ≤ 6) (b3 : 0 ≤ jl_g τ H 3 ∧ jl_g τ H 3 ≤ 8) (b4 : 0 ≤ jl_g τ H 4 ∧ jl_g τ H 4 ≤ 16) (hR : st.1 = 0 → jz_R H Z' τ) : jz_B T e H w f st Z' τ := by
  have hn : ∀ c i, (c < H ∨ H + 10 ≤ c) → jp_in F c i = false := by
    intro c i hc
    cases hz : jp_in F c i with
    | false => rfl
    | true => have := hF c i hz; omega
  have hH38 : H + 14 < 38 ∧ 2 < H := by rcases hH with rfl | rfl <;> decide
  obtain ⟨⟨c1, c2, c3, c3b, ⟨p, p1, p2, p3⟩, c5, c6⟩, h2, h3, -⟩ := h
  refine ⟨⟨c1.fr fr (hn _ _ (by omega)) (fun i => hn _ _ (by omega)), (fr _ _ (hn _ _ (by omega))).trans c2, (fr.g _ _ (hn _ _ (by omega))).trans c3, by rw [fr.g _ _ (hn _ _ (by omega))]; exact c3b, ⟨p, (fr.g _ _ (hn _ _ (by omega))).trans p1, p2, p3⟩, fun z => ?_, fun z => ?_⟩, (fr _ _ (hn _ _ (by omega))).trans h2, (fr.g _ _ (hn _ _ (by omega))).trans h3, b0, b2, b3, b4, hR⟩
  · obtain ⟨a1, a2, a3, a4⟩ := c5 z
    exact ⟨(fr.g _ _ (hn _ _ (by omega))).trans a1, (fr.g _ _ (hn _ _ (by omega))).trans a2, a3.fr fr (hn _ _ (by omega)) (hn _ _ (by omega)) (fun i => hn _ _ (by omega)) (hn _ _ (by omega)), a4⟩
  · obtain ⟨a1, a2⟩ := c6 z
    exact ⟨(fr.g _ _ (hn _ _ (by omega))).trans a1, (fr.g _ _ (hn _ _ (by omega))).trans a2⟩
theorem jz_bAddP {T : Nat → Int} {e H w f : Nat} {st : jq_S} {Z : jz_Z} {s : jl_Mm} {v a b : Int} {u : List Int} (hH : jz_Hq H) (h : jz_B T e H w f st Z s) (hv : st.1 = 0 → v = jz_cn u ∧ jz_vn u) (ha : jl_n3 a) (hb : jl_n3 b) (hfull : st.1 = 0 → Z.1 2 < 6) : ∃ τ, jf_X8_addPerson H v a b s = some (0, τ) ∧ jp_fr (jz_FH H) s τ ∧ jz_B T e H w f st (jz_s (jz_a (jz_a (jz_n Z 1 (Z.1 2) u) 2 (Z.1 2) a) 3 (Z.1 2) b) 2 (Z.1 2 + 1)) τ := by
  have ⟨hC, _, _, b0, b2, b3, b4, hR⟩ := h
  rw [jf_X8_addPerson, if_pos (jz_kd hH)]
  by_cases hful : 6 ≤ jl_g s H 2
  · rw [if_pos hful, jf_X8_addPerson_B49]
    refine ⟨s, rfl, jp_fr.rf, h.up hH jp_fr.rf (F := []) (by intro c i hc; cases hc) b0 b2 b3 b4 (fun h0 => ?_)⟩
    have := hfull h0
    rw [← (hR h0).1 2 (by decide)] at this
    omega
  · have g2a : jl_g (jl_up s (H + 1) (jl_g s H 2).toNat v) H 2 = jl_g s H 2 := by
      simp (disch := omega) only [if_pos, if_neg, jp_bd, jp_lm, jp_let, jp_zb0, jp_zb1, jp_add, jp_sub, jp_g_eq, jp_g_eqg, jp_g_ne, jp_g_nei, jp_r_ne, jp_r_nei, Int.toNat_natCast]
    have g2b : jl_g (jl_up (jl_up s (H + 1) (jl_g s H 2).toNat v) (H + 2) (jl_g s H 2).toNat a) H 2 = jl_g s H 2 := by
      simp (disch := omega) only [if_pos, if_neg, jp_bd, jp_lm, jp_let, jp_zb0, jp_zb1, jp_add, jp_sub, jp_g_eq, jp_g_eqg, jp_g_ne, jp_g_nei, jp_r_ne, jp_r_nei, Int.toNat_natCast]
    have g2c : jl_g (jl_up (jl_up (jl_up s (H + 1) (jl_g s H 2).toNat v) (H + 2) (jl_g s H 2).toNat a) (H + 3) (jl_g s H 2).toNat b) H 2 = jl_g s H 2 := by
      simp (disch := omega) only [if_pos, if_neg, jp_bd, jp_lm, jp_let, jp_zb0, jp_zb1, jp_add, jp_sub, jp_g_eq, jp_g_eqg, jp_g_ne, jp_g_nei, jp_r_ne, jp_r_nei, Int.toNat_natCast]
    rw [if_neg hful, if_pos (by omega), jp_lm, g2a, if_pos (by omega), jp_lm, g2b, if_pos (by omega), jp_lm, g2c, jp_add (by omega) (by omega), jp_lm, jf_X8_addPerson_B49]
    have fr : jp_fr [(H, 2, 3), (H + 1, 0, 0), (H + 2, 0, 0), (H + 3, 0, 0)] s (jl_up (jl_up (jl_up (jl_up s (H + 1) (jl_g s H 2).toNat v) (H + 2) (jl_g s H 2).toNat a) (H + 3) (jl_g s H 2).toNat b) H 2 (jl_g s H 2 + 1)) := (((jp_fr.rf.up (by simp [jp_in])).up (by simp [jp_in])).up (by simp [jp_in])).up (by simp [jp_in])
    have frH : jp_fr (jz_FH H) s (jl_up (jl_up (jl_up (jl_up s (H + 1) (jl_g s H 2).toNat v) (H + 2) (jl_g s H 2).toNat a) (H + 3) (jl_g s H 2).toNat b) H 2 (jl_g s H 2 + 1)) := (((jp_fr.rf.up (by simp [jp_in, jz_FH])).up (by simp [jp_in, jz_FH])).up (by simp [jp_in, jz_FH])).up (by simp [jp_in, jz_FH])
    have e2 : jl_g (jl_up (jl_up (jl_up (jl_up s (H + 1) (jl_g s H 2).toNat v) (H + 2) (jl_g s H 2).toNat a) (H + 3) (jl_g s H 2).toNat b) H 2 (jl_g s H 2 + 1)) H 2 = jl_g s H 2 + 1 := by
      simp (disch := omega) only [if_pos, if_neg, jp_bd, jp_lm, jp_let, jp_zb0, jp_zb1, jp_add, jp_sub, jp_g_eq, jp_g_eqg, jp_g_ne, jp_g_nei, jp_r_ne, jp_r_nei, Int.toNat_natCast]
    have ek : ∀ k, k ≠ 2 → jl_g (jl_up (jl_up (jl_up (jl_up s (H + 1) (jl_g s H 2).toNat v) (H + 2) (jl_g s H 2).toNat a) (H + 3) (jl_g s H 2).toNat b) H 2 (jl_g s H 2 + 1)) H k = jl_g s H k := by
      intro k hk
      simp (disch := omega) only [if_pos, if_neg, jp_bd, jp_lm, jp_let, jp_zb0, jp_zb1, jp_add, jp_sub, jp_g_eq, jp_g_eqg, jp_g_ne, jp_g_nei, jp_r_ne, jp_r_nei, Int.toNat_natCast]
    have en : ∀ c i, (i ≠ (jl_g s H 2).toNat) → c ≠ H → jl_g (jl_up (jl_up (jl_up (jl_up s (H + 1) (jl_g s H 2).toNat v) (H + 2) (jl_g s H 2).toNat a) (H + 3) (jl_g s H 2).toNat b) H 2 (jl_g s H 2 + 1)) c i = jl_g s c i := by
      intro c i hi hc
      rw [jp_g_ne hc]
      by_cases c3 : c = H + 3
      · subst c3
        simp (disch := omega) only [if_pos, if_neg, jp_bd, jp_lm, jp_let, jp_zb0, jp_zb1, jp_add, jp_sub, jp_g_eq, jp_g_eqg, jp_g_ne, jp_g_nei, jp_r_ne, jp_r_nei, Int.toNat_natCast]
      · by_cases c2 : c = H + 2
        · subst c2
          simp (disch := omega) only [if_pos, if_neg, jp_bd, jp_lm, jp_let, jp_zb0, jp_zb1, jp_add, jp_sub, jp_g_eq, jp_g_eqg, jp_g_ne, jp_g_nei, jp_r_ne, jp_r_nei, Int.toNat_natCast]
        · by_cases c1 : c = H + 1
          · subst c1
            simp (disch := omega) only [if_pos, if_neg, jp_bd, jp_lm, jp_let, jp_zb0, jp_zb1, jp_add, jp_sub, jp_g_eq, jp_g_eqg, jp_g_ne, jp_g_nei, jp_r_ne, jp_r_nei, Int.toNat_natCast]
          · simp (disch := omega) only [if_pos, if_neg, jp_bd, jp_lm, jp_let, jp_zb0, jp_zb1, jp_add, jp_sub, jp_g_eq, jp_g_eqg, jp_g_ne, jp_g_nei, jp_r_ne, jp_r_nei, Int.toNat_natCast]
    have ev : st.1 = 0 → jl_g (jl_up (jl_up (jl_up (jl_up s (H + 1) (jl_g s H 2).toNat v) (H + 2) (jl_g s H 2).toNat a) (H + 3) (jl_g s H 2).toNat b) H 2 (jl_g s H 2 + 1)) (H + 1) (jl_g s H 2).toNat = v := by
      intro h0
      have hn := jz_cn_n (hv h0).2
      rw [← (hv h0).1] at hn
      obtain ⟨n1, n2⟩ := hn
      simp (disch := omega) only [if_pos, if_neg, jp_bd, jp_lm, jp_let, jp_zb0, jp_zb1, jp_add, jp_sub, jp_g_eq, jp_g_eqg, jp_g_ne, jp_g_nei, jp_r_ne, jp_r_nei, Int.toNat_natCast]
    have ea : jl_g (jl_up (jl_up (jl_up (jl_up s (H + 1) (jl_g s H 2).toNat v) (H + 2) (jl_g s H 2).toNat a) (H + 3) (jl_g s H 2).toNat b) H 2 (jl_g s H 2 + 1)) (H + 2) (jl_g s H 2).toNat = a := by
      obtain ⟨n1, n2⟩ := ha
      simp (disch := omega) only [if_pos, if_neg, jp_bd, jp_lm, jp_let, jp_zb0, jp_zb1, jp_add, jp_sub, jp_g_eq, jp_g_eqg, jp_g_ne, jp_g_nei, jp_r_ne, jp_r_nei, Int.toNat_natCast]
    have eb : jl_g (jl_up (jl_up (jl_up (jl_up s (H + 1) (jl_g s H 2).toNat v) (H + 2) (jl_g s H 2).toNat a) (H + 3) (jl_g s H 2).toNat b) H 2 (jl_g s H 2 + 1)) (H + 3) (jl_g s H 2).toNat = b := by
      obtain ⟨n1, n2⟩ := hb
      simp (disch := omega) only [if_pos, if_neg, jp_bd, jp_lm, jp_let, jp_zb0, jp_zb1, jp_add, jp_sub, jp_g_eq, jp_g_eqg, jp_g_ne, jp_g_nei, jp_r_ne, jp_r_nei, Int.toNat_natCast]
    have eo : ∀ c i, H + 4 ≤ c → jl_g (jl_up (jl_up (jl_up (jl_up s (H + 1) (jl_g s H 2).toNat v) (H + 2) (jl_g s H 2).toNat a) (H + 3) (jl_g s H 2).toNat b) H 2 (jl_g s H 2 + 1)) c i = jl_g s c i := by
      intro c i hc
      simp (disch := omega) only [if_pos, if_neg, jp_bd, jp_lm, jp_let, jp_zb0, jp_zb1, jp_add, jp_sub, jp_g_eq, jp_g_eqg, jp_g_ne, jp_g_nei, jp_r_ne, jp_r_nei, Int.toNat_natCast]
    generalize jl_up (jl_up (jl_up (jl_up s (H + 1) (jl_g s H 2).toNat v) (H + 2) (jl_g s H 2).toNat a) (H + 3) (jl_g s H 2).toNat b) H 2 (jl_g s H 2 + 1) = τ at *
    refine ⟨τ, rfl, frH, h.up hH fr (by intro c i hc; simp [jp_in] at hc; omega) trivial (by rw [e2]; omega) (by rw [ek 3 (by decide)]; exact b3) (by rw [ek 4 (by decide)]; exact b4) (fun h0 => ?_)⟩
    obtain ⟨r1, r2, r3, r4⟩ := hR h0
    have z2 := r1 2 (by decide)
    refine ⟨fun k hk => ?_, fun i hi => ?_, fun i hi => ?_, fun i hi => ?_⟩
    · by_cases q : k = 2
      · subst q; simp [jz_s, jz_a, jz_n, e2, z2]
      · simp [jz_s, jz_a, jz_n, q, ek k q, r1 k hk]
    · simp only [jz_s, jz_a, jz_n] at hi ⊢
      by_cases q : (i : Int) = Z.1 2
      · have qi : i = (jl_g s H 2).toNat := by omega
        subst qi
        rw [ev h0, ea, eb]
        simp [q, (hv h0).1, (hv h0).2]
      · have hi2 : (i : Int) < Z.1 2 := by simp at hi; omega
        have qi : i ≠ (jl_g s H 2).toNat := by omega
        rw [en _ _ qi (by omega), en _ _ qi (by omega), en _ _ qi (by omega)]
        simpa [q] using r2 i hi2
    · simp only [jz_s, jz_a, jz_n] at hi ⊢
      rw [eo _ _ (by omega), eo _ _ (by omega), eo _ _ (by omega)]
      simpa using r3 i (by simpa using hi)
    · simp only [jz_s, jz_a, jz_n] at hi ⊢
      rw [eo _ _ (by omega), eo _ _ (by omega), eo _ _ (by omega)]
      simpa using r4 i (by simpa using hi)
theorem jz_bAddL {T : Nat → Int} {e H w f : Nat} {st : jq_S} {Z : jz_Z} {s : jl_Mm} {v a : Int} {u : List Int} {a' : Int} (hH : jz_Hq H) (h : jz_B T e H w f st Z s) (hv : st.1 = 0 → v = jz_cn u ∧ jz_vn u) (ha : jl_n3 a) (ha' : st.1 = 0 → a = a') (hp : st.1 = 0 → 0 ≤ a) (hfull : st.1 = 0 → Z.1 3 < 8) : ∃ τ, jf_X8_addLie H v a s = some (0, τ) ∧ jp_fr (jz_FH H) s τ ∧ jz_B T e H w f st (jz_s (jz_a (jz_a (jz_n Z 4 (Z.1 3) u) 5 (Z.1 3) a') 6 (Z.1 3) (-1)) 3 (Z.1 3 + 1)) τ := by
  have ⟨hC, _, _, b0, b2, b3, b4, hR⟩ := h
  rw [jf_X8_addLie, if_pos (jz_kd hH)]
  by_cases hneg : a < 0
  · rw [if_pos hneg, jf_X8_addLie_B53]
    refine ⟨s, rfl, jp_fr.rf, h.up hH jp_fr.rf (F := []) (by intro c i hc; cases hc) b0 b2 b3 b4 (fun h0 => ?_)⟩
    have := hp h0
    omega
  rw [if_neg hneg]
  by_cases hful : 8 ≤ jl_g s H 3
  · rw [if_pos hful, jf_X8_addLie_B53]
    refine ⟨s, rfl, jp_fr.rf, h.up hH jp_fr.rf (F := []) (by intro c i hc; cases hc) b0 b2 b3 b4 (fun h0 => ?_)⟩
    have := hfull h0
    rw [← (hR h0).1 3 (by decide)] at this
    omega
  · have g2a : jl_g (jl_up s (H + 4) (jl_g s H 3).toNat v) H 3 = jl_g s H 3 := by
      simp (disch := omega) only [if_pos, if_neg, jp_bd, jp_lm, jp_let, jp_zb0, jp_zb1, jp_add, jp_sub, jp_g_eq, jp_g_eqg, jp_g_ne, jp_g_nei, jp_r_ne, jp_r_nei, Int.toNat_natCast]
    have g2b : jl_g (jl_up (jl_up s (H + 4) (jl_g s H 3).toNat v) (H + 5) (jl_g s H 3).toNat a) H 3 = jl_g s H 3 := by
      simp (disch := omega) only [if_pos, if_neg, jp_bd, jp_lm, jp_let, jp_zb0, jp_zb1, jp_add, jp_sub, jp_g_eq, jp_g_eqg, jp_g_ne, jp_g_nei, jp_r_ne, jp_r_nei, Int.toNat_natCast]
    have g2c : jl_g (jl_up (jl_up (jl_up s (H + 4) (jl_g s H 3).toNat v) (H + 5) (jl_g s H 3).toNat a) (H + 6) (jl_g s H 3).toNat (-1)) H 3 = jl_g s H 3 := by
      simp (disch := omega) only [if_pos, if_neg, jp_bd, jp_lm, jp_let, jp_zb0, jp_zb1, jp_add, jp_sub, jp_g_eq, jp_g_eqg, jp_g_ne, jp_g_nei, jp_r_ne, jp_r_nei, Int.toNat_natCast]
    rw [if_neg hful, if_pos (by omega), jp_lm, g2a, if_pos (by omega), jp_lm, g2b, if_pos (by omega), jp_lm, g2c, jp_add (by omega) (by omega), jp_lm, jf_X8_addLie_B53]
    have fr : jp_fr [(H, 3, 4), (H + 4, 0, 0), (H + 5, 0, 0), (H + 6, 0, 0)] s (jl_up (jl_up (jl_up (jl_up s (H + 4) (jl_g s H 3).toNat v) (H + 5) (jl_g s H 3).toNat a) (H + 6) (jl_g s H 3).toNat (-1)) H 3 (jl_g s H 3 + 1)) := (((jp_fr.rf.up (by simp [jp_in])).up (by simp [jp_in])).up (by simp [jp_in])).up (by simp [jp_in])
    have frH : jp_fr (jz_FH H) s (jl_up (jl_up (jl_up (jl_up s (H + 4) (jl_g s H 3).toNat v) (H + 5) (jl_g s H 3).toNat a) (H + 6) (jl_g s H 3).toNat (-1)) H 3 (jl_g s H 3 + 1)) := (((jp_fr.rf.up (by simp [jp_in, jz_FH])).up (by simp [jp_in, jz_FH])).up (by simp [jp_in, jz_FH])).up (by simp [jp_in, jz_FH])
    have e2 : jl_g (jl_up (jl_up (jl_up (jl_up s (H + 4) (jl_g s H 3).toNat v) (H + 5) (jl_g s H 3).toNat a) (H + 6) (jl_g s H 3).toNat (-1)) H 3 (jl_g s H 3 + 1)) H 3 = jl_g s H 3 + 1 := by
      simp (disch := omega) only [if_pos, if_neg, jp_bd, jp_lm, jp_let, jp_zb0, jp_zb1, jp_add, jp_sub, jp_g_eq, jp_g_eqg, jp_g_ne, jp_g_nei, jp_r_ne, jp_r_nei, Int.toNat_natCast]
    have ek : ∀ k, k ≠ 3 → jl_g (jl_up (jl_up (jl_up (jl_up s (H + 4) (jl_g s H 3).toNat v) (H + 5) (jl_g s H 3).toNat a) (H + 6) (jl_g s H 3).toNat (-1)) H 3 (jl_g s H 3 + 1)) H k = jl_g s H k := by
      intro k hk
      simp (disch := omega) only [if_pos, if_neg, jp_bd, jp_lm, jp_let, jp_zb0, jp_zb1, jp_add, jp_sub, jp_g_eq, jp_g_eqg, jp_g_ne, jp_g_nei, jp_r_ne, jp_r_nei, Int.toNat_natCast]
    have en : ∀ c i, (i ≠ (jl_g s H 3).toNat) → c ≠ H → jl_g (jl_up (jl_up (jl_up (jl_up s (H + 4) (jl_g s H 3).toNat v) (H + 5) (jl_g s H 3).toNat a) (H + 6) (jl_g s H 3).toNat (-1)) H 3 (jl_g s H 3 + 1)) c i = jl_g s c i := by
      intro c i hi hc
      rw [jp_g_ne hc]
      by_cases c3 : c = H + 6
      · subst c3
        simp (disch := omega) only [if_pos, if_neg, jp_bd, jp_lm, jp_let, jp_zb0, jp_zb1, jp_add, jp_sub, jp_g_eq, jp_g_eqg, jp_g_ne, jp_g_nei, jp_r_ne, jp_r_nei, Int.toNat_natCast]
      · by_cases c2 : c = H + 5
        · subst c2
          simp (disch := omega) only [if_pos, if_neg, jp_bd, jp_lm, jp_let, jp_zb0, jp_zb1, jp_add, jp_sub, jp_g_eq, jp_g_eqg, jp_g_ne, jp_g_nei, jp_r_ne, jp_r_nei, Int.toNat_natCast]
        · by_cases c1 : c = H + 4
          · subst c1
            simp (disch := omega) only [if_pos, if_neg, jp_bd, jp_lm, jp_let, jp_zb0, jp_zb1, jp_add, jp_sub, jp_g_eq, jp_g_eqg, jp_g_ne, jp_g_nei, jp_r_ne, jp_r_nei, Int.toNat_natCast]
          · simp (disch := omega) only [if_pos, if_neg, jp_bd, jp_lm, jp_let, jp_zb0, jp_zb1, jp_add, jp_sub, jp_g_eq, jp_g_eqg, jp_g_ne, jp_g_nei, jp_r_ne, jp_r_nei, Int.toNat_natCast]
    have ev : st.1 = 0 → jl_g (jl_up (jl_up (jl_up (jl_up s (H + 4) (jl_g s H 3).toNat v) (H + 5) (jl_g s H 3).toNat a) (H + 6) (jl_g s H 3).toNat (-1)) H 3 (jl_g s H 3 + 1)) (H + 4) (jl_g s H 3).toNat = v := by
      intro h0
      have hn := jz_cn_n (hv h0).2
      rw [← (hv h0).1] at hn
      obtain ⟨n1, n2⟩ := hn
      simp (disch := omega) only [if_pos, if_neg, jp_bd, jp_lm, jp_let, jp_zb0, jp_zb1, jp_add, jp_sub, jp_g_eq, jp_g_eqg, jp_g_ne, jp_g_nei, jp_r_ne, jp_r_nei, Int.toNat_natCast]
    have ea : jl_g (jl_up (jl_up (jl_up (jl_up s (H + 4) (jl_g s H 3).toNat v) (H + 5) (jl_g s H 3).toNat a) (H + 6) (jl_g s H 3).toNat (-1)) H 3 (jl_g s H 3 + 1)) (H + 5) (jl_g s H 3).toNat = a := by
      obtain ⟨n1, n2⟩ := ha
      simp (disch := omega) only [if_pos, if_neg, jp_bd, jp_lm, jp_let, jp_zb0, jp_zb1, jp_add, jp_sub, jp_g_eq, jp_g_eqg, jp_g_ne, jp_g_nei, jp_r_ne, jp_r_nei, Int.toNat_natCast]
    have eb : jl_g (jl_up (jl_up (jl_up (jl_up s (H + 4) (jl_g s H 3).toNat v) (H + 5) (jl_g s H 3).toNat a) (H + 6) (jl_g s H 3).toNat (-1)) H 3 (jl_g s H 3 + 1)) (H + 6) (jl_g s H 3).toNat = -1 := by
      simp (disch := omega) only [if_pos, if_neg, jp_bd, jp_lm, jp_let, jp_zb0, jp_zb1, jp_add, jp_sub, jp_g_eq, jp_g_eqg, jp_g_ne, jp_g_nei, jp_r_ne, jp_r_nei, Int.toNat_natCast]
    have eo : ∀ c i, (c < H ∨ H + 7 ≤ c ∨ (H < c ∧ c < H + 4)) → jl_g (jl_up (jl_up (jl_up (jl_up s (H + 4) (jl_g s H 3).toNat v) (H + 5) (jl_g s H 3).toNat a) (H + 6) (jl_g s H 3).toNat (-1)) H 3 (jl_g s H 3 + 1)) c i = jl_g s c i := by
      intro c i hc
      simp (disch := omega) only [if_pos, if_neg, jp_bd, jp_lm, jp_let, jp_zb0, jp_zb1, jp_add, jp_sub, jp_g_eq, jp_g_eqg, jp_g_ne, jp_g_nei, jp_r_ne, jp_r_nei, Int.toNat_natCast]
    generalize jl_up (jl_up (jl_up (jl_up s (H + 4) (jl_g s H 3).toNat v) (H + 5) (jl_g s H 3).toNat a) (H + 6) (jl_g s H 3).toNat (-1)) H 3 (jl_g s H 3 + 1) = τ at *
    refine ⟨τ, rfl, frH, h.up hH fr (by intro c i hc; simp [jp_in] at hc; omega) trivial (by rw [ek 2 (by decide)]; exact b2) (by rw [e2]; omega) (by rw [ek 4 (by decide)]; exact b4) (fun h0 => ?_)⟩
    obtain ⟨r1, r2, r3, r4⟩ := hR h0
    have z2 := r1 3 (by decide)
    refine ⟨fun k hk => ?_, fun i hi => ?_, fun i hi => ?_, fun i hi => ?_⟩
    · by_cases q : k = 3
      · subst q; simp [jz_s, jz_a, jz_n, e2, z2]
      · simp [jz_s, jz_a, jz_n, q, ek k q, r1 k hk]
    · simp only [jz_s, jz_a, jz_n] at hi ⊢
      rw [eo _ _ (by omega), eo _ _ (by omega), eo _ _ (by omega)]
      simpa using r2 i (by simpa using hi)
    · simp only [jz_s, jz_a, jz_n] at hi ⊢
      by_cases q : (i : Int) = Z.1 3
      · have qi : i = (jl_g s H 3).toNat := by omega
        subst qi
        rw [ev h0, ea, eb]
        simp [q, (hv h0).1, (hv h0).2, ha' h0]
      · have hi2 : (i : Int) < Z.1 3 := by simp at hi; omega
        have qi : i ≠ (jl_g s H 3).toNat := by omega
        rw [en _ _ qi (by omega), en _ _ qi (by omega), en _ _ qi (by omega)]
        simpa [q] using r3 i hi2
    · simp only [jz_s, jz_a, jz_n] at hi ⊢
      rw [eo _ _ (by omega), eo _ _ (by omega), eo _ _ (by omega)]
      simpa using r4 i (by simpa using hi)
theorem jz_bAddR {T : Nat → Int} {e H w f : Nat} {st : jq_S} {Z : jz_Z} {s : jl_Mm} {a b d a' : Int} (hH : jz_Hq H) (h : jz_B T e H w f st Z s) (ha : jl_n3 a) (hb : jl_n3 b) (hd : jl_n3 d) (ha' : st.1 = 0 → a = a') (hp : st.1 = 0 → 0 ≤ a) (hfull : st.1 = 0 → Z.1 4 < 16) : ∃ τ, jf_X8_addRow H a b d s = some (0, τ) ∧ jp_fr (jz_FH H) s τ ∧ jz_B T e H w f st (jz_s (jz_a (jz_a (jz_a Z 7 (Z.1 4) a') 8 (Z.1 4) b) 9 (Z.1 4) d) 4 (Z.1 4 + 1)) τ := by
  have ⟨hC, _, _, b0, b2, b3, b4, hR⟩ := h
  rw [jf_X8_addRow, if_pos (jz_kd hH)]
  by_cases hneg : a < 0
  · rw [if_pos hneg, jf_X8_addRow_B53]
    refine ⟨s, rfl, jp_fr.rf, h.up hH jp_fr.rf (F := []) (by intro c i hc; cases hc) b0 b2 b3 b4 (fun h0 => ?_)⟩
    have := hp h0
    omega
  rw [if_neg hneg]
  by_cases hful : 16 ≤ jl_g s H 4
  · rw [if_pos hful, jf_X8_addRow_B53]
    refine ⟨s, rfl, jp_fr.rf, h.up hH jp_fr.rf (F := []) (by intro c i hc; cases hc) b0 b2 b3 b4 (fun h0 => ?_)⟩
    have := hfull h0
    rw [← (hR h0).1 4 (by decide)] at this
    omega
  · have g2a : jl_g (jl_up s (H + 7) (jl_g s H 4).toNat a) H 4 = jl_g s H 4 := by
      simp (disch := omega) only [if_pos, if_neg, jp_bd, jp_lm, jp_let, jp_zb0, jp_zb1, jp_add, jp_sub, jp_g_eq, jp_g_eqg, jp_g_ne, jp_g_nei, jp_r_ne, jp_r_nei, Int.toNat_natCast]
    have g2b : jl_g (jl_up (jl_up s (H + 7) (jl_g s H 4).toNat a) (H + 8) (jl_g s H 4).toNat b) H 4 = jl_g s H 4 := by
      simp (disch := omega) only [if_pos, if_neg, jp_bd, jp_lm, jp_let, jp_zb0, jp_zb1, jp_add, jp_sub, jp_g_eq, jp_g_eqg, jp_g_ne, jp_g_nei, jp_r_ne, jp_r_nei, Int.toNat_natCast]
    have g2c : jl_g (jl_up (jl_up (jl_up s (H + 7) (jl_g s H 4).toNat a) (H + 8) (jl_g s H 4).toNat b) (H + 9) (jl_g s H 4).toNat d) H 4 = jl_g s H 4 := by
      simp (disch := omega) only [if_pos, if_neg, jp_bd, jp_lm, jp_let, jp_zb0, jp_zb1, jp_add, jp_sub, jp_g_eq, jp_g_eqg, jp_g_ne, jp_g_nei, jp_r_ne, jp_r_nei, Int.toNat_natCast]
    rw [if_neg hful, if_pos (by omega), jp_lm, g2a, if_pos (by omega), jp_lm, g2b, if_pos (by omega), jp_lm, g2c, jp_add (by omega) (by omega), jp_lm, jf_X8_addRow_B53]
    have fr : jp_fr [(H, 4, 5), (H + 7, 0, 0), (H + 8, 0, 0), (H + 9, 0, 0)] s (jl_up (jl_up (jl_up (jl_up s (H + 7) (jl_g s H 4).toNat a) (H + 8) (jl_g s H 4).toNat b) (H + 9) (jl_g s H 4).toNat d) H 4 (jl_g s H 4 + 1)) := (((jp_fr.rf.up (by simp [jp_in])).up (by simp [jp_in])).up (by simp [jp_in])).up (by simp [jp_in])
    have frH : jp_fr (jz_FH H) s (jl_up (jl_up (jl_up (jl_up s (H + 7) (jl_g s H 4).toNat a) (H + 8) (jl_g s H 4).toNat b) (H + 9) (jl_g s H 4).toNat d) H 4 (jl_g s H 4 + 1)) := (((jp_fr.rf.up (by simp [jp_in, jz_FH])).up (by simp [jp_in, jz_FH])).up (by simp [jp_in, jz_FH])).up (by simp [jp_in, jz_FH])
    have e2 : jl_g (jl_up (jl_up (jl_up (jl_up s (H + 7) (jl_g s H 4).toNat a) (H + 8) (jl_g s H 4).toNat b) (H + 9) (jl_g s H 4).toNat d) H 4 (jl_g s H 4 + 1)) H 4 = jl_g s H 4 + 1 := by
      simp (disch := omega) only [if_pos, if_neg, jp_bd, jp_lm, jp_let, jp_zb0, jp_zb1, jp_add, jp_sub, jp_g_eq, jp_g_eqg, jp_g_ne, jp_g_nei, jp_r_ne, jp_r_nei, Int.toNat_natCast]
    have ek : ∀ k, k ≠ 4 → jl_g (jl_up (jl_up (jl_up (jl_up s (H + 7) (jl_g s H 4).toNat a) (H + 8) (jl_g s H 4).toNat b) (H + 9) (jl_g s H 4).toNat d) H 4 (jl_g s H 4 + 1)) H k = jl_g s H k := by
      intro k hk
      simp (disch := omega) only [if_pos, if_neg, jp_bd, jp_lm, jp_let, jp_zb0, jp_zb1, jp_add, jp_sub, jp_g_eq, jp_g_eqg, jp_g_ne, jp_g_nei, jp_r_ne, jp_r_nei, Int.toNat_natCast]
    have en : ∀ c i, (i ≠ (jl_g s H 4).toNat) → c ≠ H → jl_g (jl_up (jl_up (jl_up (jl_up s (H + 7) (jl_g s H 4).toNat a) (H + 8) (jl_g s H 4).toNat b) (H + 9) (jl_g s H 4).toNat d) H 4 (jl_g s H 4 + 1)) c i = jl_g s c i := by
      intro c i hi hc
      rw [jp_g_ne hc]
      by_cases c3 : c = H + 9
      · subst c3
        simp (disch := omega) only [if_pos, if_neg, jp_bd, jp_lm, jp_let, jp_zb0, jp_zb1, jp_add, jp_sub, jp_g_eq, jp_g_eqg, jp_g_ne, jp_g_nei, jp_r_ne, jp_r_nei, Int.toNat_natCast]
      · by_cases c2 : c = H + 8
        · subst c2
          simp (disch := omega) only [if_pos, if_neg, jp_bd, jp_lm, jp_let, jp_zb0, jp_zb1, jp_add, jp_sub, jp_g_eq, jp_g_eqg, jp_g_ne, jp_g_nei, jp_r_ne, jp_r_nei, Int.toNat_natCast]
        · by_cases c1 : c = H + 7
          · subst c1
            simp (disch := omega) only [if_pos, if_neg, jp_bd, jp_lm, jp_let, jp_zb0, jp_zb1, jp_add, jp_sub, jp_g_eq, jp_g_eqg, jp_g_ne, jp_g_nei, jp_r_ne, jp_r_nei, Int.toNat_natCast]
          · simp (disch := omega) only [if_pos, if_neg, jp_bd, jp_lm, jp_let, jp_zb0, jp_zb1, jp_add, jp_sub, jp_g_eq, jp_g_eqg, jp_g_ne, jp_g_nei, jp_r_ne, jp_r_nei, Int.toNat_natCast]
    have ev : jl_g (jl_up (jl_up (jl_up (jl_up s (H + 7) (jl_g s H 4).toNat a) (H + 8) (jl_g s H 4).toNat b) (H + 9) (jl_g s H 4).toNat d) H 4 (jl_g s H 4 + 1)) (H + 7) (jl_g s H 4).toNat = a := by
      obtain ⟨n1, n2⟩ := ha
      simp (disch := omega) only [if_pos, if_neg, jp_bd, jp_lm, jp_let, jp_zb0, jp_zb1, jp_add, jp_sub, jp_g_eq, jp_g_eqg, jp_g_ne, jp_g_nei, jp_r_ne, jp_r_nei, Int.toNat_natCast]
    have ea : jl_g (jl_up (jl_up (jl_up (jl_up s (H + 7) (jl_g s H 4).toNat a) (H + 8) (jl_g s H 4).toNat b) (H + 9) (jl_g s H 4).toNat d) H 4 (jl_g s H 4 + 1)) (H + 8) (jl_g s H 4).toNat = b := by
      obtain ⟨n1, n2⟩ := hb
      simp (disch := omega) only [if_pos, if_neg, jp_bd, jp_lm, jp_let, jp_zb0, jp_zb1, jp_add, jp_sub, jp_g_eq, jp_g_eqg, jp_g_ne, jp_g_nei, jp_r_ne, jp_r_nei, Int.toNat_natCast]
    have eb : jl_g (jl_up (jl_up (jl_up (jl_up s (H + 7) (jl_g s H 4).toNat a) (H + 8) (jl_g s H 4).toNat b) (H + 9) (jl_g s H 4).toNat d) H 4 (jl_g s H 4 + 1)) (H + 9) (jl_g s H 4).toNat = d := by
      obtain ⟨n1, n2⟩ := hd
      simp (disch := omega) only [if_pos, if_neg, jp_bd, jp_lm, jp_let, jp_zb0, jp_zb1, jp_add, jp_sub, jp_g_eq, jp_g_eqg, jp_g_ne, jp_g_nei, jp_r_ne, jp_r_nei, Int.toNat_natCast]
    have eo : ∀ c i, (c < H ∨ H + 10 ≤ c ∨ (H < c ∧ c < H + 7)) → jl_g (jl_up (jl_up (jl_up (jl_up s (H + 7) (jl_g s H 4).toNat a) (H + 8) (jl_g s H 4).toNat b) (H + 9) (jl_g s H 4).toNat d) H 4 (jl_g s H 4 + 1)) c i = jl_g s c i := by
      intro c i hc
      simp (disch := omega) only [if_pos, if_neg, jp_bd, jp_lm, jp_let, jp_zb0, jp_zb1, jp_add, jp_sub, jp_g_eq, jp_g_eqg, jp_g_ne, jp_g_nei, jp_r_ne, jp_r_nei, Int.toNat_natCast]
    generalize jl_up (jl_up (jl_up (jl_up s (H + 7) (jl_g s H 4).toNat a) (H + 8) (jl_g s H 4).toNat b) (H + 9) (jl_g s H 4).toNat d) H 4 (jl_g s H 4 + 1) = τ at *
    refine ⟨τ, rfl, frH, h.up hH fr (by intro c i hc; simp [jp_in] at hc; omega) trivial (by rw [ek 2 (by decide)]; exact b2) (by rw [ek 3 (by decide)]; exact b3) (by rw [e2]; omega) (fun h0 => ?_)⟩
    obtain ⟨r1, r2, r3, r4⟩ := hR h0
    have z2 := r1 4 (by decide)
    refine ⟨fun k hk => ?_, fun i hi => ?_, fun i hi => ?_, fun i hi => ?_⟩
    · by_cases q : k = 4
      · subst q; simp [jz_s, jz_a, jz_n, e2, z2]
      · simp [jz_s, jz_a, jz_n, q, ek k q, r1 k hk]
    · simp only [jz_s, jz_a, jz_n] at hi ⊢
      rw [eo _ _ (by omega), eo _ _ (by omega), eo _ _ (by omega)]
      simpa using r2 i (by simpa using hi)
    · simp only [jz_s, jz_a, jz_n] at hi ⊢
      rw [eo _ _ (by omega), eo _ _ (by omega), eo _ _ (by omega)]
      simpa using r3 i (by simpa using hi)
    · simp only [jz_s, jz_a, jz_n] at hi ⊢
      by_cases q : (i : Int) = Z.1 4
      · have qi : i = (jl_g s H 4).toNat := by omega
        subst qi
        rw [ev, ea, eb]
        simp [q, ha' h0]
      · have hi2 : (i : Int) < Z.1 4 := by simp at hi; omega
        have qi : i ≠ (jl_g s H 4).toNat := by omega
        rw [en _ _ qi (by omega), en _ _ qi (by omega), en _ _ qi (by omega)]
        simpa [q] using r4 i hi2
