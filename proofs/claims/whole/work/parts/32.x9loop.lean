/-! PURE, the class's street reader: all of it -/
theorem jz_c_mv {T : Nat → Int} {e p : Nat} {st : jq_S} : (jq_mv T e p st).2.2 = st.2.2 := by
  rw [jq_mv]; split <;> rfl
theorem jz_c_fl {k p : Nat} {st : jq_S} : (jq_fl k p st).2.2 = st.2.2 := by
  rw [jq_fl]; split <;> rfl
theorem jz_c_xs {T : Nat → Int} {e : Nat} {c : Int} {st : jq_S} : (jq_xs T e c st).2.2 = st.2.2 := by
  rw [jq_xs]; split
  · exact jz_c_mv
  · exact jz_c_fl
theorem jz_c_name {T : Nat → Int} {e : Nat} {st : jq_S} : (jz_name T e st).1.2.2 = st.2.2 := by
  rw [jz_name]; split
  · exact jz_c_fl
  · split
    · exact jz_c_fl
    · exact jz_c_mv
theorem jz_c_num {T : Nat → Int} {e : Nat} {lo hi : Int} {st : jq_S} : (jz_num T e lo hi st).1.2.2 = st.2.2 := by
  rw [jz_num]; simp only; split
  · exact jz_c_mv
  · exact jz_c_fl
theorem jz_c_ew {T : Nat → Int} {e : Nat} {v : Int} {st : jq_S} : (jz_ew T e v st).2.2 = st.2.2 := by
  rw [jz_ew]; split
  · exact jz_c_mv
  · exact jz_c_fl
theorem jz_c_rk {Z : jz_Z} {u : List Int} {na : Nat} {st : jq_S} : (jz_rk Z u na st).2.2 = st.2.2 := by
  rw [jz_rk]; split
  · exact jz_c_fl
  · rfl
theorem jz_c_rn {i : Int} {na : Nat} {st : jq_S} : (jz_rn i na st).2.2 = st.2.2 := by
  rw [jz_rn]; split
  · exact jz_c_fl
  · rfl
theorem jz_c_person {T : Nat → Int} {e : Nat} {Z : jz_Z} {st : jq_S} : (jz_person T e Z st).1.2.2 = st.2.2 := by
  show (jz_num T e 0 9 _).1.2.2 = _
  rw [jz_c_num, jz_c_ew, jz_c_num, jz_c_ew, jz_c_rk, jz_c_name]
theorem jz_c_lie {T : Nat → Int} {e : Nat} {Z : jz_Z} {st : jq_S} : (jz_lie T e Z st).1.2.2 = st.2.2 := by
  show (jz_rn _ _ _).2.2 = _
  rw [jz_c_rn, jz_c_name, jz_c_ew, jz_c_rk, jz_c_name]
theorem jz_c_light {T : Nat → Int} {e : Nat} {Z : jz_Z} {st : jq_S} : (jz_light T e Z st).1.2.2 = st.2.2 := by
  show (jz_num T e 1 99 _).1.2.2 = _
  rw [jz_c_num, jz_c_ew, jz_c_num, jz_c_ew, jz_c_rn, jz_c_name]
theorem jz_c_hangs {T : Nat → Int} {e : Nat} {Z : jz_Z} {st : jq_S} : (jz_hangs T e Z st).1.2.2 = st.2.2 := by
  have a : ∀ (c : Prop) [Decidable c] (na : Nat) (S : jq_S), (if c then jq_fl 3 na S else S).2.2 = S.2.2 := by
    intro c _ na S
    split
    · exact jz_c_fl
    · rfl
  rw [jz_hangs]
  simp only
  rw [a, jz_c_rn, jz_c_name, jz_c_ew, a, jz_c_rn, jz_c_name]
/-- the street's reader between two statements -/
def jz_I (T : Nat → Int) (e H : Nat) (r : jq_S × jz_Z) (τ : jl_Mm) : Prop :=
  (∃ w f, (w = 0 ∨ w = 1 ∨ w = 2) ∧ jz_B T e H w f r.1 r.2 τ) ∧ jq_wf T e r.1 ∧ (r.1.1 = 0 → jz_D (H + 10) r.1.2.2 r.2 τ ∧ 0 ≤ r.2.1 1 ∧ r.2.1 1 ≤ 30)
theorem jx0_told {H w : Nat} {L : List Int} {Z : jz_Z} {s : jl_Mm} (hH : jz_Hq H) (hw : w < 3) (hD : jz_D (H + 10) L Z s) : jf_X0_isTold (H + 10) (w : Int) s = some (if Z.1 (10 + w) < Z.1 (20 + w) then 1 else 0, s) := by
  obtain ⟨d1, d2, -⟩ := hD w hw
  rw [jf_X0_isTold, if_pos (by rcases hH with rfl | rfl <;> decide +kernel), if_pos (by omega), if_pos (by omega), Int.toNat_natCast, d1, d2]
  simp only [jf_X0_isTold_B20]
  by_cases q : Z.1 (20 + w) ≤ Z.1 (10 + w)
  · rw [if_pos q, if_neg (by omega), jp_zb0]
  · rw [if_neg q, if_pos (by omega), jp_zb1]
theorem jx9_tooMany {T : Nat → Int} {e H w f : Nat} {st : jq_S} {Z : jz_Z} {s : jl_Mm} {v : Int} (hH : jz_Hq H) (h : jz_B T e H w f st Z s) (h0 : st.1 = 0) (hD : jz_D (H + 10) st.2.2 Z s) : jf_X9_isTooMany v s = some (if jz_full Z v = true then 1 else 0, s) := by
  obtain ⟨g1, g2⟩ := jz_gH hH h
  obtain ⟨r1, -⟩ := h.2.2.2.2.2.2.2 h0
  have t0 := jx0_told (w := 0) hH (by decide) hD
  have t1 := jx0_told (w := 1) hH (by decide) hD
  have t2 := jx0_told (w := 2) hH (by decide) hD
  rw [show ((0 : Nat) : Int) = 0 from rfl] at t0
  rw [show ((1 : Nat) : Int) = 1 from rfl] at t1
  rw [show ((2 : Nat) : Int) = 2 from rfl] at t2
  rw [jf_X9_isTooMany, jz_full]
  simp only [jf_X9_isTooMany_B85, jf_X9_isTooMany_B103, jf_X9_isTooMany_B121]
  by_cases q1 : v = 1
  · rw [if_pos q1, if_pos q1, if_pos g1, g2, r1 2 (by decide)]
    by_cases z : Z.1 2 < 6
    · rw [if_pos z, jp_zb0, if_neg (by simp; omega)]
    · rw [if_neg z, jp_zb1, if_pos (by simp; omega)]
  · rw [if_neg q1, if_neg q1]
    by_cases q4 : v = 4
    · rw [if_pos q4, if_pos q4, if_pos g1, g2, r1 3 (by decide)]
      by_cases z : Z.1 3 < 8
      · rw [if_pos z, jp_zb0, if_neg (by simp; omega)]
      · rw [if_neg z, jp_zb1, if_pos (by simp; omega)]
    · rw [if_neg q4, if_neg q4]
      by_cases q8 : v = 8
      · rw [if_pos q8, if_pos q8, if_pos g1, g2, r1 4 (by decide)]
        by_cases z : Z.1 4 < 16
        · rw [if_pos z, jp_zb0, if_neg (by simp; omega)]
        · rw [if_neg z, jp_zb1, if_pos (by simp; omega)]
      · rw [if_neg q8, if_neg q8]
        by_cases q11 : v = 11
        · rw [if_pos q11, if_pos q11, if_pos g1, g2, t0, jp_bd]
          by_cases z : Z.1 (10 + 0) < Z.1 (20 + 0)
          · rw [if_pos z, jp_zb1, if_pos (by simpa using z)]
          · rw [if_neg z, jp_zb0, if_neg (by simpa using z)]
        · rw [if_neg q11, if_neg q11]
          by_cases q12 : v = 12
          · rw [if_pos q12, if_pos q12, if_pos g1, g2, t1, jp_bd]
            by_cases z : Z.1 (10 + 1) < Z.1 (20 + 1)
            · rw [if_pos z, jp_zb1, if_pos (by simpa using z)]
            · rw [if_neg z, jp_zb0, if_neg (by simpa using z)]
          · rw [if_neg q12, if_neg q12]
            by_cases q13 : v = 13
            · rw [if_pos q13, if_pos q13, if_pos g1, g2, t2, jp_bd]
              by_cases z : Z.1 (10 + 2) < Z.1 (20 + 2)
              · rw [if_pos z, jp_zb1, if_pos (by simpa using z)]
              · rw [if_neg z, jp_zb0, if_neg (by simpa using z)]
            · rw [if_neg q13, if_neg q13, jp_zb0, if_neg (by decide)]
theorem jx9_faultOf {T : Nat → Int} {e H w f k : Nat} {st : jq_S} {Z : jz_Z} {s : jl_Mm} {v : Int} (hH : jz_Hq H) (h : jz_B T e H w f st Z s) (h0 : st.1 = 0) (hD : jz_D (H + 10) st.2.2 Z s) : jf_X9_faultOf v (k : Int) s = some (if 60 ≤ k ∨ jz_full Z v = true then 5 else if (v = 0 ↔ k = 0) then 0 else 1, s) := by
  rw [jf_X9_faultOf]
  simp only [jf_X9_faultOf_B14, jf_X9_faultOf_B25, jf_X9_faultOf_B34, jf_X9_faultOf_B42]
  by_cases h60 : 60 ≤ k
  · rw [if_pos (by omega), if_pos (Or.inl h60)]
  · rw [if_neg (by omega), jx9_tooMany hH h h0 hD, jp_bd]
    by_cases hf : jz_full Z v = true
    · rw [if_pos hf, if_neg (by decide), if_pos (Or.inr hf)]
    · rw [if_neg hf, if_pos rfl, if_neg (c := 60 ≤ k ∨ jz_full Z v = true) (by rintro (z | z); exact h60 z; exact hf z)]
      by_cases hv : v = 0
      · rw [if_pos hv]
        by_cases hk : k = 0
        · rw [if_pos (by omega), if_pos trivial, if_pos ⟨fun _ => hk, fun _ => hv⟩]
        · rw [if_neg (by omega), if_neg (by decide), if_neg (fun z => hk (z.mp hv))]
      · rw [if_neg hv]
        by_cases hk : k = 0
        · rw [if_pos (by omega), if_neg (by decide), if_neg (fun z => hv (z.mpr hk))]
        · rw [if_neg (by omega), if_pos trivial, if_pos ⟨fun z => absurd z hv, fun z => absurd z hk⟩]
theorem jz_Ifr {T : Nat → Int} {e H w f : Nat} {st : jq_S} {r : jq_S × jz_Z} {Z : jz_Z} {s τ : jl_Mm} (hH : jz_Hq H) (hw : w = 0 ∨ w = 1 ∨ w = 2) (hB : jz_B T e H w f r.1 r.2 τ) (hs : jq_wf T e r.1) (fr : jp_fr (jz_FH H) s τ) (hD : jz_D (H + 10) st.2.2 Z s) (hL : r.1.2.2 = st.2.2) (hZ : ∀ w, w < 3 → r.2.1 (10 + w) = Z.1 (10 + w) ∧ r.2.1 (20 + w) = Z.1 (20 + w)) (h1 : r.1.1 = 0 → 0 ≤ r.2.1 1 ∧ r.2.1 1 ≤ 30) : jz_I T e H r τ := by
  refine ⟨⟨w, f, hw, hB⟩, hs, fun z => ⟨?_, h1 z⟩⟩
  rw [hL]
  refine hD.fr fr ?_ ?_ ?_ hZ <;> intro i <;> simp [jp_in, jz_FH] <;> rcases hH with rfl | rfl <;> omega
theorem jz_bOne {T : Nat → Int} {e H w f : Nat} {st : jq_S} {Z : jz_Z} {s : jl_Mm} (hH : jz_Hq H) (hw : w = 0 ∨ w = 1 ∨ w = 2) (h : jz_B T e H w f st Z s) (hs : jq_wf T e st) (h0 : st.1 = 0) (hD : jz_D (H + 10) st.2.2 Z s) (hwin : 0 ≤ Z.1 1 ∧ Z.1 1 ≤ 30) (h4 : jl_g s 38 4 = ((jq_at e st : Nat) : Int)) (h5 : jl_g s 38 5 = ((jq_pb T e st : Nat) : Int)) (hfull : jz_full Z (jq_pn T e st) ≠ true) : ∃ τ, jf_X9_readOne (jq_pn T e st) s = some (0, τ) ∧ jp_fr (jz_FC H) s τ ∧ jz_I T e H (jz_one T e (jq_pn T e st) (jq_at e st) Z (jq_mv T e (jq_pb T e st) st)) τ := by
  have he := h.1.1.1
  have ha := hs.at
  have hpe : jq_pb T e st ≤ e := by
    rw [jq_pb, jq_wb]
    split
    · exact jq_we_ub ha
    · exact ha
  have hge : st.2.1 ≤ jq_pb T e st := by
    rw [← jq_at0 (e := e) h0, jq_pb, jq_wb]
    split
    · exact jq_we_ge
    · exact Nat.le_refl _
  have fr0 : jp_fr [(38, 4, 5)] s (jl_up s 38 4 ((jq_pb T e st : Nat) : Int)) := jp_fr.rf.up rfl
  have C2 := jx4c_mv (hH.q hw) h.1 h0 hpe hge
  have B2 := h.rd hH C2 jq_mv_k fr0 (jz_F38s (by decide))
  have s2wf := hs.mv (T := T) hpe
  rw [jf_X9_readOne, h4, h5, jp_let, jp_lm]
  simp only [jf_X9_readOne_B254]
  have e0 : (jq_mv T e (jq_pb T e st) st).1 = 0 := by rw [jq_mv0 h0]
  have eL : (jq_mv T e (jq_pb T e st) st).2.2 = st.2.2 := jz_c_mv
  have D2 : jz_D (H + 10) (jq_mv T e (jq_pb T e st) st).2.2 Z (jl_up s 38 4 ((jq_pb T e st : Nat) : Int)) := by
    rw [eL]
    refine hD.fr fr0 ?_ ?_ ?_ (fun _ _ => ⟨rfl, rfl⟩) <;> intro i <;> simp [jp_in] <;> rcases hH with rfl | rfl <;> omega
  generalize jl_up s 38 4 ((jq_pb T e st : Nat) : Int) = s2 at *
  generalize jq_mv T e (jq_pb T e st) st = S at *
  generalize jq_at e st = p at *
  obtain ⟨g1, g2⟩ := jz_gH hH B2
  have fr0C : jp_fr (jz_FC H) s s2 := fr0.w (by simp [jz_FC])
  have keyS : ∀ k v w', w' < 3 → k < 10 → (jz_s Z k v).1 (10 + w') = Z.1 (10 + w') ∧ (jz_s Z k v).1 (20 + w') = Z.1 (20 + w') := by
    intro k v w' h1 h2
    simp only [jz_s]
    rw [if_neg (by omega), if_neg (by omega)]
    exact ⟨rfl, rfl⟩
  -- one number into the street
  have numS : ∀ (lo hi : Int) (k : Nat), (lo = 0 ∨ lo = 2) → hi ≤ 1000 → (k = 1 ∨ k = 5 ∨ k = 6) → (k = 1 → lo = 2 ∧ hi = 30) → ∃ τ, (jl_bd (jf_X4_takeNumber lo hi s2) fun r5 s6 => jl_lm (jl_up s6 H k r5) fun s7 => some (0, s7)) = some (0, τ) ∧ jp_fr (jz_FC H) s τ ∧ jz_I T e H ((jz_num T e lo hi S).1, jz_s Z k (jz_num T e lo hi S).2) τ := by
    intro lo hi k hlo hhi hk hk1
    obtain ⟨a0, a1, a2, a3⟩ := jz_bNum (lo := lo) (hi := hi) hH hw B2 s2wf
    have a6 := jz_num_wf (lo := lo) (hi := hi) s2wf
    have an := jz_num_b (lo := lo) (hi := hi) s2wf (by omega) (by omega)
    rw [a1, jp_bd, jp_lm]
    have fr : jp_fr [(H, 0, 0)] a0 (jl_up a0 H k (jz_num T e lo hi S).2) := jp_fr.rf.up (by simp [jp_in])
    have frH : jp_fr (jz_FH H) a0 (jl_up a0 H k (jz_num T e lo hi S).2) := jp_fr.rf.up (by simp [jp_in, jz_FH])
    have ek : jl_g (jl_up a0 H k (jz_num T e lo hi S).2) H k = (jz_num T e lo hi S).2 := jp_g_eq an.1 an.2
    have en : ∀ c i, (c ≠ H ∨ i ≠ k) → jl_g (jl_up a0 H k (jz_num T e lo hi S).2) c i = jl_g a0 c i := by
      intro c i hc
      by_cases q : c = H
      · subst q; rw [jp_g_nei (by omega)]
      · rw [jp_g_ne q]
    generalize jl_up a0 H k (jz_num T e lo hi S).2 = y0 at *
    refine ⟨y0, rfl, fr0C.tr (((a2.w (jz_FC38 H))).tr (frH.w (jz_FCw H))), ?_⟩
    have hb := a3.2.2.2
    refine jz_Ifr (Z := Z) (st := st) (s := s) hH hw (f := f) ?_ a6 ((fr0.w (by simp [jz_FH])).tr ((a2.w (jz_FHw H)).tr frH)) hD ?_ (fun w' h' => keyS k _ w' h' (by omega)) (fun z => ?_)
    · refine a3.up hH fr (by intro c i hc; simp [jp_in] at hc; rcases hH with rfl | rfl <;> omega) trivial (by rw [en _ _ (by omega)]; exact hb.2.1) (by rw [en _ _ (by omega)]; exact hb.2.2.1) (by rw [en _ _ (by omega)]; exact hb.2.2.2.1) (fun z => ?_)
      obtain ⟨r1, r2, r3, r4⟩ := a3.2.2.2.2.2.2.2 z
      refine ⟨fun j hj => ?_, fun i hi => ?_, fun i hi => ?_, fun i hi => ?_⟩
      · by_cases q : j = k
        · subst q; rw [ek]; simp [jz_s]
        · rw [en _ _ (by omega), r1 j hj]; simp [jz_s, q]
      · simp only [jz_s] at hi ⊢
        rw [if_neg (by omega)] at hi
        rw [en _ _ (by omega), en _ _ (by omega), en _ _ (by omega)]
        exact r2 i hi
      · simp only [jz_s] at hi ⊢
        rw [if_neg (by omega)] at hi
        rw [en _ _ (by omega), en _ _ (by omega), en _ _ (by omega)]
        exact r3 i hi
      · simp only [jz_s] at hi ⊢
        rw [if_neg (by omega)] at hi
        rw [en _ _ (by omega), en _ _ (by omega), en _ _ (by omega)]
        exact r4 i hi
    · show (jz_num T e lo hi S).1.2.2 = st.2.2
      rw [jz_c_num, eL]
    · simp only [jz_s]
      by_cases q : k = 1
      · obtain ⟨rfl, rfl⟩ := hk1 q
        subst q
        rw [if_pos rfl]
        have nm := jq_nm_ok (T := T) (lo := 2) (hi := 30) s2wf.at
        have z' : (jz_num T e 2 30 S).1.1 = 0 := z
        have hk0 : (jq_nm T e 2 30 (jq_at e S)).1 = 0 := by
          apply Classical.byContradiction
          intro y
          rw [jz_num] at z'
          simp only at z'
          rw [if_neg y] at z'
          exact jq_fl_k y z'
        have := (nm.2 hk0).2
        rw [jz_num]
        simp only
        omega
      · rw [if_neg (fun y => q y.symm)]; exact hwin
  have codes : ∀ (w' : Nat) (t : Nat), (w' = 0 ∨ w' = 1 ∨ w' = 2) → (t = if w' = 2 then 0 else 3) → ∃ τ, (jl_bd (jf_X4_allow (w' : Int) (jq_pt w') s2) fun _ s27 => jl_bd (jf_X4_grp 60 t 0 s27) fun _ s29 => some (0, s29)) = some (0, τ) ∧ jp_fr (jz_FC H) s τ ∧ jz_I T e H (jz_codes T e w' Z S) τ := by
    intro w' t hw' ht
    obtain ⟨a0, a1, a2, a3, a4, a5⟩ := jz_bCodes (w := w') hH hw hw' B2 D2 e0 s2wf t ht
    refine ⟨a0, ?_, fr0C.tr a2, ⟨w', _, hw', a3⟩, a4, fun z => ⟨a5 z, ?_⟩⟩
    · revert a1
      cases jf_X4_allow (w' : Int) (jq_pt w') s2 with
      | none => intro a1; cases a1
      | some q =>
        intro a1
        show jl_bd (jf_X4_grp 60 t 0 q.2) _ = _
        have a1' : jf_X4_grp 60 t 0 q.2 = some (0, a0) := a1
        rw [a1', jp_bd]
    · show 0 ≤ (jz_s (jz_s Z (10 + w') _) (20 + w') _).1 1 ∧ (jz_s (jz_s Z (10 + w') _) (20 + w') _).1 1 ≤ 30
      simp only [jz_s]
      rw [if_neg (by omega), if_neg (by omega)]
      exact hwin
  rw [jz_one]
  by_cases q0 : jq_pn T e st = 0
  · rw [if_pos q0, if_pos q0, if_pos g1, g2]
    exact numS 2 30 1 (Or.inr rfl) (by decide) (Or.inl rfl) (fun _ => ⟨rfl, rfl⟩)
  · rw [if_neg q0, if_neg q0]
    by_cases q1 : jq_pn T e st = 1
    · rw [if_pos q1, if_pos q1]
      obtain ⟨a0, a1, a2, a3, a4⟩ := jz_bPerson hH hw B2 s2wf (fun _ => by
        rw [jz_full, if_pos q1] at hfull
        simp at hfull; omega) (fun _ => hwin)
      rw [a1, jp_bd]
      refine ⟨a0, rfl, fr0C.tr (a2.w (jz_FCw H)), jz_Ifr (Z := Z) (st := st) (s := s) hH hw a3 a4 ((fr0.w (by simp [jz_FH])).tr a2) hD (by rw [jz_c_person, eL]) (fun w' h' => ?_) (fun _ => ?_)⟩
      · show (jz_s (jz_a (jz_a (jz_n Z 1 _ _) 2 _ _) 3 _ _) 2 _).1 _ = _ ∧ (jz_s (jz_a (jz_a (jz_n Z 1 _ _) 2 _ _) 3 _ _) 2 _).1 _ = _
        simp only [jz_s, jz_a, jz_n]
        rw [if_neg (by omega), if_neg (by omega)]
        exact ⟨rfl, rfl⟩
      · exact hwin
    · rw [if_neg q1, if_neg q1]
      by_cases q4 : jq_pn T e st = 4
      · rw [if_pos q4, if_pos q4]
        obtain ⟨a0, a1, a2, a3, a4⟩ := jz_bLie hH hw B2 s2wf (fun _ => by
          rw [jz_full, if_neg q1, if_pos q4] at hfull
          simp at hfull; omega)
        rw [a1, jp_bd]
        refine ⟨a0, rfl, fr0C.tr (a2.w (jz_FCw H)), jz_Ifr (Z := Z) (st := st) (s := s) hH hw a3 a4 ((fr0.w (by simp [jz_FH])).tr a2) hD (by rw [jz_c_lie, eL]) (fun w' h' => ?_) (fun _ => ?_)⟩
        · show (jz_s (jz_a (jz_a (jz_n Z 4 _ _) 5 _ _) 6 _ _) 3 _).1 _ = _ ∧ (jz_s (jz_a (jz_a (jz_n Z 4 _ _) 5 _ _) 6 _ _) 3 _).1 _ = _
          simp only [jz_s, jz_a, jz_n]
          rw [if_neg (by omega), if_neg (by omega)]
          exact ⟨rfl, rfl⟩
        · exact hwin
      · rw [if_neg q4, if_neg q4]
        by_cases q6 : jq_pn T e st = 6
        · rw [if_pos q6, if_pos q6]
          obtain ⟨a0, a1, a2, a3, a4⟩ := jz_bHangs hH hw B2 s2wf
          rw [a1, jp_bd]
          exact ⟨a0, rfl, fr0C.tr (a2.w (jz_FCw H)), jz_Ifr (Z := Z) (st := st) (s := s) hH hw a3 a4 ((fr0.w (by simp [jz_FH])).tr a2) hD (by rw [jz_c_hangs, eL]) (fun w' h' => ⟨rfl, rfl⟩) (fun _ => hwin)⟩
        · rw [if_neg q6, if_neg q6]
          by_cases q8 : jq_pn T e st = 8
          · rw [if_pos q8, if_pos q8]
            obtain ⟨a0, a1, a2, a3, a4⟩ := jz_bLight hH hw B2 s2wf (fun _ => by
              rw [jz_full, if_neg q1, if_neg q4, if_pos q8] at hfull
              simp at hfull; omega)
            rw [a1, jp_bd]
            refine ⟨a0, rfl, fr0C.tr (a2.w (jz_FCw H)), jz_Ifr (Z := Z) (st := st) (s := s) hH hw a3 a4 ((fr0.w (by simp [jz_FH])).tr a2) hD (by rw [jz_c_light, eL]) (fun w' h' => ?_) (fun _ => ?_)⟩
            · show (jz_s (jz_a (jz_a (jz_a Z 7 _ _) 8 _ _) 9 _ _) 4 _).1 _ = _ ∧ (jz_s (jz_a (jz_a (jz_a Z 7 _ _) 8 _ _) 9 _ _) 4 _).1 _ = _
              simp only [jz_s, jz_a]
              rw [if_neg (by omega), if_neg (by omega)]
              exact ⟨rfl, rfl⟩
            · exact hwin
          · rw [if_neg q8, if_neg q8]
            by_cases q10 : jq_pn T e st = 10
            · rw [if_pos q10, if_pos q10, if_pos g1, g2]
              exact numS 0 999 5 (Or.inl rfl) (by decide) (Or.inr (Or.inl rfl)) (fun z => by omega)
            · rw [if_neg q10, if_neg q10]
              by_cases q11 : jq_pn T e st = 11
              · rw [if_pos q11, if_pos q11]
                exact codes 0 3 (Or.inl rfl) rfl
              · rw [if_neg q11, if_neg q11]
                by_cases q12 : jq_pn T e st = 12
                · rw [if_pos q12, if_pos q12]
                  exact codes 1 3 (Or.inr (Or.inl rfl)) rfl
                · rw [if_neg q12, if_neg q12]
                  by_cases q13 : jq_pn T e st = 13
                  · rw [if_pos q13, if_pos q13]
                    exact codes 2 0 (Or.inr (Or.inr rfl)) rfl
                  · rw [if_neg q13, if_neg q13]
                    by_cases q14 : jq_pn T e st = 14
                    · rw [if_pos q14, if_pos q14, if_pos g1, g2]
                      exact numS 0 100 6 (Or.inl rfl) (by decide) (Or.inr (Or.inr rfl)) (fun z => by omega)
                    · rw [if_neg q14, if_neg q14]
                      obtain ⟨a0, a1, a2, a3, -⟩ := jz_bFail (k := 1) (na := p) hH hw B2 (by decide) (by decide) (by omega)
                      rw [show ((1 : Nat) : Int) = 1 from rfl] at a1
                      rw [a1, jp_bd]
                      exact ⟨a0, rfl, fr0C.tr (a2.w (jz_FC38 H)), ⟨w, f, hw, a3⟩, s2wf.fl ha (by decide), fun z => absurd z (jq_fl_k (by decide))⟩
theorem jz_bStm {T : Nat → Int} {e H k : Nat} {r : jq_S × jz_Z} {s : jl_Mm} (hH : jz_Hq H) (h : jz_I T e H r s) (h0 : r.1.1 = 0) (hcnt : 0 ≤ r.2.1 0 ∧ r.2.1 0 ≤ 1000) : ∃ τ, (jl_bd (jf_X4_peekWord s) fun r15 s16 => jl_bd (jf_X9_faultOf r15 (k : Int) s16) fun r17 s18 => if r17 = 0 then (jl_bd (jf_X9_readOne r15 s18) fun _ s23 => jl_bd (jf_X4_expectSign 59 s23) fun _ s25 => jl_lm (jl_up s25 H 0 (jl_add (jl_g s25 H 0) 1)) fun s26 => some (0, s26)) else (jl_bd (jf_X4_fail r17 (jl_g s18 38 4) s18) fun _ s21 => some (0, s21))) = some (0, τ) ∧ jp_fr (jz_FC H) s τ ∧ jz_I T e H (jz_stm T e k r.2 r.1) τ := by
  obtain ⟨st, Z⟩ := r
  obtain ⟨⟨w, f, hw, hB⟩, hs, hok⟩ := h
  obtain ⟨hD, hwin⟩ := hok h0
  simp only at *
  have he := hB.1.1.1
  have ha := hs.at
  obtain ⟨a0, a1, a2, a3, a4, a5⟩ := jx4c_word (hH.q hw) hB.1
  have B1 := hB.rd hH a3 (fun z => z) a2 (jz_F38s (by decide))
  have D1 : jz_D (H + 10) st.2.2 Z a0 := by
    refine hD.fr a2 ?_ ?_ ?_ (fun _ _ => ⟨rfl, rfl⟩) <;> intro i <;> simp [jp_in] <;> rcases hH with rfl | rfl <;> omega
  rw [a1, jp_bd, jx9_faultOf hH B1 h0 D1, jp_bd, jz_stm]
  have fra : jp_fr (jz_FC H) s a0 := a2.w (by simp [jz_FC])
  have bad : ∀ k5 : Nat, k5 ≠ 0 → k5 < 9 → ∃ τ, (jl_bd (jf_X4_fail (k5 : Int) (jl_g a0 38 4) a0) fun _ s21 => some (0, s21)) = some (0, τ) ∧ jp_fr (jz_FC H) s τ ∧ jz_I T e H (jq_fl k5 (jq_at e st) st, Z) τ := by
    intro k5 hk hk2
    obtain ⟨b0, b1, b2, b3, -⟩ := jz_bFail (k := k5) (na := jq_at e st) hH hw B1 hk hk2 (by omega)
    rw [a4, b1, jp_bd]
    exact ⟨b0, rfl, fra.tr (b2.w (jz_FC38 H)), ⟨w, f, hw, b3⟩, hs.fl ha hk, fun z => absurd z (jq_fl_k hk)⟩
  by_cases hf : 60 ≤ k ∨ jz_full Z (jq_pn T e st) = true
  · simp only [if_pos hf]
    rw [if_neg (by decide)]
    exact bad 5 (by decide) (by decide)
  · simp only [if_neg hf]
    by_cases hq : jq_pn T e st = 0 ↔ k = 0
    · simp only [if_pos hq]
      rw [if_pos trivial]
      obtain ⟨b0, b1, b2, ⟨w1, f1, hw1, b3⟩, b4, b5⟩ := jz_bOne hH hw B1 hs h0 D1 hwin a4 a5 (fun z => hf (Or.inr z))
      have hZ0 : (jz_one T e (jq_pn T e st) (jq_at e st) Z (jq_mv T e (jq_pb T e st) st)).2.1 0 = Z.1 0 := by
        rw [jz_one]
        split
        · rfl
        · split
          · rfl
          · split
            · rfl
            · split
              · rfl
              · split
                · rfl
                · split
                  · rfl
                  · split
                    · rfl
                    · split
                      · rfl
                      · split
                        · rfl
                        · split
                          · rfl
                          · rfl
      generalize jz_one T e (jq_pn T e st) (jq_at e st) Z (jq_mv T e (jq_pb T e st) st) = R at *
      obtain ⟨S, Z2⟩ := R
      simp only at b3 b4 b5 hZ0
      obtain ⟨c0, c1, c2, c3⟩ := jz_bSign (c := 59) hH hw1 b3 b4 (by decide)
      rw [b1, jp_bd, c1, jp_bd, jp_lm]
      have fr : jp_fr [(H, 0, 1)] c0 (jl_up c0 H 0 (jl_add (jl_g c0 H 0) 1)) := jp_fr.rf.up (by simp [jp_in])
      have frC : jp_fr (jz_FC H) c0 (jl_up c0 H 0 (jl_add (jl_g c0 H 0) 1)) := jp_fr.rf.up (by simp [jp_in, jz_FC])
      have ek : jl_g (jl_up c0 H 0 (jl_add (jl_g c0 H 0) 1)) H 0 = jl_add (jl_g c0 H 0) 1 := jp_g_eq (jl_n3_to _).1 (jl_n3_to _).2
      have en : ∀ c i, (c ≠ H ∨ i ≠ 0) → jl_g (jl_up c0 H 0 (jl_add (jl_g c0 H 0) 1)) c i = jl_g c0 c i := by
        intro c i hc
        by_cases q : c = H
        · subst q; rw [jp_g_nei (by omega)]
        · rw [jp_g_ne q]
      generalize jl_up c0 H 0 (jl_add (jl_g c0 H 0) 1) = d0 at *
      have hb := c3.2.2.2
      refine ⟨d0, rfl, (fra.tr b2).tr ((c2.w (jz_FC38 H)).tr frC), ⟨w1, f1, hw1, ?_⟩, b4.xs (by decide), fun z => ?_⟩
      · refine c3.up hH fr (by intro c i hc; simp [jp_in] at hc; rcases hH with rfl | rfl <;> omega) trivial (by rw [en _ _ (by omega)]; exact hb.2.1) (by rw [en _ _ (by omega)]; exact hb.2.2.1) (by rw [en _ _ (by omega)]; exact hb.2.2.2.1) (fun z => ?_)
        have z2 : S.1 = 0 := Classical.byContradiction (fun y => by simp only at z; rw [jq_xs_k y (by decide)] at z; exact y z)
        obtain ⟨r1, r2, r3, r4⟩ := c3.2.2.2.2.2.2.2 z
        refine ⟨fun j hj => ?_, fun i hi => ?_, fun i hi => ?_, fun i hi => ?_⟩
        · by_cases q : j = 0
          · subst q
            rw [ek, r1 0 (by decide), hZ0]
            simp only [jz_s, if_true]
            have := hcnt
            exact jp_add (by omega) (by omega)
          · rw [en _ _ (by omega), r1 j hj]; simp [jz_s, q]
        · rw [en _ _ (by omega), en _ _ (by omega), en _ _ (by omega)]
          exact r2 i (by simpa [jz_s] using hi)
        · rw [en _ _ (by omega), en _ _ (by omega), en _ _ (by omega)]
          exact r3 i (by simpa [jz_s] using hi)
        · rw [en _ _ (by omega), en _ _ (by omega), en _ _ (by omega)]
          exact r4 i (by simpa [jz_s] using hi)
      · have z2 : S.1 = 0 := Classical.byContradiction (fun y => by simp only at z; rw [jq_xs_k y (by decide)] at z; exact y z)
        obtain ⟨d1, d2⟩ := b5 z2
        refine ⟨?_, by simpa [jz_s] using d2⟩
        show jz_D (H + 10) (jq_xs T e 59 S).2.2 _ d0
        rw [jz_c_xs]
        have D3 : jz_D (H + 10) S.2.2 Z2 c0 := by
          refine d1.fr c2 ?_ ?_ ?_ (fun _ _ => ⟨rfl, rfl⟩) <;> intro i <;> simp [jp_in, jz_F38] <;> rcases hH with rfl | rfl <;> omega
        refine D3.fr fr ?_ ?_ ?_ (fun w' h' => ?_)
        · intro i; simp [jp_in] <;> rcases hH with rfl | rfl <;> omega
        · intro i; simp [jp_in] <;> rcases hH with rfl | rfl <;> omega
        · intro i; simp [jp_in] <;> rcases hH with rfl | rfl <;> omega
        · simp only [jz_s]
          rw [if_neg (by omega), if_neg (by omega)]
          exact ⟨rfl, rfl⟩
    · simp only [if_neg hq]
      rw [if_neg (by decide)]
      exact bad 1 (by decide) (by decide)
