/-! PURE, the reference's street reader: names, words, numbers, signs -/
/-- the reference stands as st tells -/
def jh_L (T : Nat → Int) (e : Nat) (st : jq_S) (τ : jl_Mm) : Prop := (st.1 = 0 → jy_L T e st.2.1 τ) ∧ (st.1 ≠ 0 → jy_K st.1 st.2.1 τ)
theorem jh_L.m {T : Nat → Int} {e : Nat} {st : jq_S} {τ : jl_Mm} (h : jh_L T e st τ) : jl_g τ 206 5 = (st.1 : Int) := by
  by_cases z : st.1 = 0
  · rw [z]; exact (h.1 z).2.2.2.1
  · exact (h.2 z).2.1
def jh_F : jp_F := [(206, 2, 3), (206, 4, 5), (206, 5, 7), (206, 10, 11), (206, 43, 44)]
theorem jh_L.fr {T : Nat → Int} {e : Nat} {st : jq_S} {s τ : jl_Mm} {F : jp_F} (h : jh_L T e st s) (f : jp_fr F s τ) (w1 : ∀ i, (2 ≤ i ∧ i < 7) → jp_in F 206 i = false) (w2 : ∀ i, jp_in F 207 i = false) (w : ∀ c i, jy_is c → jp_in F c i = false) : jh_L T e st τ := by
  refine ⟨fun z => (h.1 z).fr f w1 w2 w, fun z => ?_⟩
  obtain ⟨a, b, c⟩ := h.2 z
  exact ⟨a, (f.g _ _ (w1 _ (by omega))).trans b, (f.g _ _ (w1 _ (by omega))).trans c⟩
theorem jh_asks {T : Nat → Int} {e c w : Nat} {st : jq_S} {s : jl_Mm} (hc : jy_is c) (hw : jy_wn c = w) (h : jh_L T e st s) : jE (jf_X12_asks c s) 0 jh_F s (jh_L T e (jz_ew T e (w : Int) st)) := by
  have hk := jy_kd hc
  by_cases z : st.1 = 0
  · obtain ⟨τ, t1, t2, t3, t4⟩ := jx12_asks hc (h.1 z)
    refine ⟨τ, t1, t2.w (by decide), ?_⟩
    rw [jz_ew, jq_pn, jq_pb, jq_at0 z]
    by_cases q : jq_wn T e st.2.1 = (w : Int)
    · have hb := (jq_wn_len (jy_wn_lt hc) (by rw [hw]; exact q)).1
      rw [if_pos q, jq_mv0 z, jq_wb, if_pos hb]
      exact ⟨fun _ => t3 (by rw [hw]; exact q), fun y => absurd rfl y⟩
    · rw [if_neg q, jq_fl0 z]
      exact ⟨fun y => absurd y Nat.one_ne_zero, fun _ => t4 (by rw [hw]; exact q)⟩
  · have e1 : jz_ew T e (w : Int) st = st := by
      rw [jz_ew, jq_wn_k z, if_neg (by omega), jq_flk z]
    rw [e1, jf_X12_asks, if_pos (by rw [hk]), h.m, if_neg (by omega), jf_X12_asks_B24]
    exact jE.ret h
theorem jh_sign {T : Nat → Int} {e : Nat} {c : Int} {st : jq_S} {s : jl_Mm} (hc : c ≠ -1) (hn : ¬ jq_iw c) (h : jh_L T e st s) : jE (jf_X12_asksSign c s) 0 jh_F s (jh_L T e (jq_xs T e c st)) := by
  by_cases z : st.1 = 0
  · obtain ⟨τ, t1, t2, t3, t4⟩ := jx12_asksSign hc hn (h.1 z)
    refine ⟨τ, t1, t2.w (by decide), ?_⟩
    by_cases q : jq_pk T e st.2.1 = c
    · rw [jq_xs_y z q]
      exact ⟨fun _ => t3 q, fun y => absurd rfl y⟩
    · rw [jq_xs_n z q]
      exact ⟨fun y => absurd y Nat.one_ne_zero, fun _ => t4 q⟩
  · rw [jq_xs_k z hc, jf_X12_asksSign, h.m, if_neg (by omega), jf_X12_asksSign_B24]
    exact jE.ret h
theorem jh_num {T : Nat → Int} {e : Nat} {lo hi : Int} {st : jq_S} {s : jl_Mm} (hlo : jl_n3 lo) (hhi : jl_n3 hi) (h : jh_L T e st s) : ∃ r, jE (jf_X12_number lo hi s) r jh_F s (jh_L T e (jz_num T e lo hi st).1) ∧ ((jz_num T e lo hi st).1.1 = 0 → r = (jz_num T e lo hi st).2) := by
  by_cases z : st.1 = 0
  · obtain ⟨a, b⟩ := jx12_number hlo hhi (h.1 z)
    rw [jz_num, jq_at0 z]
    by_cases q : (jq_nm T e lo hi st.2.1).1 = 0
    · obtain ⟨τ, t1, t2, t3⟩ := a q
      simp only [if_pos q]
      rw [jq_mv0 z]
      exact ⟨_, ⟨τ, t1, t2.w (by decide), fun _ => t3, fun y => absurd rfl y⟩, fun _ => rfl⟩
    · obtain ⟨r, τ, t1, t2, t3⟩ := b q
      simp only [if_neg q]
      rw [jq_fl0 z]
      exact ⟨r, ⟨τ, t1, t2.w (by decide), fun y => absurd y q, fun _ => t3⟩, fun y => absurd y q⟩
  · obtain ⟨k1, k2⟩ := jz_num_k (T := T) (e := e) (lo := lo) (hi := hi) z
    rw [k1, jf_X12_number, h.m, if_neg (by omega)]
    exact ⟨0, jE.ret h, fun y => absurd y z⟩
theorem jh_name {T : Nat → Int} {e : Nat} {st : jq_S} {s : jl_Mm} (h : jh_L T e st s) : ∃ r, jE (jf_X12_name s) r jh_F s (fun τ => jh_L T e (jz_name T e st).1 τ ∧ ((jz_name T e st).1.1 = 0 → jl_g τ 206 43 = (st.2.1 : Int))) ∧ ((jz_name T e st).1.1 = 0 → r = jh_cn (jz_name T e st).2 ∧ jz_vn (jz_name T e st).2) := by
  by_cases z : st.1 = 0
  · have hL := h.1 z
    have hpe := hL.pe
    have he := hL.1
    obtain ⟨a, a1, a2, a3, a4, a5⟩ := jx12_look hL
    have hm : jl_g s 206 5 = 0 := hL.2.2.2.1
    have bad : jq_pb T e st = jq_at e st ∨ (0 ≤ jq_pn T e st ∧ jq_pn T e st ≤ 31) → ∀ b, jp_fr [(206, 2, 3)] s b → jy_L T e st.2.1 b → jl_g b 206 2 = (st.2.1 : Int) → ∃ r, jE (jf_X12_name_B37 b) r jh_F s (fun τ => jh_L T e (jz_name T e st).1 τ ∧ ((jz_name T e st).1.1 = 0 → jl_g τ 206 43 = (st.2.1 : Int))) ∧ ((jz_name T e st).1.1 = 0 → r = jh_cn (jz_name T e st).2 ∧ jz_vn (jz_name T e st).2) := by
      intro hq b fb Lb b2
      have e1 : jz_name T e st = ((1, st.2.1, st.2.2), []) := by
        rw [jz_name, if_pos hq, jq_at0 z, jq_fl0 z]
      obtain ⟨c, c1, c2, c3⟩ := jx12_fail (k := 1) (a := st.2.1) Lb (by decide) (by decide) (by omega)
      rw [show ((1 : Nat) : Int) = 1 from rfl] at c1
      rw [jf_X12_name_B37, b2, c1, jp_bd, e1]
      exact ⟨0, ⟨c, rfl, (fb.w (by decide)).tr (c2.w (by decide)), ⟨fun y => absurd y Nat.one_ne_zero, fun _ => c3⟩, fun y => absurd y Nat.one_ne_zero⟩, fun y => absurd y Nat.one_ne_zero⟩
    rw [jf_X12_name, if_pos hm, a1, jp_bd, jx12_letter, jp_bd]
    by_cases hl : jq_lt (jq_pk T e st.2.1)
    · have hin : st.2.1 < e := by
        apply Classical.byContradiction
        intro y
        rw [jq_pk_end (by omega)] at hl
        exact absurd hl.1 (by decide)
      rw [if_pos hl, if_neg (by decide), a4]
      rw [jq_pk_in hin] at hl
      by_cases hp : jq_pw T st.2.1
      · rw [if_pos (a5.pw.mpr hp)]
        exact bad (Or.inl (by rw [jq_pb, jq_wb, jq_at0 z, if_neg (fun y => y.2.2 hp)])) a a2 a3 a4
      · have hbg : jq_bg T e st.2.1 := ⟨hin, hl, hp⟩
        rw [if_neg (fun y => hp (a5.pw.mp y))]
        obtain ⟨b, b1, b2, b3, b4, b5⟩ := jx12_own a3
        rw [b1, jp_bd]
        have fb : jp_fr [(206, 2, 3)] s b := a2.tr b2
        by_cases how : 0 ≤ jq_wn T e st.2.1 ∧ jq_wn T e st.2.1 ≤ 31
        · rw [if_pos how, if_neg (by decide)]
          exact bad (Or.inr (by rw [jq_pn, jq_at0 z]; exact how)) b fb b3 b4
        · rw [if_neg how, if_pos rfl, jp_lm, b4]
          have f43 : jp_fr [(206, 43, 44)] b (jl_up b 206 43 (st.2.1 : Int)) := jp_fr.rf.up rfl
          have L2 : jy_L T e st.2.1 (jl_up b 206 43 (st.2.1 : Int)) := b3.fr f43 (by intro i hi; simp [jp_in]; omega) (by intro i; rfl) (by intro c i hc; simp [jp_in]; rcases hc with hc | hc <;> omega)
          have g43 : jl_g (jl_up b 206 43 (st.2.1 : Int)) 206 43 = (st.2.1 : Int) := jp_g_eq (by omega) (by omega)
          have g2 : jl_g (jl_up b 206 43 (st.2.1 : Int)) 206 2 = (st.2.1 : Int) := by rw [jp_g_nei (by decide)]; exact b4
          generalize jl_up b 206 43 (st.2.1 : Int) = d at *
          have fd : jp_fr jh_F s d := (fb.w (by decide)).tr (f43.w (by decide))
          have hnot : ¬ (jq_pb T e st = jq_at e st ∨ (0 ≤ jq_pn T e st ∧ jq_pn T e st ≤ 31)) := by
            have h5 := jq_we_ge (T := T) (e := e) (a := st.2.1 + 1)
            rw [← jq_we_step hin hl] at h5
            rw [jq_pb, jq_wb, jq_pn, jq_at0 z, if_pos hbg]
            rintro (y | y)
            · omega
            · exact how y
          obtain ⟨n1, n2⟩ := jh_nameL L2 g43 1600 jl_fu st.2.1 0 d jp_fr.rf (by omega) (by decide) (Nat.le_refl _) hpe.1 (by omega) g2 (Int.le_refl _) (by rw [Nat.sub_self]; decide)
          by_cases h6 : jq_we T e st.2.1 ≤ st.2.1 + 6
          · obtain ⟨x, x1, x2, x3, x4⟩ := n1 h6
            have hx : jz_name T e st = ((0, jq_sk T e (jq_we T e st.2.1), st.2.2), jq_sl T st.2.1 (jq_we T e st.2.1)) := by
              rw [jz_name, if_neg hnot, jq_pb, jq_wb, jq_at0 z, if_pos hbg, if_neg (by omega), jq_mv0 z]
            rw [x1, hx]
            refine ⟨_, ⟨x, rfl, fd.tr (x2.w (by decide)), ⟨fun _ => ?_, fun y => absurd rfl y⟩, fun _ => ?_⟩, fun _ => ⟨rfl, jq_sl_vn hbg (by omega)⟩⟩
            · exact L2.mv x2 jy_in24 x3 (jq_we_ub hpe.1) (by rw [x4]; exact jy_E.word hbg)
            · exact (x2.g _ _ rfl).trans g43
          · obtain ⟨x, x1, x2, x3⟩ := n2 h6
            have hx : jz_name T e st = ((1, st.2.1 + 6, st.2.2), []) := by
              rw [jz_name, if_neg hnot, jq_pb, jq_wb, jq_at0 z, if_pos hbg, if_pos (by omega), jq_fl0 z]
            rw [x1, hx]
            exact ⟨_, ⟨x, rfl, fd.tr (x2.w (by decide)), ⟨fun y => absurd y Nat.one_ne_zero, fun _ => x3⟩, fun y => absurd y Nat.one_ne_zero⟩, fun y => absurd y Nat.one_ne_zero⟩
    · rw [if_neg hl, if_pos rfl]
      refine bad (Or.inl ?_) a a2 a3 a4
      rw [jq_pb, jq_wb, jq_at0 z, if_neg]
      rintro ⟨y1, y2, -⟩
      exact hl (by rw [jq_pk_in y1]; exact y2)
  · have e1 : (jz_name T e st).1 = st := by
      rw [jz_name]
      have : jq_pb T e st = jq_at e st := by
        rw [jq_pb, jq_wb, jq_atk z, if_neg (fun y => absurd y.1 (Nat.lt_irrefl _))]
      rw [if_pos (Or.inl this), jq_flk z]
    rw [e1, jf_X12_name, h.m, if_neg (by omega)]
    exact ⟨0, jE.ret ⟨h, fun y => absurd y z⟩, fun y => absurd y z⟩
