/-! PURE, the reference's street reader: the statements, one by one -/
theorem jh_FAS : (jh_FA.all fun q => jh_FS.contains q) = true := by decide
theorem jh_FCS : (jh_FC.all fun q => jh_FS.contains q) = true := by decide
theorem jh_brF {T : Nat → Int} {e : Nat} {told : jl_Mm → jl_O} {st st1 : jq_S} {Z : jz_Z} {τ : jl_Mm} (h : jh_J T e (st1, Z) τ) (h1 : st1.1 = 0) (h0 : st.1 = 0) (hs : jq_wf T e st) (ht : told τ = some (0, jl_up (jl_up τ 206 5 5) 206 6 (st.2.1 : Int))) : jE (jl_bd (told τ) fun _ s51 => jf_X12_statementTold_B205 s51) 0 jh_FS τ (jh_J T e (jq_fl 5 (jq_at e st) st, Z)) := by
  have he := (h.1.1.1 h1).1
  have ha := hs.at
  rw [ht, jp_bd, jq_at0 h0]
  rw [jq_at0 h0] at ha
  have hk : (jq_fl 5 st.2.1 st).1 ≠ 0 := jh_fl_k (by decide)
  have B := jh_K5 (k := 5) (a := st.2.1) h.1 h1 (by decide) (by decide) (by omega) (jq_fl 5 st.2.1 st) (by rw [jq_fl0 h0]; exact ⟨rfl, rfl⟩)
  have fu : jp_fr jh_FS τ (jl_up (jl_up τ 206 5 5) 206 6 (st.2.1 : Int)) := (jp_fr.rf.up (by decide)).up (by decide)
  exact jE.fr fu (jh_endF B hk (hs.fl ha (by decide)))
theorem jh_brG {T : Nat → Int} {e : Nat} {told : jl_Mm → jl_O} {st1 : jq_S} {Z : jz_Z} {R : jq_S × jz_Z} {τ : jl_Mm} (h : jh_J T e (st1, Z) τ) (h59 : Z.1 0 ≤ 59) (ht : jE (told τ) 0 jh_FA τ (jh_B T e R.1 R.2)) (hw : jh_lw T e st1 R.1) (hZ : ∀ w, w < 3 → R.2.1 (10 + w) = Z.1 (10 + w) ∧ R.2.1 (20 + w) = Z.1 (20 + w)) (h1 : R.2.1 0 = Z.1 0) (h2 : R.1.1 = 0 → 0 ≤ R.2.1 1 ∧ R.2.1 1 ≤ 30) : jE (jl_bd (told τ) fun _ s51 => jf_X12_statementTold_B205 s51) 0 jh_FS τ (jh_J T e (jq_xs T e 59 R.1, jz_s R.2 0 (Z.1 0 + 1))) := by
  obtain ⟨a, a1, a2, a3⟩ := ht
  rw [a1, jp_bd]
  exact jE.fr (a2.w jh_FAS) (jh_end (jh_Jof h a2 a3 hw hZ h1 h2) h1 h59)
theorem jh_S (T : Nat → Int) (e k : Nat) (st : jq_S) (Z : jz_Z) (τ : jl_Mm) : jh_J T e (jq_mv T e (jq_pb T e st) st, Z) τ → st.1 = 0 → (jq_mv T e (jq_pb T e st) st).1 = 0 := fun _ h0 => by rw [jq_mv0 h0]
theorem jh_brP {T : Nat → Int} {e k : Nat} {st : jq_S} {Z : jz_Z} {τ : jl_Mm} (h : jh_J T e (jq_mv T e (jq_pb T e st) st, Z) τ) (h0 : st.1 = 0) (hs : jq_wf T e st) (hk : Z.1 0 = (k : Int)) (hk0 : k ≠ 0) (hk6 : ¬ 60 ≤ k) (hpn : jq_pn T e st = 1) : jE (jl_bd (jf_X12_personTold (st.2.1 : Int) τ) fun _ s51 => jf_X12_statementTold_B205 s51) 0 jh_FS τ (jh_J T e (jz_stm T e k Z st)) := by
  have h1 : (jq_mv T e (jq_pb T e st) st).1 = 0 := by rw [jq_mv0 h0]
  have hw := (h.2.2 h1).2.2.1
  have hN := (h.1.2.2 h1).1 1 (by decide)
  simp only [Nat.reduceAdd] at hN hw
  have hm := h.1.2.1.1
  by_cases q : 6 ≤ Z.1 2
  · rw [jz_stm_full hpn (by simp [jz_full]; exact q)]
    refine jh_brF (told := jf_X12_personTold (st.2.1 : Int)) h h1 h0 hs ?_
    rw [jf_X12_personTold, show jf_X12_isFull 1 6 (st.2.1 : Int) τ = some (1, jl_up (jl_up τ 206 5 5) 206 6 (st.2.1 : Int)) from jh_isFullF (k := 1) h.1.1 h1 (by decide) (by omega), jp_bd, if_neg (by decide)]
  · rw [jz_stm_go hpn hk6 hk0 (by simp [jz_full]; omega) (by decide), show jz_one T e 1 (jq_at e st) Z (jq_mv T e (jq_pb T e st) st) = jz_person T e Z (jq_mv T e (jq_pb T e st) st) from rfl]
    refine jh_brG (told := jf_X12_personTold (st.2.1 : Int)) h (by omega) (jh_person h.1 h1 h.2.1 (by omega) hw) (jh_lw.person h.2.1) (fun w hw3 => ?_) rfl (fun _ => hw)
    constructor
    · show (if 10 + w = 2 then _ else Z.1 (10 + w)) = _
      rw [if_neg (by omega)]
    · show (if 20 + w = 2 then _ else Z.1 (20 + w)) = _
      rw [if_neg (by omega)]
theorem jh_brL {T : Nat → Int} {e k : Nat} {st : jq_S} {Z : jz_Z} {τ : jl_Mm} (h : jh_J T e (jq_mv T e (jq_pb T e st) st, Z) τ) (h0 : st.1 = 0) (hs : jq_wf T e st) (hk : Z.1 0 = (k : Int)) (hk0 : k ≠ 0) (hk6 : ¬ 60 ≤ k) (hpn : jq_pn T e st = 4) : jE (jl_bd (jf_X12_lieTold (st.2.1 : Int) τ) fun _ s51 => jf_X12_statementTold_B205 s51) 0 jh_FS τ (jh_J T e (jz_stm T e k Z st)) := by
  have h1 : (jq_mv T e (jq_pb T e st) st).1 = 0 := by rw [jq_mv0 h0]
  have hw := (h.2.2 h1).2.2.1
  have hN := (h.1.2.2 h1).1 2 (by decide)
  simp only [Nat.reduceAdd] at hN hw
  have hm := h.1.2.1.2.1
  by_cases q : 8 ≤ Z.1 3
  · rw [jz_stm_full hpn (by simp [jz_full]; exact q)]
    refine jh_brF (told := jf_X12_lieTold (st.2.1 : Int)) h h1 h0 hs ?_
    rw [jf_X12_lieTold, show jf_X12_isFull 2 8 (st.2.1 : Int) τ = some (1, jl_up (jl_up τ 206 5 5) 206 6 (st.2.1 : Int)) from jh_isFullF (k := 2) h.1.1 h1 (by decide) (by omega), jp_bd, if_neg (by decide)]
  · rw [jz_stm_go hpn hk6 hk0 (by simp [jz_full]; omega) (by decide), show jz_one T e 4 (jq_at e st) Z (jq_mv T e (jq_pb T e st) st) = jz_lie T e Z (jq_mv T e (jq_pb T e st) st) from rfl]
    refine jh_brG (told := jf_X12_lieTold (st.2.1 : Int)) h (by omega) (jh_lie h.1 h1 h.2.1 (by omega)) (jh_lw.lie h.2.1) (fun w hw3 => ?_) rfl (fun _ => hw)
    constructor
    · show (if 10 + w = 3 then _ else Z.1 (10 + w)) = _
      rw [if_neg (by omega)]
    · show (if 20 + w = 3 then _ else Z.1 (20 + w)) = _
      rw [if_neg (by omega)]
theorem jh_brI {T : Nat → Int} {e k : Nat} {st : jq_S} {Z : jz_Z} {τ : jl_Mm} (h : jh_J T e (jq_mv T e (jq_pb T e st) st, Z) τ) (h0 : st.1 = 0) (hs : jq_wf T e st) (hk : Z.1 0 = (k : Int)) (hk0 : k ≠ 0) (hk6 : ¬ 60 ≤ k) (hpn : jq_pn T e st = 8) : jE (jl_bd (jf_X12_lightTold (st.2.1 : Int) τ) fun _ s51 => jf_X12_statementTold_B205 s51) 0 jh_FS τ (jh_J T e (jz_stm T e k Z st)) := by
  have h1 : (jq_mv T e (jq_pb T e st) st).1 = 0 := by rw [jq_mv0 h0]
  have hw := (h.2.2 h1).2.2.1
  have hN := (h.1.2.2 h1).1 3 (by decide)
  simp only [Nat.reduceAdd] at hN hw
  have hm := h.1.2.1.2.2
  by_cases q : 16 ≤ Z.1 4
  · rw [jz_stm_full hpn (by simp [jz_full]; exact q)]
    refine jh_brF (told := jf_X12_lightTold (st.2.1 : Int)) h h1 h0 hs ?_
    rw [jf_X12_lightTold, show jf_X12_isFull 3 16 (st.2.1 : Int) τ = some (1, jl_up (jl_up τ 206 5 5) 206 6 (st.2.1 : Int)) from jh_isFullF (k := 3) h.1.1 h1 (by decide) (by omega), jp_bd, if_neg (by decide)]
  · rw [jz_stm_go hpn hk6 hk0 (by simp [jz_full]; omega) (by decide), show jz_one T e 8 (jq_at e st) Z (jq_mv T e (jq_pb T e st) st) = jz_light T e Z (jq_mv T e (jq_pb T e st) st) from rfl]
    refine jh_brG (told := jf_X12_lightTold (st.2.1 : Int)) h (by omega) (jh_light h.1 h1 h.2.1 (by omega)) (jh_lw.light h.2.1) (fun w hw3 => ?_) rfl (fun _ => hw)
    constructor
    · show (if 10 + w = 4 then _ else Z.1 (10 + w)) = _
      rw [if_neg (by omega)]
    · show (if 20 + w = 4 then _ else Z.1 (20 + w)) = _
      rw [if_neg (by omega)]
theorem jh_brH {T : Nat → Int} {e k : Nat} {st : jq_S} {Z : jz_Z} {τ : jl_Mm} (h : jh_J T e (jq_mv T e (jq_pb T e st) st, Z) τ) (h0 : st.1 = 0) (hk : Z.1 0 = (k : Int)) (hk0 : k ≠ 0) (hk6 : ¬ 60 ≤ k) (hpn : jq_pn T e st = 6) : jE (jl_bd (jf_X12_hangsTold τ) fun _ s51 => jf_X12_statementTold_B205 s51) 0 jh_FS τ (jh_J T e (jz_stm T e k Z st)) := by
  have h1 : (jq_mv T e (jq_pb T e st) st).1 = 0 := by rw [jq_mv0 h0]
  have hw := (h.2.2 h1).2.2.1
  rw [jz_stm_go hpn hk6 hk0 (by simp [jz_full]) (by decide), show jz_one T e 6 (jq_at e st) Z (jq_mv T e (jq_pb T e st) st) = jz_hangs T e Z (jq_mv T e (jq_pb T e st) st) from rfl]
  exact jh_brG (told := jf_X12_hangsTold) h (by omega) (jh_hangs h.1 h1 h.2.1) (jh_lw.hangs h.2.1) (fun w hw3 => ⟨rfl, rfl⟩) rfl (fun _ => hw)
theorem jh_brC {T : Nat → Int} {e k w : Nat} {st : jq_S} {Z : jz_Z} {τ : jl_Mm} (hw : w < 3) (h : jh_J T e (jq_mv T e (jq_pb T e st) st, Z) τ) (h0 : st.1 = 0) (hs : jq_wf T e st) (hk : Z.1 0 = (k : Int)) (hk0 : k ≠ 0) (hk6 : ¬ 60 ≤ k) (hpn : jq_pn T e st = ((11 + w : Nat) : Int)) : jE (jl_bd (jf_X12_codesTold (w : Int) (st.2.1 : Int) τ) fun _ s51 => jf_X12_statementTold_B205 s51) 0 jh_FS τ (jh_J T e (jz_stm T e k Z st)) := by
  have h1 : (jq_mv T e (jq_pb T e st) st).1 = 0 := by rw [jq_mv0 h0]
  obtain ⟨d1, d2, hwin, d4, d5, d6⟩ := h.2.2 h1
  simp only at d1 d2 hwin d4 d5 d6
  have hfull : jz_full Z ((11 + w : Nat) : Int) = decide (Z.1 (10 + w) < Z.1 (20 + w)) := by
    obtain rfl | rfl | rfl : w = 0 ∨ w = 1 ∨ w = 2 := by omega
    all_goals simp [jz_full]
  have hone : jz_one T e ((11 + w : Nat) : Int) (jq_at e st) Z (jq_mv T e (jq_pb T e st) st) = jz_codes T e w Z (jq_mv T e (jq_pb T e st) st) := by
    obtain rfl | rfl | rfl : w = 0 ∨ w = 1 ∨ w = 2 := by omega
    all_goals rfl
  by_cases q : Z.1 (10 + w) < Z.1 (20 + w)
  · rw [jz_stm_full hpn (by rw [hfull]; exact decide_eq_true q)]
    refine jh_brF (told := jf_X12_codesTold (w : Int) (st.2.1 : Int)) h h1 h0 hs ?_
    have m5 : jl_g τ 206 5 = 0 := by rw [h.1.1.m, h1]; rfl
    obtain ⟨c1, -, c3, -⟩ := (d1.2.2.2 w hw).1 q
    rw [jf_X12_codesTold, if_pos m5, if_pos (by omega), Int.toNat_natCast, if_neg (by omega), jh_fail0 m5, jp_bd, jf_X12_codesTold_B23, if_neg]
    rw [jp_g_nei (by decide), jp_g_eq (by decide) (by decide)]; decide
  · rw [jz_stm_go hpn hk6 hk0 (by rw [hfull]; exact decide_eq_false q) (by omega), hone]
    obtain ⟨a, a1, a2, a3, a4, a5⟩ := jh_codes (v := (st.2.1 : Int)) hw h.1 h1 h.2.1 d1 q d2
    rw [a1, jp_bd]
    have z2 : (jz_codes T e w Z (jq_mv T e (jq_pb T e st) st)).2.1 0 = Z.1 0 := by
      show (if 0 = 20 + w then _ else if 0 = 10 + w then _ else Z.1 0) = _
      rw [if_neg (by omega), if_neg (by omega)]
    refine jE.fr (a2.w jh_FCS) (jh_end ⟨a3, a4, fun z => ?_⟩ z2 (by omega))
    obtain ⟨x1, x2⟩ := a5 z
    have z1 : (jz_codes T e w Z (jq_mv T e (jq_pb T e st) st)).2.1 1 = Z.1 1 := by
      show (if 1 = 20 + w then _ else if 1 = 10 + w then _ else Z.1 1) = _
      rw [if_neg (by omega), if_neg (by omega)]
    rw [z1, z2]
    exact ⟨x1, x2, hwin, (a2.g _ _ (by decide)).trans d4, d5, d6⟩
