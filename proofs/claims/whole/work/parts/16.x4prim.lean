/-! PURE, the class's reader: its steps over a state of reading -/
/-- the class's cell of a code -/
def jq_U (c : Int) : Int :=
  if 1000 ≤ c then c - 1000
  else if c = 13 then 1
  else if c = 1 then -44 else if c = 2 then -46 else if c = 3 then -43 else if c = 4 then -48
  else if c = 5 then -31 else if c = 6 then -32
  else if c = 7 then -61 else if c = 8 then -63 else if c = 9 then -62
  else if c = 10 then -28 else if c = 11 then -27 else if c = 12 then -29
  else if c = 40 then -20 else if c = 41 then -21 else if c = 42 then -16 else if c = 43 then -17 else if c = 44 then -18 else if c = 45 then -19
  else if c = 46 then -4 else if c = 47 then -22 else if c = 48 then -23 else if c = 49 then -24 else if c = 60 then -25 else -26
/-- the codes L of the class's Code q, of which which = w is being told, from f on -/
def jq_CC (q w f : Nat) (L : List Int) (τ : jl_Mm) : Prop :=
  jl_g τ q 4 = (L.length : Int) ∧ jl_g τ (q + 3) w = (L.length : Int) ∧ (∀ i (h : i < L.length), jl_g τ (q + 1) i = jq_U L[i]) ∧
  (43 ∈ L.drop f → jl_and (jl_shr (jl_g τ (q + 4) w) 16) 1 = 1) ∧ (44 ∈ L.drop f → jl_and (jl_shr (jl_g τ (q + 4) w) 17) 1 = 1)
/-- the class's reader stands as st tells -/
def jq_CS (T : Nat → Int) (e q w f : Nat) (st : jq_S) (τ : jl_Mm) : Prop :=
  jq_P T e τ ∧ τ 38 1 = (q : Int) ∧ jl_g τ q 5 = (w : Int) ∧ (0 ≤ jl_g τ q 4 ∧ jl_g τ q 4 ≤ 1608) ∧
  (∃ p : Nat, jl_g τ 38 4 = (p : Int) ∧ p ≤ e ∧ jq_sk T e p = jq_at e st) ∧
  (st.1 = 0 → jl_g τ 38 7 = 0 ∧ jl_g τ 38 8 = -1 ∧ jq_CC q w f st.2.2 τ ∧ f ≤ st.2.2.length ∧ st.2.2.length ≤ st.2.1) ∧
  (st.1 ≠ 0 → jl_g τ 38 7 = (st.1 : Int) ∧ jl_g τ 38 8 = (st.2.1 : Int))
/-- the Codes, and which of their parts -/
def jq_qw (q w : Nat) : Prop := (q = 3 ∨ q = 18 ∨ q = 33) ∧ (w = 0 ∨ w = 1 ∨ w = 2)
def jq_QF (q w : Nat) : jp_F := [(38, 3, 6), (38, 4, 6), (38, 4, 5), (38, 7, 9), (q, 4, 5), (q + 1, 0, 0), (q + 3, w, w + 1), (q + 4, w, w + 1)]
theorem jq_CC.fr {q w f : Nat} {L : List Int} {s τ : jl_Mm} {F : jp_F} (h : jq_CC q w f L s) (fr : jp_fr F s τ) (w1 : jp_in F q 4 = false) (w2 : jp_in F (q + 3) w = false) (w3 : ∀ i, jp_in F (q + 1) i = false) (w4 : jp_in F (q + 4) w = false) : jq_CC q w f L τ := by
  obtain ⟨h1, h2, h3, h4, h5⟩ := h
  refine ⟨(fr.g _ _ w1).trans h1, (fr.g _ _ w2).trans h2, fun i hi => (fr.g _ _ (w3 i)).trans (h3 i hi), ?_, ?_⟩ <;> rw [fr.g _ _ w4] <;> assumption
/-- a step that changes the reader's place alone -/
theorem jq_CS.fr {T : Nat → Int} {e q w f : Nat} {st : jq_S} {s τ : jl_Mm} {F : jp_F} {p : Nat} (hq : jq_qw q w) (h : jq_CS T e q w f st s) (fr : jp_fr F s τ) (hF : ∀ c i, jp_in F c i = true → c = 38 ∧ 3 ≤ i ∧ i < 7) (h4 : jl_g τ 38 4 = (p : Int)) (hp : p ≤ e) (hs : jq_sk T e p = jq_at e st) : jq_CS T e q w f st τ := by
  obtain ⟨h1, h2, h3, h3b, -, h5, h6⟩ := h
  have hn : ∀ c i, (c ≠ 38 ∨ i < 3 ∨ 7 ≤ i) → jp_in F c i = false := by
    intro c i hc
    cases hz : jp_in F c i with
    | false => rfl
    | true => have := hF c i hz; omega
  have q38 : q ≠ 38 ∧ q + 1 ≠ 38 ∧ q + 3 ≠ 38 ∧ q + 4 ≠ 38 := by obtain ⟨hq, -⟩ := hq; omega
  refine ⟨h1.fr fr (hn _ _ (by omega)) (fun i => hn _ _ (by omega)), (fr _ _ (hn _ _ (by omega))).trans h2, (fr.g _ _ (hn _ _ (by omega))).trans h3, by rw [fr.g _ _ (hn _ _ (by omega))]; exact h3b, ⟨p, h4, hp, hs⟩, fun z => ?_, fun z => ?_⟩
  · obtain ⟨a1, a2, a3, a4⟩ := h5 z
    exact ⟨(fr.g _ _ (hn _ _ (by omega))).trans a1, (fr.g _ _ (hn _ _ (by omega))).trans a2, a3.fr fr (hn _ _ (by omega)) (hn _ _ (by omega)) (fun i => hn _ _ (by omega)) (hn _ _ (by omega)), a4⟩
  · obtain ⟨a1, a2⟩ := h6 z
    exact ⟨(fr.g _ _ (hn _ _ (by omega))).trans a1, (fr.g _ _ (hn _ _ (by omega))).trans a2⟩
theorem jx4c_peek {T : Nat → Int} {e q w f : Nat} {st : jq_S} {s : jl_Mm} (hq : jq_qw q w) (h : jq_CS T e q w f st s) : jE (jf_X4_peek s) (jq_pc T e st) [(38, 4, 5)] s (fun τ => jq_CS T e q w f st τ ∧ jl_g τ 38 4 = ((jq_at e st : Nat) : Int)) := by
  obtain ⟨p, h1, h2, h3⟩ := h.2.2.2.2.1
  have z := jx4_peek h.1 h2 h1
  rw [h3] at z
  refine jE.mono z (by decide) (fun τ fr q4 => ⟨h.fr hq fr ?_ q4 ?_ ?_, q4⟩)
  · intro c i hc; simp [jp_in] at hc; omega
  · rw [← h3]; exact jq_sk_ub h2
  · rw [← h3]; exact jq_sk_idem
theorem jx4c_word {T : Nat → Int} {e q w f : Nat} {st : jq_S} {s : jl_Mm} (hq : jq_qw q w) (h : jq_CS T e q w f st s) : jE (jf_X4_peekWord s) (jq_pn T e st) [(38, 4, 6), (38, 4, 5)] s (fun τ => jq_CS T e q w f st τ ∧ jl_g τ 38 4 = ((jq_at e st : Nat) : Int) ∧ jl_g τ 38 5 = ((jq_pb T e st : Nat) : Int)) := by
  obtain ⟨p, h1, h2, h3⟩ := h.2.2.2.2.1
  have z := jx4_peekWord h.1 h2 h1
  rw [h3] at z
  refine jE.mono z (by decide) (fun τ fr q4 => ⟨h.fr hq fr ?_ q4.1 ?_ ?_, q4⟩)
  · intro c i hc; simp [jp_in] at hc; omega
  · rw [← h3]; exact jq_sk_ub h2
  · rw [← h3]; exact jq_sk_idem
theorem jx4c_fail {T : Nat → Int} {e q w f k p : Nat} {st : jq_S} {s : jl_Mm} (hq : jq_qw q w) (h : jq_CS T e q w f st s) (hk : k ≠ 0) (hk2 : k < 9) (hp : p ≤ 2000) : jE (jf_X4_fail (k : Int) (p : Int) s) 0 [(38, 4, 5), (38, 7, 9)] s (fun τ => jq_CS T e q w f (jq_fl k p st) τ) := by
  obtain ⟨h1, h2, h3, h3b, h4, h5, h6⟩ := h
  have he := h1.1
  have q38 : q ≠ 38 ∧ q + 1 ≠ 38 ∧ q + 3 ≠ 38 ∧ q + 4 ≠ 38 := by obtain ⟨hq, -⟩ := hq; omega
  have hn : ∀ c i, (c ≠ 38 ∨ i < 4 ∨ (4 < i ∧ i < 7)) → jp_in [(38, 4, 5), (38, 7, 9)] c i = false := by
    intro c i hc
    simp [jp_in]
    omega
  rw [jf_X4_fail]
  by_cases h0 : st.1 = 0
  · obtain ⟨a1, a2, a3, a4⟩ := h5 h0
    rw [if_pos a1]
    simp only [jf_X4_fail_B17]
    refine jE.lm rfl (jE.lm rfl (jE.lm rfl (jE.ret ?_)))
    have fr : jp_fr [(38, 4, 5), (38, 7, 9)] s (jl_up (jl_up (jl_up s 38 7 (k : Int)) 38 8 (p : Int)) 38 4 (jl_g (jl_up (jl_up s 38 7 (k : Int)) 38 8 (p : Int)) 1 1)) := ((jp_fr.rf.up rfl).up rfl).up rfl
    have e4 : jl_g (jl_up (jl_up (jl_up s 38 7 (k : Int)) 38 8 (p : Int)) 38 4 (jl_g (jl_up (jl_up s 38 7 (k : Int)) 38 8 (p : Int)) 1 1)) 38 4 = (e : Int) := by
      simp (disch := omega) only [if_pos, if_neg, jp_bd, jp_lm, jp_let, jp_zb0, jp_zb1, jp_add, jp_sub, jp_g_eq, jp_g_eqg, jp_g_ne, jp_g_nei, jp_r_ne, jp_r_nei, Int.toNat_natCast, h1.2.1]
    have e7 : jl_g (jl_up (jl_up (jl_up s 38 7 (k : Int)) 38 8 (p : Int)) 38 4 (jl_g (jl_up (jl_up s 38 7 (k : Int)) 38 8 (p : Int)) 1 1)) 38 7 = (k : Int) := by
      simp (disch := omega) only [if_pos, if_neg, jp_bd, jp_lm, jp_let, jp_zb0, jp_zb1, jp_add, jp_sub, jp_g_eq, jp_g_eqg, jp_g_ne, jp_g_nei, jp_r_ne, jp_r_nei, Int.toNat_natCast]
    have e8 : jl_g (jl_up (jl_up (jl_up s 38 7 (k : Int)) 38 8 (p : Int)) 38 4 (jl_g (jl_up (jl_up s 38 7 (k : Int)) 38 8 (p : Int)) 1 1)) 38 8 = (p : Int) := by
      simp (disch := omega) only [if_pos, if_neg, jp_bd, jp_lm, jp_let, jp_zb0, jp_zb1, jp_add, jp_sub, jp_g_eq, jp_g_eqg, jp_g_ne, jp_g_nei, jp_r_ne, jp_r_nei, Int.toNat_natCast]
    generalize jl_up (jl_up (jl_up s 38 7 (k : Int)) 38 8 (p : Int)) 38 4 (jl_g (jl_up (jl_up s 38 7 (k : Int)) 38 8 (p : Int)) 1 1) = τ at *
    rw [jq_fl0 h0]
    exact ⟨h1.fr fr (hn _ _ (by omega)) (fun i => hn _ _ (by omega)), (fr _ _ (hn _ _ (by omega))).trans h2, (fr.g _ _ (hn _ _ (by omega))).trans h3, by rw [fr.g _ _ (hn _ _ (by omega))]; exact h3b, ⟨e, e4, Nat.le_refl _, by rw [jq_sk_end (Nat.le_refl _), jq_atk hk]⟩, fun z => absurd z hk, fun _ => ⟨e7, e8⟩⟩
  · obtain ⟨a1, a2⟩ := h6 h0
    rw [if_neg (by rw [a1]; omega), jf_X4_fail_B17]
    refine jE.lm rfl (jE.ret ?_)
    have fr : jp_fr [(38, 4, 5), (38, 7, 9)] s (jl_up s 38 4 (jl_g s 1 1)) := jp_fr.rf.up rfl
    have e4 : jl_g (jl_up s 38 4 (jl_g s 1 1)) 38 4 = (e : Int) := by
      simp (disch := omega) only [if_pos, if_neg, jp_bd, jp_lm, jp_let, jp_zb0, jp_zb1, jp_add, jp_sub, jp_g_eq, jp_g_eqg, jp_g_ne, jp_g_nei, jp_r_ne, jp_r_nei, Int.toNat_natCast, h1.2.1]
    have e7 : jl_g (jl_up s 38 4 (jl_g s 1 1)) 38 7 = jl_g s 38 7 := by
      simp (disch := omega) only [if_pos, if_neg, jp_bd, jp_lm, jp_let, jp_zb0, jp_zb1, jp_add, jp_sub, jp_g_eq, jp_g_eqg, jp_g_ne, jp_g_nei, jp_r_ne, jp_r_nei, Int.toNat_natCast]
    have e8 : jl_g (jl_up s 38 4 (jl_g s 1 1)) 38 8 = jl_g s 38 8 := by
      simp (disch := omega) only [if_pos, if_neg, jp_bd, jp_lm, jp_let, jp_zb0, jp_zb1, jp_add, jp_sub, jp_g_eq, jp_g_eqg, jp_g_ne, jp_g_nei, jp_r_ne, jp_r_nei, Int.toNat_natCast]
    generalize jl_up s 38 4 (jl_g s 1 1) = τ at *
    rw [jq_flk h0]
    exact ⟨h1.fr fr (hn _ _ (by omega)) (fun i => hn _ _ (by omega)), (fr _ _ (hn _ _ (by omega))).trans h2, (fr.g _ _ (hn _ _ (by omega))).trans h3, by rw [fr.g _ _ (hn _ _ (by omega))]; exact h3b, ⟨e, e4, Nat.le_refl _, by rw [jq_sk_end (Nat.le_refl _), jq_atk h0]⟩, fun z => absurd z h0, fun _ => ⟨e7.trans a1, e8.trans a2⟩⟩
/-- the place moves on -/
theorem jx4c_mvf {T : Nat → Int} {e q w f p : Nat} {st : jq_S} {s τ : jl_Mm} (hq : jq_qw q w) (h : jq_CS T e q w f st s) (h0 : st.1 = 0) (hp : p ≤ e) (hp2 : st.2.1 ≤ p) {F : jp_F} (fr : jp_fr F s τ) (hF : ∀ c i, jp_in F c i = true → c = 38 ∧ 3 ≤ i ∧ i < 7) (e4 : jl_g τ 38 4 = (p : Int)) : jq_CS T e q w f (jq_mv T e p st) τ := by
  have he := h.1.1
  have hsk := jq_sk_ge (T := T) (e := e) (a := p)
  have hn : ∀ c i, (c ≠ 38 ∨ i < 3 ∨ 7 ≤ i) → jp_in F c i = false := by
    intro c i hc
    cases hz : jp_in F c i with
    | false => rfl
    | true => have := hF c i hz; omega
  have q38 : q ≠ 38 ∧ q + 1 ≠ 38 ∧ q + 3 ≠ 38 ∧ q + 4 ≠ 38 := by obtain ⟨hq, -⟩ := hq; omega
  obtain ⟨h1, h2, h3, h3b, -, h5, h6⟩ := h
  rw [jq_mv0 h0]
  obtain ⟨a1, a2, a3, a4, a5⟩ := h5 h0
  refine ⟨h1.fr fr (hn _ _ (by omega)) (fun i => hn _ _ (by omega)), (fr _ _ (hn _ _ (by omega))).trans h2, (fr.g _ _ (hn _ _ (by omega))).trans h3, by rw [fr.g _ _ (hn _ _ (by omega))]; exact h3b, ⟨p, e4, hp, by rw [jq_at0 rfl]⟩, fun _ => ⟨(fr.g _ _ (hn _ _ (by omega))).trans a1, (fr.g _ _ (hn _ _ (by omega))).trans a2, a3.fr fr (hn _ _ (by omega)) (hn _ _ (by omega)) (fun i => hn _ _ (by omega)) (hn _ _ (by omega)), a4, ?_⟩, fun z => absurd rfl z⟩
  simp only
  omega
theorem jx4c_mv {T : Nat → Int} {e q w f p : Nat} {st : jq_S} {s : jl_Mm} (hq : jq_qw q w) (h : jq_CS T e q w f st s) (h0 : st.1 = 0) (hp : p ≤ e) (hp2 : st.2.1 ≤ p) : jq_CS T e q w f (jq_mv T e p st) (jl_up s 38 4 (p : Int)) := by
  have he := h.1.1
  exact jx4c_mvf hq h h0 hp hp2 (F := [(38, 4, 5)]) (jp_fr.rf.up rfl) (by intro c i hc; simp [jp_in] at hc; omega) (by
    simp (disch := omega) only [if_pos, if_neg, jp_bd, jp_lm, jp_let, jp_zb0, jp_zb1, jp_add, jp_sub, jp_g_eq, jp_g_eqg, jp_g_ne, jp_g_nei, jp_r_ne, jp_r_nei, Int.toNat_natCast])
theorem jq_kdq {q w : Nat} (hq : jq_qw q w) : (jl_kd q).1 = 0 := by
  obtain ⟨hq, -⟩ := hq
  rcases hq with rfl | rfl | rfl <;> decide +kernel
theorem jx0_put {T : Nat → Int} {e q w f : Nat} {st : jq_S} {s : jl_Mm} {c : Int} (hq : jq_qw q w) (h : jq_CS T e q w f st s) (hl : st.1 = 0 → st.2.2.length + 1 ≤ st.2.1 ∧ st.2.1 ≤ e) (hc : (c = 43 → jl_and (jl_shr (jl_g s (q + 4) w) 16) 1 = 1) ∧ (c = 44 → jl_and (jl_shr (jl_g s (q + 4) w) 17) 1 = 1)) (v : Int) (hv : st.1 = 0 → v = jq_U c) (hv2 : st.1 = 0 → jl_n3 (jq_U c)) : jE (jf_X0_put q v s) 0 [(q, 4, 5), (q + 1, 0, 0), (q + 3, w, w + 1)] s (fun τ => jq_CS T e q w f (jq_em c st) τ) := by
  have ⟨h1, h2, h3, h3b, h4, h5, h6⟩ := h
  have he := h1.1
  have hw3 : w < 3 := by obtain ⟨-, hw⟩ := hq; omega
  have q38 : q ≠ 38 ∧ q ≠ 1 ∧ q ≠ 2 ∧ q + 1 ≠ 38 ∧ q + 3 ≠ 38 ∧ q + 1 ≠ 1 ∧ q + 1 ≠ 2 ∧ q + 3 ≠ 1 ∧ q + 3 ≠ 2 := by obtain ⟨hq, -⟩ := hq; omega
  have hn : ∀ c i, (c = 38 ∨ c = 1 ∨ c = 2 ∨ (c = q ∧ i = 5) ∨ (c = q + 4)) → jp_in [(q, 4, 5), (q + 1, 0, 0), (q + 3, w, w + 1)] c i = false := by
    intro c i hc
    simp [jp_in]
    omega
  have i1 : jp_in [(q, 4, 5), (q + 1, 0, 0), (q + 3, w, w + 1)] q 4 = true := by simp [jp_in]
  have i2 : ∀ i, jp_in [(q, 4, 5), (q + 1, 0, 0), (q + 3, w, w + 1)] (q + 1) i = true := by intro i; simp [jp_in]
  have i3 : jp_in [(q, 4, 5), (q + 1, 0, 0), (q + 3, w, w + 1)] (q + 3) w = true := by simp [jp_in]
  rw [jf_X0_put, if_pos (jq_kdq hq)]
  by_cases hfull : 1608 ≤ jl_g s q 4
  · rw [if_pos hfull, jf_X0_put_B40]
    have h0 : st.1 ≠ 0 := by
      intro h0
      have a := h5 h0
      have b := hl h0
      have a3 := a.2.2.1.1
      omega
    exact jE.ret ⟨h1, h2, h3, h3b, by rw [show jq_at e (jq_em c st) = jq_at e st from rfl]; exact h4, fun z => absurd z h0, h6⟩
  · rw [if_neg hfull]
    refine jE.lm i1 ?_
    rw [if_pos (by omega)]
    refine jE.lm (i2 _) ?_
    have g5 : jl_g (jl_up (jl_up s q 4 (jl_add (jl_g s q 4) 1)) (q + 1) (jl_g s q 4).toNat v) q 5 = (w : Int) := by
      simp (disch := omega) only [if_pos, if_neg, jp_bd, jp_lm, jp_let, jp_zb0, jp_zb1, jp_add, jp_sub, jp_g_eq, jp_g_eqg, jp_g_ne, jp_g_nei, jp_r_ne, jp_r_nei, Int.toNat_natCast, h3]
    have g4 : jl_g (jl_up (jl_up s q 4 (jl_add (jl_g s q 4) 1)) (q + 1) (jl_g s q 4).toNat v) q 4 = jl_g s q 4 + 1 := by
      simp (disch := omega) only [if_pos, if_neg, jp_bd, jp_lm, jp_let, jp_zb0, jp_zb1, jp_add, jp_sub, jp_g_eq, jp_g_eqg, jp_g_ne, jp_g_nei, jp_r_ne, jp_r_nei, Int.toNat_natCast]
    rw [g5, g4, if_pos (by omega), Int.toNat_natCast]
    refine jE.lm i3 ?_
    rw [jf_X0_put_B40]
    refine jE.ret ?_
    have fr : jp_fr [(q, 4, 5), (q + 1, 0, 0), (q + 3, w, w + 1)] s (jl_up (jl_up (jl_up s q 4 (jl_add (jl_g s q 4) 1)) (q + 1) (jl_g s q 4).toNat v) (q + 3) w (jl_g s q 4 + 1)) := ((jp_fr.rf.up i1).up (i2 _)).up i3
    have e4 : jl_g (jl_up (jl_up (jl_up s q 4 (jl_add (jl_g s q 4) 1)) (q + 1) (jl_g s q 4).toNat v) (q + 3) w (jl_g s q 4 + 1)) q 4 = jl_g s q 4 + 1 := by
      simp (disch := omega) only [if_pos, if_neg, jp_bd, jp_lm, jp_let, jp_zb0, jp_zb1, jp_add, jp_sub, jp_g_eq, jp_g_eqg, jp_g_ne, jp_g_nei, jp_r_ne, jp_r_nei, Int.toNat_natCast]
    have e3 : jl_g (jl_up (jl_up (jl_up s q 4 (jl_add (jl_g s q 4) 1)) (q + 1) (jl_g s q 4).toNat v) (q + 3) w (jl_g s q 4 + 1)) (q + 3) w = jl_g s q 4 + 1 := by
      simp (disch := omega) only [if_pos, if_neg, jp_bd, jp_lm, jp_let, jp_zb0, jp_zb1, jp_add, jp_sub, jp_g_eq, jp_g_eqg, jp_g_ne, jp_g_nei, jp_r_ne, jp_r_nei, Int.toNat_natCast]
    have e1 : ∀ i, i ≠ (jl_g s q 4).toNat → jl_g (jl_up (jl_up (jl_up s q 4 (jl_add (jl_g s q 4) 1)) (q + 1) (jl_g s q 4).toNat v) (q + 3) w (jl_g s q 4 + 1)) (q + 1) i = jl_g s (q + 1) i := by
      intro i hi
      simp (disch := omega) only [if_pos, if_neg, jp_bd, jp_lm, jp_let, jp_zb0, jp_zb1, jp_add, jp_sub, jp_g_eq, jp_g_eqg, jp_g_ne, jp_g_nei, jp_r_ne, jp_r_nei, Int.toNat_natCast]
    have e2 : jl_n3 v → jl_g (jl_up (jl_up (jl_up s q 4 (jl_add (jl_g s q 4) 1)) (q + 1) (jl_g s q 4).toNat v) (q + 3) w (jl_g s q 4 + 1)) (q + 1) (jl_g s q 4).toNat = v := by
      intro hv
      obtain ⟨v1, v2⟩ := hv
      simp (disch := omega) only [if_pos, if_neg, jp_bd, jp_lm, jp_let, jp_zb0, jp_zb1, jp_add, jp_sub, jp_g_eq, jp_g_eqg, jp_g_ne, jp_g_nei, jp_r_ne, jp_r_nei, Int.toNat_natCast]
    generalize jl_up (jl_up (jl_up s q 4 (jl_add (jl_g s q 4) 1)) (q + 1) (jl_g s q 4).toNat v) (q + 3) w (jl_g s q 4 + 1) = τ at *
    refine ⟨h1.fr fr (hn _ _ (by omega)) (fun i => hn _ _ (by omega)), (fr _ _ (hn _ _ (by omega))).trans h2, (fr.g _ _ (hn _ _ (by omega))).trans h3, by rw [e4]; omega, ?_, fun z => ?_, fun z => ?_⟩
    · obtain ⟨p, p1, p2, p3⟩ := h4
      exact ⟨p, (fr.g _ _ (hn _ _ (by omega))).trans p1, p2, p3⟩
    · obtain ⟨a1, a2, ⟨c1, c2, c3, c4, c5⟩, a4, a5⟩ := h5 z
      obtain ⟨l1, l2⟩ := hl z
      have hvv := hv z
      have hv3 := hv2 z
      refine ⟨(fr.g _ _ (hn _ _ (by omega))).trans a1, (fr.g _ _ (hn _ _ (by omega))).trans a2, ⟨?_, ?_, ?_, ?_, ?_⟩, ?_, ?_⟩
      · rw [e4, c1]; simp [jq_em]
      · rw [e3, c1]; simp [jq_em]
      · intro i hi
        simp only [jq_em, List.length_append, List.length_singleton] at hi
        simp only [jq_em]
        by_cases hil : i < st.2.2.length
        · rw [List.getElem_append_left hil, e1 i (by omega)]
          exact c3 i hil
        · have hie : i = (jl_g s q 4).toNat := by omega
          rw [List.getElem_append_right (by omega)]
          simp only [List.getElem_singleton]
          rw [hie, e2 (by rw [hvv]; exact hv3), hvv]
      · rw [fr.g _ _ (hn _ _ (by omega))]
        intro hm
        simp only [jq_em] at hm
        rw [List.drop_append_of_le_length a4] at hm
        rcases List.mem_append.mp hm with q | q
        · exact c4 q
        · exact hc.1 (List.mem_singleton.mp q).symm
      · rw [fr.g _ _ (hn _ _ (by omega))]
        intro hm
        simp only [jq_em] at hm
        rw [List.drop_append_of_le_length a4] at hm
        rcases List.mem_append.mp hm with q | q
        · exact c5 q
        · exact hc.2 (List.mem_singleton.mp q).symm
      · simp [jq_em]; omega
      · simp [jq_em]; omega
    · obtain ⟨a1, a2⟩ := h6 z
      exact ⟨(fr.g _ _ (hn _ _ (by omega))).trans a1, (fr.g _ _ (hn _ _ (by omega))).trans a2⟩
