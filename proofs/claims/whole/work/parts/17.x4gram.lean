/-! PURE, the class's reader: sums and tests are read as jq_g tells -/
theorem jx0_putWord {T : Nat → Int} {e q w f v : Nat} {st : jq_S} {s : jl_Mm} {c : Int} (hq : jq_qw q w) (h : jq_CS T e q w f st s) (hl : st.1 = 0 → st.2.2.length + 1 ≤ st.2.1 ∧ st.2.1 ≤ e) (hv : v < 32) (hU : jq_U c = -(v : Int) - 1) (h43 : c = 43 → v = 16) (h44 : c = 44 → v = 17) : jE (jf_X0_putWord q (v : Int) s) 0 [(q, 4, 5), (q + 1, 0, 0), (q + 3, w, w + 1), (q + 4, w, w + 1)] s (fun τ => jq_CS T e q w f (jq_em c st) τ) := by
  have ⟨h1, h2, h3, h3b, h4, h5, h6⟩ := h
  have hw3 : w < 3 := by obtain ⟨-, hw⟩ := hq; omega
  have q38 : q ≠ 38 ∧ q ≠ 1 ∧ q ≠ 2 ∧ q + 4 ≠ 38 ∧ q + 4 ≠ 1 ∧ q + 4 ≠ 2 := by obtain ⟨hq, -⟩ := hq; omega
  rw [jf_X0_putWord, if_pos (jq_kdq hq), h3, if_pos (by omega), if_pos (by omega), Int.toNat_natCast]
  have fr : jp_fr [(q + 4, w, w + 1)] s (jl_up s (q + 4) w (jl_or (jl_g s (q + 4) w) (jl_shl 1 (v : Int)))) := jp_fr.rf.up (by simp [jp_in])
  have ew : jl_g (jl_up s (q + 4) w (jl_or (jl_g s (q + 4) w) (jl_shl 1 (v : Int)))) (q + 4) w = jl_or (jl_g s (q + 4) w) (jl_shl 1 (v : Int)) := jp_g_eq (jp_or_n _ _).1 (jp_or_n _ _).2
  refine jE.lm (by simp [jp_in]) ?_
  generalize jl_up s (q + 4) w (jl_or (jl_g s (q + 4) w) (jl_shl 1 (v : Int))) = τ at *
  have hn : ∀ c i, c ≠ q + 4 → jp_in [(q + 4, w, w + 1)] c i = false := by
    intro c i hc
    simp [jp_in]
    omega
  have b16 : jl_and (jl_shr (jl_g τ (q + 4) w) 16) 1 = if (jp_tb (jl_g s (q + 4) w) 16 || decide (v = 16)) = true then 1 else 0 := by
    rw [ew, show (16 : Int) = ((16 : Nat) : Int) from rfl, jp_bit (by decide), jp_tb_or, jp_tb_s1 v hv 16 (by decide)]
  have b17 : jl_and (jl_shr (jl_g τ (q + 4) w) 17) 1 = if (jp_tb (jl_g s (q + 4) w) 17 || decide (v = 17)) = true then 1 else 0 := by
    rw [ew, show (17 : Int) = ((17 : Nat) : Int) from rfl, jp_bit (by decide), jp_tb_or, jp_tb_s1 v hv 17 (by decide)]
  have c16 : jl_and (jl_shr (jl_g s (q + 4) w) 16) 1 = if jp_tb (jl_g s (q + 4) w) 16 = true then 1 else 0 := jp_bit (b := 16) (by decide)
  have c17 : jl_and (jl_shr (jl_g s (q + 4) w) 17) 1 = if jp_tb (jl_g s (q + 4) w) 17 = true then 1 else 0 := jp_bit (b := 17) (by decide)
  have hC : jq_CS T e q w f st τ := by
    refine ⟨h1.fr fr (hn _ _ (by omega)) (fun i => hn _ _ (by omega)), (fr _ _ (hn _ _ (by omega))).trans h2, (fr.g _ _ (hn _ _ (by omega))).trans h3, by rw [fr.g _ _ (hn _ _ (by omega))]; exact h3b, ?_, fun z => ?_, fun z => ?_⟩
    · obtain ⟨p, p1, p2, p3⟩ := h4
      exact ⟨p, (fr.g _ _ (hn _ _ (by omega))).trans p1, p2, p3⟩
    · obtain ⟨a1, a2, ⟨k1, k2, k3, k4, k5⟩, a4, a5⟩ := h5 z
      refine ⟨(fr.g _ _ (hn _ _ (by omega))).trans a1, (fr.g _ _ (hn _ _ (by omega))).trans a2, ⟨(fr.g _ _ (hn _ _ (by omega))).trans k1, (fr.g _ _ (hn _ _ (by omega))).trans k2, fun i hi => (fr.g _ _ (hn _ _ (by omega))).trans (k3 i hi), fun hm => ?_, fun hm => ?_⟩, a4, a5⟩
      · have := k4 hm
        rw [c16] at this
        rw [b16]
        by_cases hz : jp_tb (jl_g s (q + 4) w) 16 = true
        · simp [hz]
        · simp [hz] at this
      · have := k5 hm
        rw [c17] at this
        rw [b17]
        by_cases hz : jp_tb (jl_g s (q + 4) w) 17 = true
        · simp [hz]
        · simp [hz] at this
    · obtain ⟨a1, a2⟩ := h6 z
      exact ⟨(fr.g _ _ (hn _ _ (by omega))).trans a1, (fr.g _ _ (hn _ _ (by omega))).trans a2⟩
  rw [jp_xorm1 v (by omega)]
  refine jE.bd (jx0_put (c := c) hq hC hl ⟨fun z => ?_, fun z => ?_⟩ _ (fun _ => hU.symm) (fun _ => by rw [hU]; exact ⟨by omega, by omega⟩)) (by simp) (fun τ2 _ z => jE.ret z)
  · rw [b16, h43 z]; simp
  · rw [b17, h44 z]; simp
theorem jx4c_open {T : Nat → Int} {e q w f p o : Nat} {st : jq_S} {s : jl_Mm} (hq : jq_qw q w) (h : jq_CS T e q w f st s) (h0 : st.1 = 0) (ho : jl_g s 38 3 = (o : Int)) (ho6 : o < 6) (hp : p ≤ e) (hp2 : st.2.1 ≤ p) : jE (jf_X4_open (p : Int) s) 1 [(38, 3, 6)] s (fun τ => jq_CS T e q w f (jq_mv T e p st) τ ∧ jl_g τ 38 3 = ((o + 1 : Nat) : Int)) := by
  have he := h.1.1
  rw [jf_X4_open, if_pos (by rw [ho]; omega), ho]
  refine jE.lm rfl (jE.lm rfl ?_)
  rw [jp_zb1]
  refine jE.ret ⟨jx4c_mvf hq h h0 hp hp2 (F := [(38, 3, 6)]) ((jp_fr.rf.up rfl).up rfl) (by intro c i hc; simp [jp_in] at hc; omega) ?_, ?_⟩
  · simp (disch := omega) only [if_pos, if_neg, jp_bd, jp_lm, jp_let, jp_zb0, jp_zb1, jp_add, jp_sub, jp_g_eq, jp_g_eqg, jp_g_ne, jp_g_nei, jp_r_ne, jp_r_nei, Int.toNat_natCast]
  · simp (disch := omega) only [if_pos, if_neg, jp_bd, jp_lm, jp_let, jp_zb0, jp_zb1, jp_add, jp_sub, jp_g_eq, jp_g_eqg, jp_g_ne, jp_g_nei, jp_r_ne, jp_r_nei, Int.toNat_natCast]
    omega
theorem jx4c_openF {T : Nat → Int} {e q w f o : Nat} {v : Int} {st : jq_S} {s : jl_Mm} (hq : jq_qw q w) (h : jq_CS T e q w f st s) (hs : jq_wf T e st) (ho : jl_g s 38 3 = (o : Int)) (ho6 : ¬ o < 6) (hat : jl_g s 38 4 = ((jq_at e st : Nat) : Int)) : jE (jf_X4_open v s) 0 [(38, 4, 5), (38, 7, 9)] s (fun τ => jq_CS T e q w f (jq_fl 4 (jq_at e st) st) τ ∧ jl_g τ 38 3 = (o : Int)) := by
  have he := h.1.1
  have ha := hs.at
  rw [jf_X4_open, if_neg (by rw [ho]; omega), hat]
  refine jE.bd (jx4c_fail (k := 4) hq h (by decide) (by decide) (by omega)) (by decide) (fun τ fr z => ?_)
  rw [jp_zb0]
  exact jE.ret ⟨z, (fr.g 38 3 rfl).trans ho⟩
theorem jx4c_sign {T : Nat → Int} {e q w f : Nat} {c : Int} {st : jq_S} {s : jl_Mm} (hq : jq_qw q w) (h : jq_CS T e q w f st s) (hs : jq_wf T e st) (hc : c ≠ -1) : jE (jf_X4_expectSign c s) 0 [(38, 4, 5), (38, 7, 9)] s (fun τ => jq_CS T e q w f (jq_xs T e c st) τ) := by
  have he := h.1.1
  have ha := hs.at
  rw [jf_X4_expectSign]
  refine jE.bd (jx4c_peek hq h) (by decide) (fun τ fr ⟨z, hat⟩ => ?_)
  rw [jq_xs]
  by_cases q1 : jq_pc T e st = c
  · obtain ⟨q0, q2, q3⟩ := jq_pc_in q1 hc
    rw [if_pos q1, if_pos q1, hat, jp_add (by omega) (by omega), jq_at0 q0]
    simp only [jf_X4_expectSign_B30]
    refine jE.lm rfl (jE.ret ?_)
    exact jx4c_mv hq z q0 (by omega) (by omega)
  · rw [if_neg q1, if_neg q1, hat]
    simp only [jf_X4_expectSign_B30]
    exact jE.bd (jx4c_fail (k := 1) hq z (by decide) (by decide) (by omega)) (by decide) (fun τ2 _ z2 => jE.ret z2)
theorem jx4c_take {T : Nat → Int} {e q w f : Nat} {v : Int} {st : jq_S} {s : jl_Mm} (hq : jq_qw q w) (h : jq_CS T e q w f st s) (hs : jq_wf T e st) (hv : v ≠ -1) : jE (jf_X4_takeWord v s) (if jq_pn T e st = v then 1 else 0) [(38, 4, 6), (38, 4, 5)] s (fun τ => jq_CS T e q w f (if jq_pn T e st = v then jq_mv T e (jq_pb T e st) st else st) τ) := by
  rw [jf_X4_takeWord]
  refine jE.bd (jx4c_word hq h) (by decide) (fun τ fr ⟨z, hat, hpb⟩ => ?_)
  by_cases q1 : jq_pn T e st = v
  · obtain ⟨q0, q2, q3, q4⟩ := jq_pn_in q1 hv
    simp only [if_pos q1]
    rw [hpb]
    simp only [jp_zb1]
    exact jE.lm rfl (jE.ret (jx4c_mv hq z q0 (by rw [q3]; exact jq_we_ub hs.1) (by omega)))
  · simp only [if_neg q1]
    rw [jp_zb0]
    exact jE.ret z
theorem jx4_numL {T : Nat → Int} {e : Nat} {lo hi l3 : Int} : ∀ (k n a : Nat) (v : Int) (s : jl_Mm), jq_P T e s → a ≤ e → k ≤ 4 → k < n → jl_g s 38 4 = (a : Int) → 0 ≤ v → (k = 4 → v = 0) → (k = 3 → v ≤ 9) → (k = 2 → v ≤ 99) → (k = 1 → v ≤ 999) → ∃ τ, jf_X4_takeNumber_L51 n lo hi l3 v ((4 - k : Nat) : Int) s = jf_X4_takeNumber_B112 lo hi l3 (jq_nv T (jq_ne T e k a - a) a v) τ ∧ jp_fr [(38, 4, 5)] s τ ∧ jl_g τ 38 4 = ((jq_ne T e k a : Nat) : Int) := by
  intro k
  induction k with
  | zero =>
    intro n a v s hP ha hk hn hat hv v4 v3 v2 v1
    cases n with
    | zero => omega
    | succ n =>
      rw [jf_X4_takeNumber_L51, if_pos (by omega), jq_ne, Nat.sub_self, jq_nv]
      exact ⟨s, rfl, jp_fr.rf, hat⟩
  | succ k ih =>
    intro n a v s hP ha hk hn hat hv v4 v3 v2 v1
    cases n with
    | zero => omega
    | succ n =>
      have ⟨he, h1, hT⟩ := hP
      rw [jf_X4_takeNumber_L51, if_neg (by omega), hat, jx10_byteAt hP, jp_bd, jx4_digit, jp_bd, jq_ne]
      by_cases hd : a < e ∧ jq_dg (T a)
      · rw [if_pos hd, if_pos (c := 0 ≤ (a : Int) ∧ (a : Int) < (e : Int)) (by omega), Int.toNat_natCast, if_pos hd.2, if_neg (by decide), hat, jx10_byteAt hP, jp_bd, if_pos (by omega), Int.toNat_natCast, jp_let, jp_lm]
        obtain ⟨d1, d2⟩ := hd.2
        have hv' : jl_sub (jl_add (jl_mul 10 v) (T a)) 48 = 10 * v + T a - 48 := by
          rw [jp_mul (by omega) (by omega), jp_add (by omega) (by omega), jp_sub (by omega) (by omega)]
        have ha' : jl_add (a : Int) 1 = ((a + 1 : Nat) : Int) := by rw [jp_add (by omega) (by omega)]; omega
        have hk' : jl_add ((4 - (k + 1) : Nat) : Int) 1 = ((4 - k : Nat) : Int) := by rw [jp_add (by omega) (by omega)]; omega
        rw [hv', hat, ha', hk']
        obtain ⟨τ, t1, t2, t3⟩ := ih n (a + 1) (10 * v + T a - 48) (jl_up s 38 4 ((a + 1 : Nat) : Int)) (hP.fr (jp_fr.rf.up (F := [(38, 4, 5)]) rfl) rfl (fun _ => rfl)) (by omega) (by omega) (by omega) (by
          simp (disch := omega) only [if_pos, if_neg, jp_bd, jp_lm, jp_let, jp_zb0, jp_zb1, jp_add, jp_sub, jp_g_eq, jp_g_eqg, jp_g_ne, jp_g_nei, jp_r_ne, jp_r_nei, Int.toNat_natCast]) (by omega) (by omega) (by omega) (by omega) (by omega)
        refine ⟨τ, ?_, (jp_fr.rf.up rfl).tr t2, t3⟩
        have hge := (jq_ne_all (T := T) (e := e) k (a + 1) (by omega)).1
        rw [t1, show jq_ne T e k (a + 1) - a = (jq_ne T e k (a + 1) - (a + 1)) + 1 by omega, jq_nv]
      · rw [if_neg hd, Nat.sub_self, jq_nv]
        refine ⟨s, ?_, jp_fr.rf, hat⟩
        by_cases hae : a < e
        · rw [if_pos (c := 0 ≤ (a : Int) ∧ (a : Int) < (e : Int)) (by omega), Int.toNat_natCast, if_neg (fun z => hd ⟨hae, z⟩), if_pos rfl]
        · rw [if_neg (c := 0 ≤ (a : Int) ∧ (a : Int) < (e : Int)) (by omega), if_neg (c := jq_dg (-1)) (by decide), if_pos rfl]
theorem jx4c_num {T : Nat → Int} {e q w f : Nat} {lo hi : Int} {st : jq_S} {s : jl_Mm} (hq : jq_qw q w) (h : jq_CS T e q w f st s) (hs : jq_wf T e st) : jE (jf_X4_takeNumber lo hi s) (jq_nm T e lo hi (jq_at e st)).2.2 [(38, 4, 5), (38, 7, 9)] s (fun τ => jq_CS T e q w f (if (jq_nm T e lo hi (jq_at e st)).1 = 0 then jq_mv T e (jq_nm T e lo hi (jq_at e st)).2.1 st else jq_fl (jq_nm T e lo hi (jq_at e st)).1 (jq_nm T e lo hi (jq_at e st)).2.1 st) τ) := by
  have he := h.1.1
  have ha := hs.at
  rw [jf_X4_takeNumber]
  refine jE.bd (jx4c_peek hq h) (by decide) (fun τ fr ⟨z, hat⟩ => ?_)
  rw [jx4_digit, jp_bd]
  have hP := z.1
  have bad : (jq_nm T e lo hi (jq_at e st)) = (1, jq_at e st, lo) → jE (jf_X4_takeNumber_B29 lo τ) (jq_nm T e lo hi (jq_at e st)).2.2 [(38, 4, 5), (38, 7, 9)] τ (fun τ => jq_CS T e q w f (if (jq_nm T e lo hi (jq_at e st)).1 = 0 then jq_mv T e (jq_nm T e lo hi (jq_at e st)).2.1 st else jq_fl (jq_nm T e lo hi (jq_at e st)).1 (jq_nm T e lo hi (jq_at e st)).2.1 st) τ) := by
    intro hb
    rw [hb, jf_X4_takeNumber_B29, hat, if_neg (by simp)]
    exact jE.bd (jx4c_fail (k := 1) hq z (by decide) (by decide) (by omega)) (by decide) (fun τ2 _ z2 => jE.ret z2)
  by_cases hd : jq_dg (jq_pc T e st)
  · obtain ⟨q0, q2, q3⟩ := jq_pc_in (T := T) (e := e) (st := st) rfl (by omega)
    rw [← q3] at hd
    rw [← q3, if_pos hd, if_neg (by decide), jx10_byteAt hP, jp_bd, jx4_inWord, jp_bd, hat]
    rw [jq_at0 q0] at *
    generalize ha2 : st.2.1 = a at *
    have hb1 : (if jq_iw (if 0 ≤ jl_sub (a : Int) 1 ∧ jl_sub (a : Int) 1 < (e : Int) then T (jl_sub (a : Int) 1).toNat else -1) then (1 : Int) else 0) = if jq_pw T a then 1 else 0 := by
      rw [jp_sub (by omega) (by omega)]
      by_cases hb0 : 0 < a
      · rw [if_pos (c := 0 ≤ (a : Int) - 1 ∧ (a : Int) - 1 < (e : Int)) (by omega), show ((a : Int) - 1).toNat = a - 1 by omega]
        by_cases hi : jq_iw (T (a - 1))
        · rw [if_pos hi, if_pos ⟨hb0, hi⟩]
        · rw [if_neg hi, if_neg (fun q => hi q.2)]
      · rw [if_neg (c := 0 ≤ (a : Int) - 1 ∧ (a : Int) - 1 < (e : Int)) (by omega), if_neg (by decide), if_neg (fun q => hb0 q.1)]
    rw [hb1]
    by_cases hp : jq_pw T a
    · rw [if_pos hp, if_neg (by decide)]
      exact bad (by rw [jq_nm, if_pos (Or.inr hp)])
    · rw [if_neg hp, if_pos rfl, jp_let]
      obtain ⟨τ2, t1, t2, t3⟩ := jx4_numL (T := T) (e := e) (lo := lo) (hi := hi) (l3 := (a : Int)) 4 jl_fu a 0 τ hP ha (Nat.le_refl _) (by decide) hat (Int.le_refl _) (fun _ => rfl) (by omega) (by omega) (by omega)
      rw [show ((4 - 4 : Nat) : Int) = 0 from rfl] at t1
      rw [t1]
      refine jE.fr (t2.w (by decide)) ?_
      have hne := jq_ne_all (T := T) (e := e) 4 a ha
      have hnm : jq_nm T e lo hi a = if jq_ne T e 4 a < e ∧ jq_dg (T (jq_ne T e 4 a)) then (1, jq_ne T e 4 a, lo) else if jq_nv T (jq_ne T e 4 a - a) a 0 < lo ∨ hi < jq_nv T (jq_ne T e 4 a - a) a 0 then (2, a, lo) else (0, jq_ne T e 4 a, jq_nv T (jq_ne T e 4 a - a) a 0) := by
        rw [jq_nm, if_neg]
        rintro (z1 | z1)
        · exact z1 ⟨q2, hd⟩
        · exact hp z1
      generalize jq_ne T e 4 a = b at *
      generalize jq_nv T (b - a) a 0 = v at *
      have hC : jq_CS T e q w f (jq_mv T e b st) τ2 := jx4c_mvf hq z q0 hne.2.1 (by omega) t2 (by intro c i hc; simp [jp_in] at hc; omega) t3
      have fl2 : ∀ k p, k ≠ 0 → jq_fl k p (jq_mv T e b st) = jq_fl k p st := by
        intro k p hk
        rw [jq_mv0 q0, jq_fl0 rfl, jq_fl0 q0]
      have hP2 := hC.1
      rw [jf_X4_takeNumber_B112, t3, jx10_byteAt hP2, jp_bd, jx4_digit, jp_bd]
      by_cases h5 : b < e ∧ jq_dg (T b)
      · rw [hnm, if_pos h5, if_pos (c := 0 ≤ (b : Int) ∧ (b : Int) < (e : Int)) (by omega), Int.toNat_natCast, if_pos h5.2, if_neg (by decide), if_neg (by simp), t3, ← fl2 _ _ (by simp)]
        exact jE.bd (jx4c_fail (k := 1) hq hC (by decide) (by decide) (by omega)) (by decide) (fun τ3 _ z2 => jE.ret z2)
      · have h6 : ¬ jq_dg (if 0 ≤ (b : Int) ∧ (b : Int) < (e : Int) then T (b : Int).toNat else -1) := by
          by_cases hbe : b < e
          · rw [if_pos (by omega), Int.toNat_natCast]; exact fun z1 => h5 ⟨hbe, z1⟩
          · rw [if_neg (by omega)]; decide
        rw [if_neg h6, if_pos rfl, hnm, if_neg h5]
        by_cases hlo : v < lo
        · rw [if_pos hlo, if_pos (Or.inl hlo), jf_X4_takeNumber_B152, if_neg (by simp), ← fl2 _ _ (by simp)]
          exact jE.bd (jx4c_fail (k := 2) hq hC (by decide) (by decide) (by omega)) (by decide) (fun τ3 _ z2 => jE.ret z2)
        · rw [if_neg hlo]
          by_cases hhi : v ≤ hi
          · rw [if_pos hhi, if_neg (by omega), if_pos rfl]
            exact jE.ret hC
          · rw [if_neg hhi, if_pos (Or.inr (by omega)), jf_X4_takeNumber_B152, if_neg (by simp), ← fl2 _ _ (by simp)]
            exact jE.bd (jx4c_fail (k := 2) hq hC (by decide) (by decide) (by omega)) (by decide) (fun τ3 _ z2 => jE.ret z2)
  · rw [if_neg hd, if_pos rfl]
    refine bad ?_
    rw [jq_nm, if_pos]
    refine Or.inl (fun z1 => hd ?_)
    rw [jq_pc, jq_pk_in z1.1]
    exact z1.2
