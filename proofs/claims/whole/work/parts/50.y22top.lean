/-! PURE, the reference's street reader: the loop -/
theorem jz_stm_cnt {T : Nat → Int} {e k : Nat} {Z : jz_Z} {st : jq_S} (h : (jz_stm T e k Z st).1.1 = 0) : (jz_stm T e k Z st).2.1 0 = Z.1 0 + 1 := by
  rw [jz_stm] at h ⊢
  split at h
  · exact absurd h (jh_fl_k (by decide))
  · rename_i q
    rw [if_neg q]
    split at h
    · rename_i q2
      rw [if_pos q2]
      rfl
    · exact absurd h (jh_fl_k (by decide))
theorem jh_look {T : Nat → Int} {e : Nat} {st : jq_S} {Z : jz_Z} {s : jl_Mm} (h : jh_J T e (st, Z) s) (h0 : st.1 = 0) : jE (jf_X12_look s) (jq_pc T e st) jh_FS s (fun τ => jh_J T e (st, Z) τ ∧ jl_g τ 206 2 = (st.2.1 : Int)) := by
  obtain ⟨a, a1, a2, a3, a4, -⟩ := jx12_look (h.1.1.1 h0)
  have hB : jh_B T e st Z a := h.1.st (st' := st) (a2.w (by decide)) ⟨fun _ => a3, fun y => absurd h0 y⟩ (fun y => y)
  have hJ := jh_Jof (R := (st, Z)) h (a2.w (by decide)) hB ⟨jh_le.rf, h.2.1⟩ (fun _ _ => ⟨rfl, rfl⟩) rfl (fun z => (h.2.2 z).2.2.1)
  rw [jq_pc, jq_at0 h0]
  exact ⟨a, a1, a2.w (by decide), hJ, a4⟩
theorem jh_loop {T : Nat → Int} {e : Nat} : ∀ (m n k : Nat) (r : jq_S × jz_Z) (s : jl_Mm), m + k = 61 → m < n → k ≠ 0 → jh_J T e r s → (r.1.1 = 0 → r.2.1 0 = (k : Int)) → ∃ τ, jf_X12_street_L98 n s = jf_X12_street_B120 τ ∧ jp_fr jh_FS s τ ∧ jh_J T e (jz_loop T e m k r) τ := by
  intro m
  induction m with
  | zero =>
    intro n k r s hm hn hk h hc
    obtain ⟨n, rfl⟩ : ∃ j, n = j + 1 := ⟨n - 1, by omega⟩
    have hf : r.1.1 ≠ 0 := fun z => by
      have := (h.2.2 z).2.2.2.2.2
      have := hc z
      omega
    rw [jf_X12_street_L98, h.1.1.m, if_neg (by omega), jz_loop]
    exact ⟨s, rfl, jp_fr.rf, h⟩
  | succ m ih =>
    intro n k r s hm hn hk h hc
    obtain ⟨n, rfl⟩ : ∃ j, n = j + 1 := ⟨n - 1, by omega⟩
    obtain ⟨st, Z⟩ := r
    rw [jf_X12_street_L98, h.1.1.m, jz_loop]
    by_cases z : st.1 = 0
    · rw [if_pos (by simp only; omega)]
      obtain ⟨a, a1, a2, a3, a4⟩ := jh_look h z
      rw [a1, jp_bd]
      by_cases q : jq_pc T e st = -1
      · rw [if_pos q, if_pos q]
        exact ⟨a, rfl, a2, a3⟩
      · rw [if_neg q, if_neg q]
        obtain ⟨b, b1, b2, b3⟩ := jh_stm a3 z (hc z) hk a4
        rw [b1, jp_bd]
        have hc2 := hc z
        simp only at hc2
        obtain ⟨τ, t1, t2, t3⟩ := ih n (k + 1) (jz_stm T e k Z st) b (by omega) (by omega) (by omega) b3 (fun y => by rw [jz_stm_cnt y, hc2]; omega)
        exact ⟨τ, t1, (a2.tr b2).tr t2, t3⟩
    · have q : jq_pc T e st = -1 := Classical.byContradiction (fun y => z (jz_pcF y))
      rw [if_neg (by simp only; omega), if_pos q]
      exact ⟨s, rfl, jp_fr.rf, h⟩
theorem jz_full0 (v : Int) : jz_full jz_0 v = false := by
  simp only [jz_full]
  have a : ∀ k, k ≠ 5 → jz_0.1 k = 0 := fun k hk => by simp only [jz_0]; rw [if_neg hk]
  rw [a 2 (by decide), a 3 (by decide), a 4 (by decide), a 10 (by decide), a 20 (by decide), a 11 (by decide), a 21 (by decide), a 12 (by decide), a 22 (by decide)]
  repeat (first | rfl | split)
/-- the first statement -/
theorem jh_first {T : Nat → Int} {e : Nat} {s : jl_Mm} (hB : jh_B T e (0, jq_sk T e 0, []) jz_0 s) (hw : jq_wf T e (0, jq_sk T e 0, [])) (h1 : jh_D [] jz_0 s) : ∃ τ, (jl_bd (jf_X12_streetTold s) fun _ s11 => jl_lm (jl_up s11 206 53 1) fun s12 => jf_X12_street_L98 jl_fu s12) = jf_X12_street_B120 τ ∧ jp_fr jh_FS s τ ∧ jh_J T e (jz_street T e) τ := by
  have h : jh_B T e (0, jq_sk T e 0, []) jz_0 s ∧ jq_wf T e (0, jq_sk T e 0, []) := ⟨hB, hw⟩
  have a0 : ∀ k, k ≠ 5 → jz_0.1 k = 0 := fun k hk => by simp only [jz_0]; rw [if_neg hk]
  obtain ⟨a, a1, a2, a3⟩ := jh_asks (c := 209) (w := 0) (Or.inl (by omega)) rfl h.1.1
  have Ba := h.1.st a2 a3 (fun y => absurd rfl y)
  obtain ⟨r, ⟨b, b1, b2, b3⟩, b4⟩ := jh_num (lo := 2) (hi := 30) (jp_n3s (by decide)) (jp_n3s (by decide)) a3
  have Bb := Ba.st b2 b3 (fun y => by rw [(jz_num_k y).1]; exact y)
  simp only [show ((0 : Nat) : Int) = 0 from rfl] at *
  have wE : jq_wf T e (jz_ew T e 0 (0, jq_sk T e 0, [])) := jz_ew_wf h.2 (by decide)
  have wN : jq_wf T e (jz_num T e 2 30 (jz_ew T e 0 (0, jq_sk T e 0, []))).1 := jz_num_wf wE
  have leN : jh_le (0, jq_sk T e 0, []) (jz_num T e 2 30 (jz_ew T e 0 (0, jq_sk T e 0, []))).1 := jh_le.ew.tr (jh_le.num wE)
  have nb : jl_n3 (jz_num T e 2 30 (jz_ew T e 0 (0, jq_sk T e 0, []))).2 := jz_num_b wE (Or.inr (Or.inr rfl)) (by decide)
  have win : (jz_num T e 2 30 (jz_ew T e 0 (0, jq_sk T e 0, []))).1.1 = 0 → 2 ≤ (jz_num T e 2 30 (jz_ew T e 0 (0, jq_sk T e 0, []))).2 ∧ (jz_num T e 2 30 (jz_ew T e 0 (0, jq_sk T e 0, []))).2 ≤ 30 := by
    intro z
    have nm := jq_nm_ok (T := T) (lo := 2) (hi := 30) wE.at
    rw [jz_num] at z ⊢
    simp only at z ⊢
    by_cases q : (jq_nm T e 2 30 (jq_at e (jz_ew T e 0 (0, jq_sk T e 0, [])))).1 = 0
    · exact (nm.2 q).2
    · rw [if_neg q] at z
      exact absurd z (jh_fl_k q)
  rw [jf_X12_streetTold, a1, jp_bd, b1, jp_bd, jp_lm, show (0 : Int).toNat = 0 from rfl]
  generalize hN : jz_num T e 2 30 (jz_ew T e 0 (0, jq_sk T e 0, [])) = N at *
  have f0 : jp_fr [(241, 0, 1)] b (jl_up b 241 0 r) := jp_fr.rf.up rfl
  have g0 : N.1.1 = 0 → jl_g (jl_up b 241 0 r) 241 0 = N.2 := fun z => by rw [b4 z]; exact jp_g_eq nb.1 nb.2
  have fC : jp_fr jh_FS b (jl_up b 241 0 r) := jp_fr.rf.up (by decide)
  generalize jl_up b 241 0 r = c at *
  have n0 : ∀ x i, (x ≠ 241 ∨ i ≠ 0) → jp_in [(241, 0, 1)] x i = false := by intro x i hx; simp [jp_in]; omega
  have Lc : jh_L T e N.1 c := jh_Lc Bb.1 f0 (by intro x i hx; simp [jp_in] at hx; omega)
  obtain ⟨d, d1, d2, d3⟩ := jh_sign (c := 59) (by decide) (by decide) Lc
  rw [d1, jp_bd, jp_bd, jp_lm]
  have f5 : jp_fr [(206, 53, 54)] d (jl_up d 206 53 1) := jp_fr.rf.up rfl
  have g5 : jl_g (jl_up d 206 53 1) 206 53 = 1 := jp_g_eq (by decide) (by decide)
  generalize jl_up d 206 53 1 = s2 at *
  have n5 : ∀ x i, (x ≠ 206 ∨ i ≠ 53) → jp_in [(206, 53, 54)] x i = false := by intro x i hx; simp [jp_in]; omega
  have fall : jp_fr jh_FS s s2 := ((((a2.tr b2).w (by decide)).tr fC).tr (d2.w (by decide))).tr (f5.w (by decide))
  have B : jh_B T e (jq_xs T e 59 N.1) (jz_s (jz_s jz_0 1 N.2) 0 (0 + 1)) s2 := by
    refine ⟨d3.fr f5 (fun i hi => n5 _ _ (by omega)) (fun i => n5 _ _ (by omega)) (fun x i hx => n5 _ _ (by rcases hx with hx | hx <;> omega)), ?_, fun z => ?_⟩
    · obtain ⟨m1, m2, m3⟩ := Bb.2.1
      refine jh_M.fr (jh_M.fr (s := c) ⟨?_, ?_, ?_⟩ d2 (fun i => jh_Fo (by decide))) f5 (fun i => n5 _ _ (by omega))
      · rw [f0.g _ _ (n0 _ _ (by omega))]; exact m1
      · rw [f0.g _ _ (n0 _ _ (by omega))]; exact m2
      · rw [f0.g _ _ (n0 _ _ (by omega))]; exact m3
    · have zN : N.1.1 = 0 := (jh_le.xs z).1
      obtain ⟨r1, r2, r3, r4⟩ := Bb.2.2 zN
      have zz : ∀ k, k ≠ 0 → k ≠ 1 → (jz_s (jz_s jz_0 1 N.2) 0 (0 + 1)).1 k = jz_0.1 k := by
        intro k hk hk1; simp only [jz_s]; rw [if_neg hk, if_neg hk1]
      refine jh_R.fr (jh_R.fr (s := c) ⟨fun k hk => ?_, fun i hi => ?_, fun i hi => ?_, fun i hi => ?_⟩ d2 (fun x i h1 h2 => jh_Fo (by omega))) f5 (fun x i h1 h2 => n5 _ _ (by omega))
      · by_cases q : k = 0
        · subst q
          rw [g0 zN]
          simp only [jz_s]; rw [if_neg (by omega), if_pos trivial]
        · rw [f0.g _ _ (n0 _ _ (by omega)), zz _ (by omega) (by omega)]; exact r1 k hk
      · rw [zz 2 (by decide) (by decide), a0 2 (by decide)] at hi; omega
      · rw [zz 3 (by decide) (by decide), a0 3 (by decide)] at hi; omega
      · rw [zz 4 (by decide) (by decide), a0 4 (by decide)] at hi; omega
  have J : jh_J T e (jq_xs T e 59 N.1, jz_s (jz_s jz_0 1 N.2) 0 (0 + 1)) s2 := by
    refine ⟨B, wN.xs (by decide), fun z => ?_⟩
    obtain ⟨x0, x1, x2⟩ := (leN.tr (jh_le.xs (c := 59))) z
    have zN : N.1.1 = 0 := (jh_le.xs z).1
    have w2 := win zN
    simp only at x2 ⊢
    rw [x2]
    refine ⟨?_, Nat.zero_le _, ?_, ?_, ?_, ?_⟩
    · have e1 : jh_D [] jz_0 b := (h1.fr a2 (by decide) (fun x i u v => jh_Fo (by omega)) (fun _ _ => ⟨rfl, rfl⟩)).fr b2 (by decide) (fun x i u v => jh_Fo (by omega)) (fun _ _ => ⟨rfl, rfl⟩)
      have e2 : jh_D [] jz_0 c := e1.fr f0 (n0 _ _ (by omega)) (fun x i u v => n0 _ _ (by omega)) (fun _ _ => ⟨rfl, rfl⟩)
      have e3 : jh_D [] jz_0 d := e2.fr d2 (by decide) (fun x i u v => jh_Fo (by omega)) (fun _ _ => ⟨rfl, rfl⟩)
      exact e3.fr f5 (n5 _ _ (by omega)) (fun x i u v => n5 _ _ (by omega)) (fun w hw => by simp only [jz_s]; rw [if_neg (by omega), if_neg (by omega), if_neg (by omega), if_neg (by omega)]; exact ⟨rfl, rfl⟩)
    · simp only [jz_s]; rw [if_neg (by decide), if_pos trivial]; omega
    · rw [g5]; simp only [jz_s, if_true]; decide
    · simp only [jz_s, if_true]; decide
    · simp only [jz_s, if_true]; decide
  have hat : jq_at e (0, jq_sk T e 0, []) = jq_sk T e 0 := rfl
  have fault : jq_pn T e (0, jq_sk T e 0, []) ≠ 0 → jh_J T e ((1, jq_sk T e 0, []), jz_0) s2 := by
    intro q
    have e1 : jz_ew T e 0 (0, jq_sk T e 0, []) = (1, jq_sk T e 0, []) := by rw [jz_ew, if_neg q, hat, jq_fl0 rfl]
    have hf : ((1, jq_sk T e 0, []) : jq_S).1 ≠ 0 := Nat.one_ne_zero
    rw [e1] at hN
    have e2 : N.1 = (1, jq_sk T e 0, []) := by rw [← hN]; exact (jz_num_k hf).1
    rw [e2, jq_xs_k hf (by decide)] at J
    exact ⟨J.1.k hf, J.2.1, fun y => absurd y hf⟩
  by_cases hp : jq_pc T e (0, jq_sk T e 0, []) = -1
  · have hb : ¬ jq_bg T e (jq_sk T e 0) := by
      rintro ⟨y1, y2, -⟩
      rw [jq_pc, hat, jq_pk_in y1] at hp
      rw [hp] at y2
      exact absurd y2.1 (by decide)
    have hpn : jq_pn T e (0, jq_sk T e 0, []) ≠ 0 := by rw [jq_pn, hat, jq_wn, if_neg hb]; decide
    have es : jz_street T e = ((1, jq_sk T e 0, []), jz_0) := by
      have q1 : jq_pc T e (1, jq_sk T e 0, []) = -1 := Classical.byContradiction (fun y => Nat.one_ne_zero (jz_pcF y))
      rw [jz_street, jz_first, if_pos hp, jz_loop]
      exact if_pos q1
    rw [es]
    have J1 := fault hpn
    refine ⟨s2, ?_, fall, J1⟩
    rw [show jl_fu = 3999 + 1 from rfl, jf_X12_street_L98, J1.1.1.m, if_neg (by show ¬ ((1 : Nat) : Int) = 0; decide)]
  · have J1 : jh_J T e (jz_stm T e 0 jz_0 (0, jq_sk T e 0, [])) s2 := by
      rw [jz_stm, if_neg (by rintro (y | y); omega; rw [jz_full0] at y; cases y)]
      by_cases q : jq_pn T e (0, jq_sk T e 0, []) = 0
      · rw [if_pos ⟨fun _ => rfl, fun _ => q⟩, q]
        have ew : jz_ew T e 0 (0, jq_sk T e 0, []) = jq_mv T e (jq_pb T e (0, jq_sk T e 0, [])) (0, jq_sk T e 0, []) := by rw [jz_ew, if_pos q]
        rw [ew] at hN
        rw [show jz_one T e 0 (jq_at e (0, jq_sk T e 0, [])) jz_0 (jq_mv T e (jq_pb T e (0, jq_sk T e 0, [])) (0, jq_sk T e 0, [])) = ((jz_num T e 2 30 (jq_mv T e (jq_pb T e (0, jq_sk T e 0, [])) (0, jq_sk T e 0, []))).1, jz_s jz_0 1 (jz_num T e 2 30 (jq_mv T e (jq_pb T e (0, jq_sk T e 0, [])) (0, jq_sk T e 0, []))).2) from rfl, hN, a0 0 (by decide)]
        exact J
      · rw [if_neg (fun y => q (y.mpr rfl)), hat, jq_fl0 rfl]
        exact fault q
    have es : jz_street T e = jz_loop T e 60 1 (jz_stm T e 0 jz_0 (0, jq_sk T e 0, [])) := by
      rw [jz_street, jz_first, if_neg hp, jz_loop]
      exact if_neg hp
    rw [es]
    obtain ⟨τ, t1, t2, t3⟩ := jh_loop 60 jl_fu 1 _ s2 rfl (by decide) (by decide) J1 (fun z => by rw [jz_stm_cnt z, a0 0 (by decide)]; rfl)
    exact ⟨τ, t1, fall.tr t2, t3⟩
