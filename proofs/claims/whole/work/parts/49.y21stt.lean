/-! PURE, the reference's street reader: a statement, whole -/
theorem jh_setN {T : Nat → Int} {e j : Nat} {st : jq_S} {Z : jz_Z} {s : jl_Mm} {r v : Int} (h : jh_B T e st Z s) (hj : j = 4 ∨ j = 5) (hr : st.1 = 0 → r = v ∧ jl_n3 v) : jh_B T e st (jz_s Z (j + 1) v) (jl_up s 241 j r) := by
  have f : jp_fr [(241, j, j + 1)] s (jl_up s 241 j r) := jp_fr.rf.up (by simp [jp_in])
  have n1 : ∀ c i, (c ≠ 241 ∨ i ≠ j) → jp_in [(241, j, j + 1)] c i = false := by intro c i hc; simp [jp_in]; omega
  obtain ⟨hL, ⟨m1, m2, m3⟩, hR⟩ := h
  refine ⟨jh_Lc hL f (by intro c i hc; simp [jp_in] at hc; omega), ⟨?_, ?_, ?_⟩, fun z => ?_⟩
  · rw [f.g _ _ (n1 _ _ (by omega))]; exact m1
  · rw [f.g _ _ (n1 _ _ (by omega))]; exact m2
  · rw [f.g _ _ (n1 _ _ (by omega))]; exact m3
  · obtain ⟨r1, r2, r3, r4⟩ := hR z
    obtain ⟨e1, e2, e3⟩ := hr z
    have zz : ∀ k, k < 5 → (jz_s Z (j + 1) v).1 k = Z.1 k := by intro k hk; simp only [jz_s]; rw [if_neg (by omega)]
    refine ⟨fun k hk => ?_, fun i hi => ?_, fun i hi => ?_, fun i hi => ?_⟩
    · by_cases q : k = j
      · subst q
        rw [e1, jp_g_eq e2 e3]
        simp only [jz_s, if_true]
      · rw [f.g _ _ (n1 _ _ (by omega)), r1 k hk]
        simp only [jz_s]; rw [if_neg (by omega)]
    · rw [zz 2 (by decide)] at hi
      obtain ⟨x1, x2, x3, x4⟩ := r2 i hi
      rw [f.gl _ _ (n1 _ _ (by omega)), f.g _ _ (n1 _ _ (by omega)), f.g _ _ (n1 _ _ (by omega))]
      exact ⟨x1, x2, x3, x4⟩
    · rw [zz 3 (by decide)] at hi
      obtain ⟨x1, x2, x3, x4⟩ := r3 i hi
      rw [f.gl _ _ (n1 _ _ (by omega)), f.g _ _ (n1 _ _ (by omega)), f.g _ _ (n1 _ _ (by omega))]
      exact ⟨x1, x2, x3, x4⟩
    · rw [zz 4 (by decide)] at hi
      obtain ⟨x1, x2, x3⟩ := r4 i hi
      rw [f.g _ _ (n1 _ _ (by omega)), f.g _ _ (n1 _ _ (by omega)), f.g _ _ (n1 _ _ (by omega))]
      exact ⟨x1, x2, x3⟩
theorem jh_brN {T : Nat → Int} {e j : Nat} {hi : Int} {st1 : jq_S} {Z : jz_Z} {τ : jl_Mm} (h : jh_J T e (st1, Z) τ) (hj : j = 4 ∨ j = 5) (hhi : 0 ≤ hi ∧ hi ≤ 999) (h59 : Z.1 0 ≤ 59) (hwin : 0 ≤ Z.1 1 ∧ Z.1 1 ≤ 30) : jE (jl_bd (jf_X12_number 0 hi τ) fun r s42 => jl_lm (jl_up s42 241 j r) fun s43 => jf_X12_statementTold_B205 s43) 0 jh_FS τ (jh_J T e (jq_xs T e 59 (jz_num T e 0 hi st1).1, jz_s (jz_s Z (j + 1) (jz_num T e 0 hi st1).2) 0 (Z.1 0 + 1))) := by
  obtain ⟨r, ⟨a, a1, a2, a3⟩, a4⟩ := jh_num (lo := 0) (hi := hi) (jp_n3s (by decide)) (jp_n3s (by omega)) h.1.1
  have Ba := h.1.st a2 a3 (fun y => by rw [(jz_num_k y).1]; exact y)
  rw [a1, jp_bd, jp_lm]
  have B2 := jh_setN (j := j) (r := r) (v := (jz_num T e 0 hi st1).2) Ba hj (fun z => ⟨a4 z, jz_num_b h.2.1 (Or.inl rfl) (by omega)⟩)
  have f : jp_fr jh_FA τ (jl_up a 241 j r) := (a2.w jh_FA1).up (by simp [jp_in, jh_FA]; omega)
  have z1 : (jz_s Z (j + 1) (jz_num T e 0 hi st1).2).1 1 = Z.1 1 := by simp only [jz_s]; rw [if_neg (by omega)]
  have z0 : (jz_s Z (j + 1) (jz_num T e 0 hi st1).2).1 0 = Z.1 0 := by simp only [jz_s]; rw [if_neg (by omega)]
  have J := jh_Jof (R := ((jz_num T e 0 hi st1).1, jz_s Z (j + 1) (jz_num T e 0 hi st1).2)) h f B2 ⟨jh_le.num h.2.1, jz_num_wf h.2.1⟩ (fun w hw => by simp only [jz_s]; rw [if_neg (by omega), if_neg (by omega)]; exact ⟨rfl, rfl⟩) z0 (fun _ => by rw [z1]; exact hwin)
  exact jE.fr (f.w jh_FAS) (jh_end J z0 h59)
theorem jh_stm {T : Nat → Int} {e k : Nat} {st : jq_S} {Z : jz_Z} {s : jl_Mm} (h : jh_J T e (st, Z) s) (h0 : st.1 = 0) (hk : Z.1 0 = (k : Int)) (hk0 : k ≠ 0) (h2 : jl_g s 206 2 = (st.2.1 : Int)) : jE (jf_X12_statementTold s) 0 jh_FS s (jh_J T e (jz_stm T e k Z st)) := by
  obtain ⟨d1, d2, hwin, d4, d5, d6⟩ := h.2.2 h0
  simp only at d1 d2 hwin d4 d5 d6
  have hs := h.2.1
  have he := (h.1.1.1 h0).1
  have hpe := hs.1
  have m5 : jl_g s 206 5 = 0 := by rw [h.1.1.m, h0]; rfl
  rw [jf_X12_statementTold, h2, jp_let]
  by_cases h60 : 60 ≤ k
  · rw [if_pos (by omega), jh_fail0 m5, jp_bd]
    have e1 : jz_stm T e k Z st = (jq_fl 5 (jq_at e st) st, Z) := by rw [jz_stm, if_pos (Or.inl h60)]
    rw [e1, jq_at0 h0]
    have hkk : (jq_fl 5 st.2.1 st).1 ≠ 0 := jh_fl_k (by decide)
    exact ⟨_, rfl, (jp_fr.rf.up (by decide)).up (by decide), jh_K5 (k := 5) (a := st.2.1) h.1 h0 (by decide) (by decide) (by have := hs.1; simp only at this; omega) (jq_fl 5 st.2.1 st) (by rw [jq_fl0 h0]; exact ⟨rfl, rfl⟩), hs.fl hs.1 (by decide), fun y => absurd y hkk⟩
  · rw [if_neg (by omega)]
    have mk1 : ∀ τ, jh_J T e (jq_mv T e (jq_pb T e st) st, Z) τ → (jq_mv T e (jq_pb T e st) st).1 = 0 := fun τ _ => by rw [jq_mv0 h0]
    refine jh_take (c := 210) (w := 1) (Or.inl (by omega)) rfl h h0 (fun n1 s1 J1 => ?_) (fun q τ J => jh_brP J h0 hs hk hk0 h60 q)
    refine jh_take (c := 213) (w := 4) (Or.inl (by omega)) rfl J1 h0 (fun n4 s2 J2 => ?_) (fun q τ J => jh_brL J h0 hs hk hk0 h60 q)
    refine jh_take (c := 215) (w := 6) (Or.inl (by omega)) rfl J2 h0 (fun n6 s3 J3 => ?_) (fun q τ J => jh_brH J h0 hk hk0 h60 q)
    refine jh_take (c := 217) (w := 8) (Or.inl (by omega)) rfl J3 h0 (fun n8 s4 J4 => ?_) (fun q τ J => jh_brI J h0 hs hk hk0 h60 q)
    refine jh_take (c := 219) (w := 10) (Or.inl (by omega)) rfl J4 h0 (fun n10 s5 J5 => ?_) (fun q τ J => ?_)
    · refine jh_take (c := 220) (w := 11) (Or.inl (by omega)) rfl J5 h0 (fun n11 s6 J6 => ?_) (fun q τ J => jh_brC (w := 0) (by decide) J h0 hs hk hk0 h60 q)
      refine jh_take (c := 221) (w := 12) (Or.inl (by omega)) rfl J6 h0 (fun n12 s7 J7 => ?_) (fun q τ J => jh_brC (w := 1) (by decide) J h0 hs hk hk0 h60 q)
      refine jh_take (c := 222) (w := 13) (Or.inl (by omega)) rfl J7 h0 (fun n13 s8 J8 => ?_) (fun q τ J => jh_brC (w := 2) (by decide) J h0 hs hk hk0 h60 q)
      obtain ⟨a, a1, a2, a3⟩ := jh_asks (c := 223) (w := 14) (Or.inl (by omega)) rfl J8.1.1
      have Ba := J8.1.st a2 a3 (fun y => absurd h0 y)
      have fa : jp_fr jh_FA s8 a := a2.w jh_FA1
      have Ja := jh_Jof (R := (jz_ew T e ((14 : Nat) : Int) st, Z)) J8 fa Ba ⟨jh_le.ew, jz_ew_wf hs (by decide)⟩ (fun _ _ => ⟨rfl, rfl⟩) rfl (fun _ => hwin)
      rw [a1, jp_bd]
      have N := jh_brN (j := 5) (hi := 100) Ja (Or.inr rfl) (by decide) (by omega) hwin
      rw [show (5 : Int).toNat = 5 from rfl]
      refine jE.fr (fa.w jh_FAS) (jE.mono N (by decide) (fun τ _ J => ?_))
      by_cases q : jq_pn T e st = 14
      · have ew : jz_ew T e ((14 : Nat) : Int) st = jq_mv T e (jq_pb T e st) st := by rw [jz_ew, if_pos (show jq_pn T e st = ((14 : Nat) : Int) from q)]
        rw [ew] at J
        rw [jz_stm_go q h60 hk0 (by simp [jz_full]) (by decide)]
        exact J
      · have ew : jz_ew T e ((14 : Nat) : Int) st = jq_fl 1 (jq_at e st) st := by rw [jz_ew, if_neg (show ¬ jq_pn T e st = ((14 : Nat) : Int) from q)]
        have hf : (jq_fl 1 (jq_at e st) st).1 ≠ 0 := jh_fl_k (by decide)
        rw [ew, (jz_num_k hf).1, jq_xs_k hf (by decide)] at J
        have J1 : jh_J T e (jq_fl 1 (jq_at e st) st, Z) τ := ⟨J.1.k hf, J.2.1, fun y => absurd y hf⟩
        by_cases q0 : jq_pn T e st = 0
        · have e1 : jz_stm T e k Z st = (jq_fl 1 (jq_at e st) st, Z) := by
            rw [jz_stm, q0, if_neg (by rintro (y | y); exact h60 y; simp [jz_full] at y), if_neg (fun y => hk0 (y.mp rfl))]
          rw [e1]; exact J1
        · have m1 : ¬ jq_pn T e st = 1 := n1
          have m4 : ¬ jq_pn T e st = 4 := n4
          have m6 : ¬ jq_pn T e st = 6 := n6
          have m8 : ¬ jq_pn T e st = 8 := n8
          have m10 : ¬ jq_pn T e st = 10 := n10
          have m11 : ¬ jq_pn T e st = 11 := n11
          have m12 : ¬ jq_pn T e st = 12 := n12
          have m13 : ¬ jq_pn T e st = 13 := n13
          have e0 : jz_full Z (jq_pn T e st) = false := by
            simp only [jz_full]
            rw [if_neg m1, if_neg m4, if_neg m8, if_neg m11, if_neg m12, if_neg m13]
          have e1 : jz_one T e (jq_pn T e st) (jq_at e st) Z (jq_mv T e (jq_pb T e st) st) = (jq_fl 1 (jq_at e st) (jq_mv T e (jq_pb T e st) st), Z) := by
            rw [jz_one, if_neg q0, if_neg m1, if_neg m4, if_neg m6, if_neg m8, if_neg m10, if_neg m11, if_neg m12, if_neg m13, if_neg q]
          have e2 : jq_fl 1 (jq_at e st) (jq_mv T e (jq_pb T e st) st) = jq_fl 1 (jq_at e st) st := by
            rw [jq_mv0 h0, jq_fl0 h0, jq_fl0 rfl]
          rw [jz_stm_go rfl h60 hk0 e0 q0, e1, e2]
          simp only
          rw [jq_xs_k hf (by decide)]
          exact ⟨J.1.k hf, J.2.1, fun y => absurd y hf⟩
    · have N := jh_brN (j := 4) (hi := 999) J (Or.inl rfl) (by decide) (by omega) hwin
      rw [jz_stm_go q h60 hk0 (by simp [jz_full]) (by decide)]
      exact N
