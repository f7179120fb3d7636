/-! PURE, the reference's street reader: a statement -/
def jh_FS : jp_F := (206, 53, 54) :: jh_FC
/-- between two statements -/
def jh_J (T : Nat → Int) (e : Nat) (R : jq_S × jz_Z) (τ : jl_Mm) : Prop :=
  jh_B T e R.1 R.2 τ ∧ jq_wf T e R.1 ∧ (R.1.1 = 0 → jh_D R.1.2.2 R.2 τ ∧ R.1.2.2.length ≤ R.1.2.1 ∧ (0 ≤ R.2.1 1 ∧ R.2.1 1 ≤ 30) ∧ jl_g τ 206 53 = R.2.1 0 ∧ 0 ≤ R.2.1 0 ∧ R.2.1 0 ≤ 60)
theorem jh_FAi {c i : Nat} (h : c ≠ 206) (h2 : c < 241 ∨ 246 ≤ c) : jp_in jh_FA c i = false := by
  simp [jp_in, jh_FA]; omega
/-- what a statement's own reading leaves -/
theorem jh_Jof {T : Nat → Int} {e : Nat} {st : jq_S} {Z : jz_Z} {R : jq_S × jz_Z} {s τ : jl_Mm} (h : jh_J T e (st, Z) s) (f : jp_fr jh_FA s τ) (hB : jh_B T e R.1 R.2 τ) (hw : jh_lw T e st R.1) (hZ : ∀ w, w < 3 → R.2.1 (10 + w) = Z.1 (10 + w) ∧ R.2.1 (20 + w) = Z.1 (20 + w)) (h1 : R.2.1 0 = Z.1 0) (h2 : R.1.1 = 0 → 0 ≤ R.2.1 1 ∧ R.2.1 1 ≤ 30) : jh_J T e R τ := by
  refine ⟨hB, hw.2, fun z => ?_⟩
  obtain ⟨z0, le, ce⟩ := hw.1 z
  obtain ⟨d1, d2, d3, d4, d5, d6⟩ := h.2.2 z0
  simp only at d1 d2 d3 d4 d5 d6
  rw [ce, h1]
  exact ⟨d1.fr f (by decide) (fun c i a b => jh_FAi (by omega) (by omega)) hZ, Nat.le_trans d2 le, h2 z, (f.g _ _ (by decide)).trans d4, d5, d6⟩
theorem jh_end {T : Nat → Int} {e : Nat} {R : jq_S × jz_Z} {s : jl_Mm} {n : Int} (h : jh_J T e R s) (hn : R.2.1 0 = n) (h59 : n ≤ 59) : jE (jf_X12_statementTold_B205 s) 0 jh_FS s (jh_J T e (jq_xs T e 59 R.1, jz_s R.2 0 (n + 1))) := by
  obtain ⟨a, a1, a2, a3⟩ := jh_sign (c := 59) (by decide) (by decide) h.1.1
  have Ba := h.1.st a2 a3 (fun y => by rw [jq_xs_k y (by decide)]; exact y)
  rw [jf_X12_statementTold_B205, a1, jp_bd, jp_lm]
  have f : jp_fr [(206, 53, 54)] a (jl_up a 206 53 (jl_add (jl_g a 206 53) 1)) := jp_fr.rf.up rfl
  have g53 : jl_g (jl_up a 206 53 (jl_add (jl_g a 206 53) 1)) 206 53 = jl_add (jl_g a 206 53) 1 := jp_g_eq (jl_n3_to _).1 (jl_n3_to _).2
  generalize jl_up a 206 53 (jl_add (jl_g a 206 53) 1) = b at *
  have fs : jp_fr jh_FS s b := (a2.w (by decide)).tr (f.w (by decide))
  have n1 : ∀ c i, (c ≠ 206 ∨ i ≠ 53) → jp_in [(206, 53, 54)] c i = false := by intro c i hc; simp [jp_in]; omega
  refine ⟨b, rfl, fs, ⟨Ba.1.fr f (fun i hi => n1 _ _ (by omega)) (fun i => n1 _ _ (by omega)) (fun c i hc => n1 _ _ (by rcases hc with hc | hc <;> omega)), Ba.2.1.fr f (fun i => n1 _ _ (by omega)), fun z => ?_⟩, h.2.1.xs (by decide), fun z => ?_⟩
  · obtain ⟨r1, r2, r3, r4⟩ := (Ba.2.2 z).fr f (fun c i x y => n1 _ _ (by omega))
    exact ⟨fun k hk => r1 k hk, r2, r3, r4⟩
  · obtain ⟨z0, le, ce⟩ := jh_le.xs (st := R.1) z
    obtain ⟨d1, d2, d3, d4, d5, d6⟩ := h.2.2 z0
    have ea : jl_g a 206 53 = n := (a2.g _ _ (by decide)).trans (d4.trans hn)
    simp only
    rw [ce]
    refine ⟨(d1.fr a2 (by decide) (fun c i x y => jh_Fo (by omega)) (fun _ _ => ⟨rfl, rfl⟩)).fr f (by decide) (fun c i x y => n1 _ _ (by omega)) (fun w hw => ?_), Nat.le_trans d2 le, ?_, ?_, ?_, ?_⟩
    · simp only [jz_s]; rw [if_neg (by omega), if_neg (by omega)]; exact ⟨rfl, rfl⟩
    · simp only [jz_s]; rw [if_neg (by omega)]; exact d3
    · rw [g53, ea]; simp only [jz_s, if_true]; exact jp_add (by omega) (by omega)
    · simp only [jz_s, if_true]; omega
    · simp only [jz_s, if_true]; omega
theorem jh_endF {T : Nat → Int} {e : Nat} {S : jq_S} {Z : jz_Z} {s : jl_Mm} (hB : jh_B T e S Z s) (hS : S.1 ≠ 0) (hw : jq_wf T e S) : jE (jf_X12_statementTold_B205 s) 0 jh_FS s (jh_J T e (S, Z)) := by
  rw [jf_X12_statementTold_B205, jf_X12_asksSign, hB.1.m, if_neg (by omega), jf_X12_asksSign_B24, jp_bd, jp_lm]
  have f : jp_fr [(206, 53, 54)] s (jl_up s 206 53 (jl_add (jl_g s 206 53) 1)) := jp_fr.rf.up rfl
  have n1 : ∀ c i, (c ≠ 206 ∨ i ≠ 53) → jp_in [(206, 53, 54)] c i = false := by intro c i hc; simp [jp_in]; omega
  exact ⟨_, rfl, f.w (by decide), ⟨hB.1.fr f (fun i hi => n1 _ _ (by omega)) (fun i => n1 _ _ (by omega)) (fun c i hc => n1 _ _ (by rcases hc with hc | hc <;> omega)), hB.2.1.fr f (fun i => n1 _ _ (by omega)), fun y => absurd y hS⟩, hw, fun y => absurd y hS⟩
theorem jh_K5 {T : Nat → Int} {e k a : Nat} {st : jq_S} {Z : jz_Z} {s : jl_Mm} (hB : jh_B T e st Z s) (h0 : st.1 = 0) (hk : k ≠ 0) (hk9 : k < 9) (ha : a ≤ 2000) (S : jq_S) (hS : S.1 = k ∧ S.2.1 = a) : jh_B T e S Z (jl_up (jl_up s 206 5 (k : Int)) 206 6 (a : Int)) := by
  have fu : jp_fr [(206, 5, 7)] s (jl_up (jl_up s 206 5 (k : Int)) 206 6 (a : Int)) := (jp_fr.rf.up rfl).up rfl
  have hne : S.1 ≠ 0 := by rw [hS.1]; exact hk
  refine ⟨⟨fun y => absurd y hne, fun _ => ⟨hne, ?_, ?_⟩⟩, hB.2.1.fr fu (by intro i; simp [jp_in]), fun y => absurd y hne⟩
  · rw [jp_g_nei (by decide), jp_g_eq (by omega) (by omega), hS.1]
  · rw [jp_g_eq (by omega) (by omega), hS.2]
theorem jh_isFullF {T : Nat → Int} {e k : Nat} {st : jq_S} {s : jl_Mm} {lim v : Int} (h : jh_L T e st s) (h0 : st.1 = 0) (hk : k < 12) (hn : jl_g s 241 k = lim) : jf_X12_isFull (k : Int) lim v s = some (1, jl_up (jl_up s 206 5 5) 206 6 v) := by
  have h5 : jl_g s 206 5 = 0 := by rw [h.m, h0]; rfl
  have g5 : jl_g (jl_up (jl_up s 206 5 5) 206 6 v) 206 5 = 5 := by rw [jp_g_nei (by decide), jp_g_eq (by decide) (by decide)]
  rw [jf_X12_isFull, if_pos h5, if_pos (by omega), Int.toNat_natCast, if_pos hn, jh_fail0 h5, jp_bd, jf_X12_isFull_B23, g5, if_neg (by decide), jf_X12_isFull_B35, jp_zb1]
theorem jh_take {T : Nat → Int} {e c w : Nat} {A B : jl_Mm → jl_O} {Q : jl_Mm → Prop} {st : jq_S} {Z : jz_Z} {s : jl_Mm} (hc : jy_is c) (hw : jy_wn c = w) (h : jh_J T e (st, Z) s) (h0 : st.1 = 0) (hA : jq_pn T e st ≠ (w : Int) → ∀ τ, jh_J T e (st, Z) τ → jE (A τ) 0 jh_FS τ Q) (hB : jq_pn T e st = (w : Int) → ∀ τ, jh_J T e (jq_mv T e (jq_pb T e st) st, Z) τ → jE (B τ) 0 jh_FS τ Q) : jE (jl_bd (jf_X12_takes c s) fun r τ => if r = 0 then A τ else B τ) 0 jh_FS s Q := by
  obtain ⟨a, a1, a2, a3, -⟩ := jx12_takes hc (h.1.1.1 h0)
  have fA : jp_fr jh_FA s a := a2.w (by decide)
  rw [a1, jp_bd]
  rw [hw] at a3 ⊢
  have hpn : jq_pn T e st = jq_wn T e st.2.1 := by rw [jq_pn, jq_at0 h0]
  by_cases q : jq_wn T e st.2.1 = (w : Int)
  · rw [if_pos q] at a3 ⊢
    rw [if_neg (by decide)]
    have hb := (jq_wn_len (jy_wn_lt hc) (by rw [hw]; exact q)).1
    have hpb : jq_pb T e st = jq_we T e st.2.1 := by rw [jq_pb, jq_wb, jq_at0 h0, if_pos hb]
    have hL : jh_L T e (jq_mv T e (jq_pb T e st) st) a := by
      rw [jq_mv0 h0, hpb]
      exact ⟨fun _ => a3, fun y => absurd rfl y⟩
    have hBa := h.1.st (a2.w (by decide)) hL (fun y => absurd h0 y)
    have hlw : jh_lw T e st (jq_mv T e (jq_pb T e st) st) := ⟨jh_le.mv jh_pb_ge, h.2.1.mv (by rw [hpb]; exact jq_we_ub h.2.1.1)⟩
    exact jE.fr (a2.w (by decide)) (hB (hpn.trans q) a (jh_Jof h fA hBa hlw (fun _ _ => ⟨rfl, rfl⟩) rfl (fun _ => (h.2.2 h0).2.2.1)))
  · rw [if_neg q] at a3 ⊢
    rw [if_pos rfl]
    have hBa := h.1.st (st' := st) (a2.w (by decide)) ⟨fun _ => a3, fun y => absurd h0 y⟩ (fun y => y)
    exact jE.fr (a2.w (by decide)) (hA (by rw [hpn]; exact q) a (jh_Jof h fA hBa ⟨jh_le.rf, h.2.1⟩ (fun _ _ => ⟨rfl, rfl⟩) rfl (fun _ => (h.2.2 h0).2.2.1)))
theorem jz_stm_go {T : Nat → Int} {e k : Nat} {Z : jz_Z} {st : jq_S} {v : Int} (hv : jq_pn T e st = v) (hk : ¬ 60 ≤ k) (hk0 : k ≠ 0) (hf : jz_full Z v = false) (hne : v ≠ 0) : jz_stm T e k Z st = (jq_xs T e 59 (jz_one T e v (jq_at e st) Z (jq_mv T e (jq_pb T e st) st)).1, jz_s (jz_one T e v (jq_at e st) Z (jq_mv T e (jq_pb T e st) st)).2 0 (Z.1 0 + 1)) := by
  rw [jz_stm, hv, if_neg (by rintro (y | y); exact hk y; rw [hf] at y; cases y), if_pos ⟨fun y => absurd y hne, fun y => absurd y hk0⟩]
theorem jz_stm_full {T : Nat → Int} {e k : Nat} {Z : jz_Z} {st : jq_S} {v : Int} (hv : jq_pn T e st = v) (hf : jz_full Z v = true) : jz_stm T e k Z st = (jq_fl 5 (jq_at e st) st, Z) := by
  rw [jz_stm, hv, if_pos (Or.inr hf)]
