/-! PURE, the reference reads a question -/
theorem jq_wn_hi {T : Nat → Int} {e p : Nat} : jq_wn T e p < 38 := by
  rw [jq_wn]
  split
  · rcases jq_ix_mem (u := jq_sl T p (jq_we T e p)) jq_WL 0 with h | ⟨i, h1, h2, -⟩
    · omega
    · have : jq_WL.length = 38 := by decide +kernel
      omega
  · decide
theorem kq_w_hi {T : Nat → Int} {e : Nat} : kq_w T e < 38 := jq_wn_hi
abbrev kr_FK : jp_F := [(206, 2, 3), (206, 4, 5), (206, 5, 7)]
theorem kr_qKind {T : Nat → Int} {e p : Nat} {s : jl_Mm} (h : jy_L T e p s) :
    (32 ≤ jq_wn T e p → jE (jf_X12_qKind s) (jq_wn T e p - 32) kr_FK s (jy_L T e (jq_sk T e (jq_we T e p)))) ∧ (¬ 32 ≤ jq_wn T e p → jE (jf_X12_qKind s) 5 kr_FK s (jy_K 1 p)) := by
  have hi := jq_wn_hi (T := T) (e := e) (p := p)
  have z90 : ∀ k t, jf_X12_qKind_B90 k t = some (k, t) := fun _ _ => rfl
  have z76 : ∀ k t, k ≠ 5 → jf_X12_qKind_B76 k t = some (k, t) := fun k t h => by rw [jf_X12_qKind_B76, if_neg h, z90]
  have tk : ∀ c k : Nat, ∀ t : jl_Mm, jy_is c → jy_wn c = k → jy_L T e p t → jp_fr kr_FK s t → (jq_wn T e p = (k : Int) → ∃ τ, jf_X12_takes c t = some (1, τ) ∧ jp_fr kr_FK s τ ∧ jy_L T e (jq_sk T e (jq_we T e p)) τ) ∧ (jq_wn T e p ≠ (k : Int) → ∃ τ, jf_X12_takes c t = some (0, τ) ∧ jp_fr kr_FK s τ ∧ jy_L T e p τ) := by
    intro c k t hc hk hL hf
    obtain ⟨τ, t1, t2, t3, -⟩ := jx12_takes hc hL
    rw [hk] at t1 t3
    refine ⟨fun w => ?_, fun w => ?_⟩
    · rw [if_pos w] at t1 t3; exact ⟨τ, t1, hf.tr (t2.w (by decide)), t3⟩
    · rw [if_neg w] at t1 t3; exact ⟨τ, t1, hf.tr (t2.w (by decide)), t3⟩
  have a0 := tk 258 32 s (Or.inr (by decide)) (by decide) h jp_fr.rf
  rw [jf_X12_qKind]
  by_cases c0 : jq_wn T e p = ((32 : Nat) : Int)
  · obtain ⟨τ, t1, t2, t3⟩ := a0.1 c0
    rw [t1, jp_bd, if_neg (by decide), z76 _ _ (by decide)]
    exact ⟨fun _ => ⟨τ, by rw [c0]; rfl, t2, t3⟩, fun z => absurd (show (32 : Int) ≤ jq_wn T e p by omega) z⟩
  obtain ⟨s1, t1, f1, L1⟩ := a0.2 c0
  have a1 := tk 259 33 s1 (Or.inr (by decide)) (by decide) L1 f1
  rw [t1, jp_bd, if_pos rfl]
  by_cases c1 : jq_wn T e p = ((33 : Nat) : Int)
  · obtain ⟨τ, t1, t2, t3⟩ := a1.1 c1
    rw [t1, jp_bd, if_neg (by decide), z76 _ _ (by decide)]
    exact ⟨fun _ => ⟨τ, by rw [c1]; rfl, t2, t3⟩, fun z => absurd (show (32 : Int) ≤ jq_wn T e p by omega) z⟩
  obtain ⟨s2, t2, f2, L2⟩ := a1.2 c1
  have a2 := tk 260 34 s2 (Or.inr (by decide)) (by decide) L2 f2
  rw [t2, jp_bd, if_pos rfl]
  by_cases c2 : jq_wn T e p = ((34 : Nat) : Int)
  · obtain ⟨τ, t1, t2, t3⟩ := a2.1 c2
    rw [t1, jp_bd, if_neg (by decide), z76 _ _ (by decide)]
    exact ⟨fun _ => ⟨τ, by rw [c2]; rfl, t2, t3⟩, fun z => absurd (show (32 : Int) ≤ jq_wn T e p by omega) z⟩
  obtain ⟨s3, t3, f3, L3⟩ := a2.2 c2
  have a3 := tk 261 35 s3 (Or.inr (by decide)) (by decide) L3 f3
  rw [t3, jp_bd, if_pos rfl]
  by_cases c3 : jq_wn T e p = ((35 : Nat) : Int)
  · obtain ⟨τ, t1, t2, t3⟩ := a3.1 c3
    rw [t1, jp_bd, if_neg (by decide), z76 _ _ (by decide)]
    exact ⟨fun _ => ⟨τ, by rw [c3]; rfl, t2, t3⟩, fun z => absurd (show (32 : Int) ≤ jq_wn T e p by omega) z⟩
  obtain ⟨s4, t4, f4, L4⟩ := a3.2 c3
  have a4 := tk 262 36 s4 (Or.inr (by decide)) (by decide) L4 f4
  rw [t4, jp_bd, if_pos rfl]
  by_cases c4 : jq_wn T e p = ((36 : Nat) : Int)
  · obtain ⟨τ, t1, t2, t3⟩ := a4.1 c4
    rw [t1, jp_bd, if_neg (by decide), z76 _ _ (by decide)]
    exact ⟨fun _ => ⟨τ, by rw [c4]; rfl, t2, t3⟩, fun z => absurd (show (32 : Int) ≤ jq_wn T e p by omega) z⟩
  obtain ⟨s5, t5, f5, L5⟩ := a4.2 c4
  obtain ⟨τ, u1, u2, u3, u4⟩ := jx12_asks (c := 263) (Or.inr (by decide)) L5
  have k37 : (jy_wn 263 : Int) = 37 := by decide
  rw [k37] at u3 u4
  rw [t5, jp_bd, if_pos rfl, jf_X12_qKind_B76, if_pos rfl, u1, jp_bd, z90]
  refine ⟨fun z => ⟨τ, ?_, f5.tr u2, u3 (by omega)⟩, fun z => ⟨τ, rfl, f5.tr u2, u4 (by omega)⟩⟩
  rw [show jq_wn T e p - 32 = 5 by omega]
/-- the cells of the question's reading -/
def kr_FQ : jp_F := [(206, 1, 7), (206, 10, 11), (206, 55, 56), (206, 100, 105), (282, 0, 0), (283, 0, 0)]
theorem kr_FQn {c i : Nat} (h : c ≠ 282 ∧ c ≠ 283) (h2 : c = 206 → (i < 1 ∨ 6 < i) ∧ i ≠ 10 ∧ i ≠ 55 ∧ (i < 100 ∨ 104 < i)) : jp_in kr_FQ c i = false := by simp [jp_in, kr_FQ]; omega
theorem kr_FyQ {s τ : jl_Mm} (f : jp_fr jy_FQ s τ) : jp_fr kr_FQ s τ := f.ws (by intro c i h; simp [jp_in, jy_FQ, kr_FQ] at h ⊢; omega)
theorem kr_FkQ {s τ : jl_Mm} (f : jp_fr kr_FK s τ) : jp_fr kr_FQ s τ := f.ws (by intro c i h; simp [jp_in, kr_FQ] at h ⊢; omega)
/-- what the reference's reading leaves -/
def kr_qP (T : Nat → Int) (e : Nat) (κ : Int) (τ : jl_Mm) : Prop :=
  ((kq_st T e).1 = 0 → κ = kq_w T e - 32 ∧ jl_g τ 206 5 = 0 ∧ jl_g τ 206 6 = -1 ∧ jl_g τ 206 100 = ((kq_st T e).2.2.length : Int) ∧ ∀ i (h : i < (kq_st T e).2.2.length), jl_g τ 282 i = (kq_st T e).2.2[i]) ∧
  ((kq_st T e).1 ≠ 0 → jl_g τ 206 5 = ((kq_st T e).1 : Int) ∧ jl_g τ 206 6 = ((kq_st T e).2.1 : Int))
theorem kr_readQ {T : Nat → Int} {e : Nat} {s : jl_Mm} (he : e ≤ 1600) (h1 : jl_g s 206 1 = (e : Int)) (hT : ∀ i, i < e → jl_g s 207 i = T i) (hW : jy_W s) (h54 : jl_g s 206 54 ≠ 0) :
    ∃ κ τ, jf_X12_ask s = jf_X12_ask_B133 κ τ ∧ jp_fr kr_FQ s τ ∧ jl_g τ 206 1 = 0 ∧ kr_qP T e κ τ := by
  rw [jf_X12_ask, if_neg h54, h1, jp_lm, jp_lm, jp_lm, jp_lm, jp_lm, jp_lm, jp_lm, jp_lm, jp_lm, jp_lm, jp_lm]
  have F1 : jp_fr kr_FQ s (jl_up (jl_up (jl_up (jl_up (jl_up (jl_up (jl_up (jl_up (jl_up (jl_up (jl_up s 206 3 (e : Int)) 206 1 0) 206 2 0) 206 4 (-1)) 206 5 0) 206 6 (-1)) 206 55 3) 206 100 0) 206 102 0) 206 103 0) 206 104 0) := ((((((((((jp_fr.rf.up (by decide)).up (by decide)).up (by decide)).up (by decide)).up (by decide)).up (by decide)).up (by decide)).up (by decide)).up (by decide)).up (by decide)).up (by decide)
  have vv : ∀ k : Nat, (k = 1 ∨ k = 2 ∨ k = 3 ∨ k = 4 ∨ k = 5 ∨ k = 6 ∨ k = 55 ∨ k = 100 ∨ k = 102 ∨ k = 103 ∨ k = 104) → jl_g (jl_up (jl_up (jl_up (jl_up (jl_up (jl_up (jl_up (jl_up (jl_up (jl_up (jl_up s 206 3 (e : Int)) 206 1 0) 206 2 0) 206 4 (-1)) 206 5 0) 206 6 (-1)) 206 55 3) 206 100 0) 206 102 0) 206 103 0) 206 104 0) 206 k = if k = 3 then (e : Int) else if k = 4 ∨ k = 6 then -1 else if k = 55 then 3 else 0 := by
    intro k hk
    rcases hk with rfl | rfl | rfl | rfl | rfl | rfl | rfl | rfl | rfl | rfl | rfl
    · rw [if_neg (by decide), if_neg (by decide), if_neg (by decide)]; simp (disch := omega) only [if_pos, if_neg, jp_bd, jp_lm, jp_let, jp_zb0, jp_zb1, jp_add, jp_sub, jp_g_eq, jp_g_eqg, jp_g_ne, jp_g_nei, jp_r_ne, jp_r_nei, Int.toNat_natCast]
    · rw [if_neg (by decide), if_neg (by decide), if_neg (by decide)]; simp (disch := omega) only [if_pos, if_neg, jp_bd, jp_lm, jp_let, jp_zb0, jp_zb1, jp_add, jp_sub, jp_g_eq, jp_g_eqg, jp_g_ne, jp_g_nei, jp_r_ne, jp_r_nei, Int.toNat_natCast]
    · rw [if_pos rfl]; simp (disch := omega) only [if_pos, if_neg, jp_bd, jp_lm, jp_let, jp_zb0, jp_zb1, jp_add, jp_sub, jp_g_eq, jp_g_eqg, jp_g_ne, jp_g_nei, jp_r_ne, jp_r_nei, Int.toNat_natCast]
    · rw [if_neg (by decide), if_pos (by decide)]; simp (disch := omega) only [if_pos, if_neg, jp_bd, jp_lm, jp_let, jp_zb0, jp_zb1, jp_add, jp_sub, jp_g_eq, jp_g_eqg, jp_g_ne, jp_g_nei, jp_r_ne, jp_r_nei, Int.toNat_natCast]
    · rw [if_neg (by decide), if_neg (by decide), if_neg (by decide)]; simp (disch := omega) only [if_pos, if_neg, jp_bd, jp_lm, jp_let, jp_zb0, jp_zb1, jp_add, jp_sub, jp_g_eq, jp_g_eqg, jp_g_ne, jp_g_nei, jp_r_ne, jp_r_nei, Int.toNat_natCast]
    · rw [if_neg (by decide), if_pos (by decide)]; simp (disch := omega) only [if_pos, if_neg, jp_bd, jp_lm, jp_let, jp_zb0, jp_zb1, jp_add, jp_sub, jp_g_eq, jp_g_eqg, jp_g_ne, jp_g_nei, jp_r_ne, jp_r_nei, Int.toNat_natCast]
    · rw [if_neg (by decide), if_neg (by decide), if_pos rfl]; simp (disch := omega) only [if_pos, if_neg, jp_bd, jp_lm, jp_let, jp_zb0, jp_zb1, jp_add, jp_sub, jp_g_eq, jp_g_eqg, jp_g_ne, jp_g_nei, jp_r_ne, jp_r_nei, Int.toNat_natCast]
    · rw [if_neg (by decide), if_neg (by decide), if_neg (by decide)]; simp (disch := omega) only [if_pos, if_neg, jp_bd, jp_lm, jp_let, jp_zb0, jp_zb1, jp_add, jp_sub, jp_g_eq, jp_g_eqg, jp_g_ne, jp_g_nei, jp_r_ne, jp_r_nei, Int.toNat_natCast]
    · rw [if_neg (by decide), if_neg (by decide), if_neg (by decide)]; simp (disch := omega) only [if_pos, if_neg, jp_bd, jp_lm, jp_let, jp_zb0, jp_zb1, jp_add, jp_sub, jp_g_eq, jp_g_eqg, jp_g_ne, jp_g_nei, jp_r_ne, jp_r_nei, Int.toNat_natCast]
    · rw [if_neg (by decide), if_neg (by decide), if_neg (by decide)]; simp (disch := omega) only [if_pos, if_neg, jp_bd, jp_lm, jp_let, jp_zb0, jp_zb1, jp_add, jp_sub, jp_g_eq, jp_g_eqg, jp_g_ne, jp_g_nei, jp_r_ne, jp_r_nei, Int.toNat_natCast]
    · rw [if_neg (by decide), if_neg (by decide), if_neg (by decide)]; simp (disch := omega) only [if_pos, if_neg, jp_bd, jp_lm, jp_let, jp_zb0, jp_zb1, jp_add, jp_sub, jp_g_eq, jp_g_eqg, jp_g_ne, jp_g_nei, jp_r_ne, jp_r_nei, Int.toNat_natCast]
  generalize jl_up (jl_up (jl_up (jl_up (jl_up (jl_up (jl_up (jl_up (jl_up (jl_up (jl_up s 206 3 (e : Int)) 206 1 0) 206 2 0) 206 4 (-1)) 206 5 0) 206 6 (-1)) 206 55 3) 206 100 0) 206 102 0) 206 103 0) 206 104 0 = s1 at *
  have v1 : jl_g s1 206 1 = 0 := vv 1 (by decide)
  have L1 : jy_L T e (jq_sk T e 0) s1 := by
    refine ⟨he, vv 3 (by decide), fun i hi => ?_, vv 5 (by decide), vv 6 (by decide), hW.fr F1 (fun c i hc => kr_FQn (by rcases hc with hc | hc <;> omega) (by rcases hc with hc | hc <;> omega)), 0, vv 2 (by decide), Nat.zero_le _, rfl, Or.inl ⟨vv 4 (by decide), fun j hj => absurd hj (Nat.not_lt_zero _)⟩⟩
    exact (F1.g _ _ (kr_FQn (by omega) (by omega))).trans (hT i hi)
  have V1 : jy_V 3 0 0 0 [] [] s1 := ⟨vv 55 (by decide), vv 103 (by decide), vv 104 (by decide), vv 102 (by decide), fun i hi => absurd hi (Nat.not_lt_zero _), vv 100 (by decide), fun i hi => absurd hi (Nat.not_lt_zero _), Nat.le_refl _, by decide, by decide⟩
  have ew : kq_w T e = jq_wn T e (jq_sk T e 0) := rfl
  have ep : jq_at e (kq_s0 T e) = jq_sk T e 0 := rfl
  obtain ⟨k1, k2⟩ := kr_qKind L1
  by_cases c : 32 ≤ kq_w T e
  · obtain ⟨s2, t2, f2, L2⟩ := k1 c
    obtain ⟨b1, b2, b3⟩ := kq_pb c
    have V2 : jy_V 3 0 0 (jq_sk T e (jq_we T e (jq_sk T e 0))) [] [] s2 := (V1.L f2 (by decide)).w (Nat.zero_le _) (by have := L2.pe.1; omega)
    have Q2 : jy_Q T e (jq_sk T e (jq_we T e (jq_sk T e 0))) 3 0 0 (jq_sk T e (jq_we T e (jq_sk T e 0))) [] [] s2 := ⟨L2, V2⟩
    have v12 : jl_g s2 206 1 = 0 := (f2.g _ _ (by decide)).trans v1
    have em : jq_mv T e (jq_pb T e (kq_s0 T e)) (kq_s0 T e) = (0, jq_sk T e (jq_we T e (jq_sk T e 0)), []) := by rw [jq_mv0 (show (kq_s0 T e).1 = 0 from rfl), b3]; rfl
    have er : kq_r T e = jq_g T e 3 60 (kq_t T e) 0 0 (0, jq_sk T e (jq_we T e (jq_sk T e 0)), []) := by rw [kq_r, if_pos c, em]
    have f5 : jl_g s2 206 5 = 0 := L2.2.2.2.1
    have key : ∃ τ, jl_bd (jf_X12_qKind s1) (fun r13 s14 => if jl_g s14 206 5 = 0 then (if 3 ≤ r13 then jf_X12_ask_B98 r13 s14 else jl_bd (jf_X12_qTest s14) fun _ s47 => jf_X12_ask_B109 r13 s47) else jf_X12_ask_B98 r13 s14) = jf_X12_ask_B109 (kq_w T e - 32) τ ∧ jp_fr jy_FQ s2 τ ∧ ((kq_r T e).1 ≠ 0 → jy_K (kq_r T e).1 (kq_r T e).2.1 τ) ∧ ((kq_r T e).1 = 0 → jy_Q T e (kq_r T e).2.1 3 0 0 (kq_r T e).2.1 [] (kq_r T e).2.2 τ) := by
      have t2' : jf_X12_qKind s1 = some (kq_w T e - 32, s2) := t2
      rw [t2', jp_bd, if_pos f5]
      by_cases q : 34 < kq_w T e
      · have et : kq_t T e = 3 := if_pos q
        rw [et] at er
        obtain ⟨τ, u1, u2, u3, u4⟩ := jx12_qSums (d := 60) (by decide) (by decide) ⟨by decide, by decide, by decide, by decide⟩ (by decide) Q2
        rw [← er] at u3 u4
        rw [if_pos (by omega), jf_X12_ask_B98, if_pos f5, u1, jp_bd]
        exact ⟨τ, rfl, u2, fun z => (u3 z).1, u4⟩
      · have et : kq_t T e = 0 := if_neg q
        rw [et] at er
        obtain ⟨τ, u1, u2, u3, u4⟩ := jx12_qTest (d := 60) (by decide) (by decide) (by decide) Q2
        rw [← er] at u3 u4
        rw [if_neg (by omega), u1, jp_bd]
        exact ⟨τ, rfl, u2, u3, u4⟩
    obtain ⟨τ, u1, u2, u3, u4⟩ := key
    have Ft : jp_fr kr_FQ s τ := (F1.tr (kr_FkQ f2)).tr (kr_FyQ u2)
    have v1t : jl_g τ 206 1 = 0 := (u2.g _ _ (by decide)).trans v12
    refine ⟨kq_w T e - 32, ?_⟩
    rw [u1, jf_X12_ask_B109]
    by_cases z : (kq_r T e).1 = 0
    · have Q := u4 z
      obtain ⟨υ, w1, w2, w3, w4, -⟩ := jx12_look Q.1
      have V := Q.2.L w2 (by decide)
      have Fu : jp_fr kr_FQ s υ := Ft.tr (w2.ws (by intro c i h; simp [jp_in, kr_FQ] at h ⊢; omega))
      have v1u : jl_g υ 206 1 = 0 := (w2.g _ _ (by decide)).trans v1t
      have epc : jq_pc T e (kq_r T e) = jq_pk T e (kq_r T e).2.1 := by rw [jq_pc, jq_at0 z]
      rw [if_pos Q.1.2.2.2.1, w1, jp_bd]
      by_cases p : jq_pk T e (kq_r T e).2.1 = -1
      · have es : kq_st T e = kq_r T e := by rw [kq_st, if_pos c, if_pos (epc.trans p)]
        rw [if_pos p]
        refine ⟨υ, rfl, Fu, v1u, ?_⟩
        rw [kr_qP, es]
        exact ⟨fun _ => ⟨rfl, w3.2.2.2.1, w3.2.2.2.2.1, V.2.2.2.2.2.1, V.2.2.2.2.2.2.1⟩, fun y => absurd z y⟩
      · have es : kq_st T e = (1, (kq_r T e).2.1, (kq_r T e).2.2) := by rw [kq_st, if_pos c, if_neg (fun y => p (epc.symm.trans y)), jq_fl0 z, jq_at0 z]
        obtain ⟨φ, x1, x2, x3⟩ := jx12_fail (k := 1) (a := (kq_r T e).2.1) w3 (by decide) (by decide) (by have := w3.pe.1; omega)
        rw [if_neg p, w4, show jf_X12_fail 1 (((kq_r T e).2.1 : Nat) : Int) υ = some (0, φ) from x1, jp_bd]
        refine ⟨φ, rfl, Fu.tr (x2.ws (by intro c i h; simp [jp_in, kr_FQ] at h ⊢; omega)), (x2.g _ _ (by decide)).trans v1u, ?_⟩
        rw [kr_qP, es]
        exact ⟨fun y => absurd y (show (1 : Nat) ≠ 0 by decide), fun _ => x3.2⟩
    · have K := u3 z
      have es : kq_st T e = kq_r T e := by rw [kq_st, if_pos c, if_pos (by rw [jq_pc, jq_atk z]; exact jq_pk_end (Nat.le_refl _))]
      rw [if_neg (by rw [K.2.1]; omega)]
      refine ⟨τ, rfl, Ft, v1t, ?_⟩
      rw [kr_qP, es]
      exact ⟨fun y => absurd y z, fun _ => K.2⟩
  · obtain ⟨s2, t2, f2, K2⟩ := k2 c
    have es : kq_st T e = (1, jq_sk T e 0, []) := by rw [kq_st, if_neg c, kq_r, if_neg c, jq_fl0 (show (kq_s0 T e).1 = 0 from rfl), ep]; rfl
    have n5 : ¬ jl_g s2 206 5 = 0 := by rw [K2.2.1]; decide
    rw [t2, jp_bd, if_neg n5, jf_X12_ask_B98, if_neg n5, jf_X12_ask_B109, if_neg n5]
    refine ⟨5, s2, rfl, F1.tr (kr_FkQ f2), (f2.g _ _ (by decide)).trans v1, ?_⟩
    rw [kr_qP, es]
    exact ⟨fun y => absurd y (show (1 : Nat) ≠ 0 by decide), fun _ => K2.2⟩
