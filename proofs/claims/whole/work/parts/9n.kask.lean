/-! PURE, both: ask -/
/-- a fault is told, the tape goes -/
def kd_f (d : kD) (f p : Int) : kD := fun k => if k = 1 then (fun i => if i = 0 then f else p) else if k = 3 then ks_u (d 3) 0 0 else d k
theorem kd_f_n {d : kD} {f p : Int} {k : Nat} (h : k ≠ 1 ∧ k ≠ 3) : kd_f d f p k = d k := by rw [kd_f, if_neg h.1, if_neg h.2]
theorem kIv.f {Z : jz_Z} {Ds : Nat → List Int} {a : Nat → Int} {d : kD} {nx n : Nat} {f p : Int} (h : kIv Z Ds a d nx n) : kIv Z Ds a (kd_f d f p) nx n := by
  have e : ∀ k, k ≠ 1 ∧ k ≠ 3 → kd_f d f p k = d k := fun k h => kd_f_n h
  have e3 : kd_f d f p 3 0 = 0 := rfl
  obtain ⟨h1, h2, h3, h4, h5, h6, h7, h8, h9⟩ := h
  refine ⟨h1, h2, ?_, ?_, ?_, ?_, ?_, ?_, fun j hj => ?_⟩
  · rw [e3]; decide
  · rw [e3]; intro i hi; omega
  · rw [e 5 (by decide)]; exact h5
  · rw [e 5 (by decide), e 4 (by decide)]; exact h6
  · rw [e 7 (by decide)]; exact h7
  · rw [e 8 (by decide)]; exact h8
  · rw [e _ (by omega)]; exact h9 j hj
theorem kc_M.f {d : kD} {f p : Int} {s τ : jl_Mm} {F : jp_F} (h : kc_M d s) (fr : jp_fr F s τ) (w : ∀ c i, c = 205 ∨ (c = 200 ∧ i = 4) ∨ c = 201 ∨ c = 204 ∨ (c = 0 ∧ (i = 13 ∨ i = 17)) → jp_in F c i = false) (g : jl_g τ 0 15 = f ∧ jl_g τ 0 16 = p ∧ jl_g τ 1 1 = 0) : kc_M (kd_f d f p) τ := by
  have e : ∀ k, k ≠ 1 ∧ k ≠ 3 → kd_f d f p k = d k := fun k h => kd_f_n h
  have e3 : kd_f d f p 3 0 = 0 := rfl
  obtain ⟨h1, h2, h3, h4, h5, h6⟩ := h
  refine ⟨?_, ⟨g.1, g.2.1⟩, ⟨by rw [e3]; exact g.2.2, fun i hi => by omega⟩, ?_, ?_, ?_⟩
  · rw [e 0 (by decide)]; exact fun i hi => (fr.g _ _ (w _ _ (by omega))).trans (h1 i hi)
  · rw [e 5 (by decide), e 4 (by decide)]; exact ⟨(fr.g _ _ (w _ _ (by omega))).trans h4.1, fun i hi => (fr.g _ _ (w _ _ (by omega))).trans (h4.2 i hi)⟩
  · rw [e 7 (by decide), e 6 (by decide)]; exact ⟨(fr.g _ _ (w _ _ (by omega))).trans h5.1, fun i hi => (fr.g _ _ (w _ _ (by omega))).trans (h5.2 i hi)⟩
  · rw [e 8 (by decide)]; exact (fr.g _ _ (w _ _ (by omega))).trans h6
theorem kr_M.f {d : kD} {f p : Int} {s τ : jl_Mm} {F : jp_F} (h : kr_M d s) (fr : jp_fr F s τ) (w : ∀ c i, c = 208 ∨ c = 253 ∨ c = 285 ∨ (c = 206 ∧ (i = 65 ∨ i = 74 ∨ i = 110)) → jp_in F c i = false) (g : jl_g τ 206 7 = f ∧ jl_g τ 206 8 = p ∧ jl_g τ 206 1 = 0) : kr_M (kd_f d f p) τ := by
  have e : ∀ k, k ≠ 1 ∧ k ≠ 3 → kd_f d f p k = d k := fun k h => kd_f_n h
  have e3 : kd_f d f p 3 0 = 0 := rfl
  obtain ⟨h1, h2, h3, h4, h5, h6⟩ := h
  refine ⟨?_, ⟨g.1, g.2.1⟩, ⟨by rw [e3]; exact g.2.2, fun i hi => by omega⟩, ?_, ?_, ?_⟩
  · rw [e 0 (by decide)]; exact fun i hi => (fr.g _ _ (w _ _ (by omega))).trans (h1 i hi)
  · rw [e 5 (by decide), e 4 (by decide)]; exact ⟨(fr.g _ _ (w _ _ (by omega))).trans h4.1, fun i hi => (fr.g _ _ (w _ _ (by omega))).trans (h4.2 i hi)⟩
  · rw [e 7 (by decide), e 6 (by decide)]; exact ⟨(fr.g _ _ (w _ _ (by omega))).trans h5.1, fun i hi => (fr.g _ _ (w _ _ (by omega))).trans (h5.2 i hi)⟩
  · rw [e 8 (by decide)]; exact (fr.gl _ _ (w _ _ (by omega))).trans h6
/-- what the class's ask writes, the reference's -/
def kc_FY9 : jp_F := [(38, 0, 0), (3, 0, 0), (4, 0, 0), (5, 0, 0), (6, 0, 0), (7, 0, 0), (0, 15, 17), (1, 1, 2), (191, 0, 0), (192, 0, 0), (194, 0, 0)]
theorem kc_FY9n {c i : Nat} (h : (7 < c ∧ c < 38) ∨ (38 < c ∧ c < 191) ∨ 194 < c ∨ c = 193 ∨ (c = 0 ∧ (i < 15 ∨ 16 < i)) ∨ c = 2) : jp_in kc_FY9 c i = false := by simp [jp_in, kc_FY9]; omega
def kr_FY9 : jp_F := [(206, 1, 7), (206, 1, 9), (206, 10, 11), (206, 55, 56), (206, 57, 60), (206, 100, 105), (206, 106, 109), (250, 0, 0), (282, 0, 0), (283, 0, 0), (284, 0, 0)]
theorem kr_FY9n {c i : Nat} (h : c ≠ 250 ∧ c ≠ 282 ∧ c ≠ 283 ∧ c ≠ 284) (h2 : c = 206 → (i < 1 ∨ 8 < i) ∧ i ≠ 10 ∧ i ≠ 55 ∧ (i < 57 ∨ 59 < i) ∧ (i < 100 ∨ (104 < i ∧ i < 106) ∨ 108 < i)) : jp_in kr_FY9 c i = false := by simp [jp_in, kr_FY9]; omega
theorem kIc.f {Z : jz_Z} {Ds : Nat → List Int} {a : Nat → Int} {d : kD} {nx n : Nat} {f p : Int} {s τ : jl_Mm} (h : kIc Z Ds a d nx n s) (fr : jp_fr kc_FY9 s τ) (g : jl_g τ 0 15 = f ∧ jl_g τ 0 16 = p ∧ jl_g τ 1 1 = 0) (h5 : ∃ w : Nat, (w = 0 ∨ w = 1 ∨ w = 2) ∧ jl_g τ 3 5 = (w : Int)) : kIc Z Ds a (kd_f d f p) nx n τ := by
  obtain ⟨H, G, ⟨hW, hK, hA⟩, hG, ⟨g1, g2, g3⟩, hc, hM, hP⟩ := h
  refine ⟨H, G, ⟨hW.fr fr (kc_FY9n (by omega)) (kc_FY9n (by omega)) (fun c i _ _ => by simp [jp_in, kc_FY9]; omega), hK.fr hW.2.1 fr (fun c i _ _ => by simp [jp_in, kc_FY9]; omega), hA.fr fr (kc_FY9n (by omega)) (kc_FY9n (by omega)) (fun c i _ _ => kc_FY9n (by omega))⟩, hG.fr fr (fun c i _ _ => kc_FY9n (by omega)), ⟨(fr _ _ (kc_FY9n (by omega))).trans g1, g2, g3⟩, fun q hq => ?_, hM.f fr (fun c i hc => kc_FY9n (by omega)) g, ?_⟩
  · rcases hq with rfl | hq
    · exact h5
    · obtain ⟨v, hv, e⟩ := hc q (Or.inr hq)
      exact ⟨v, hv, (fr.g _ _ (kc_FY9n (by omega))).trans e⟩
  · obtain ⟨p1, p2, p3⟩ := hP.fr fr (fun c i _ _ => kc_FY9n (by omega))
    refine ⟨p1, p2, fun j hj => ?_⟩
    rw [kd_f_n (by omega)]; exact p3 j hj
theorem kIr.f {Z : jz_Z} {Ds : Nat → List Int} {a : Nat → Int} {d : kD} {nx n : Nat} {f p : Int} {s τ : jl_Mm} (h : kIr Z Ds a d nx n s) (fr : jp_fr kr_FY9 s τ) (g : jl_g τ 206 7 = f ∧ jl_g τ 206 8 = p ∧ jl_g τ 206 1 = 0) : kIr Z Ds a (kd_f d f p) nx n τ := by
  obtain ⟨hN, hM, ⟨h1, h2, h3⟩, hW, hn⟩ := h
  refine ⟨⟨hN.1.fr fr (fun c i _ _ => kr_FY9n (by omega) (by omega)), hN.2.1.fr fr (fun c i _ _ => kr_FY9n (by omega) (by omega)), hN.2.2.1.fr fr (fun i => kr_FY9n (by omega) (by omega)), (fr.g _ _ (kr_FY9n (by omega) (by omega))).trans hN.2.2.2.1, (fr.g _ _ (kr_FY9n (by omega) (by omega))).trans hN.2.2.2.2⟩, hM.f fr (fun c i hc => kr_FY9n (by omega) (by omega)) g, ⟨(fr.g _ _ (kr_FY9n (by omega) (by omega))).trans h1, (fr.g _ _ (kr_FY9n (by omega) (by omega))).trans h2, fun j hj i hi => ?_⟩, hW.fr fr (fun c i hc => kr_FY9n (by rcases hc with hc | hc <;> omega) (by rcases hc with hc | hc <;> omega)), ⟨fun i hi => ⟨(fr.gl _ _ (kr_FY9n (by omega) (by omega))).trans (hn.1 i hi).1, (hn.1 i hi).2⟩, fun i hi => ⟨(fr.gl _ _ (kr_FY9n (by omega) (by omega))).trans (hn.2 i hi).1, (hn.2 i hi).2⟩⟩⟩
  rw [kd_f_n (by omega)]
  exact (fr.g _ _ (kr_FY9n (by omega) (by intro z; omega))).trans (h3 j hj i hi)
def kq_f (T : Nat → Int) (e : Nat) : Int := ((kq_st T e).1 : Int)
def kq_p (T : Nat → Int) (e : Nat) : Int := if (kq_st T e).1 = 0 then -1 else ((kq_st T e).2.1 : Int)
theorem kI_ask : kI_call jf_X11_ask jf_X12_ask := kI_mkV (fun Z Ds a d nx n hZ hV => by
  have h3 := hV.2.2.1
  obtain ⟨x, hx⟩ : ∃ x : Nat, d 3 0 = (x : Int) := ⟨(d 3 0).toNat, by omega⟩
  have hx2 : x ≤ 1600 := by omega
  by_cases hw : 0 < ks_nw Z
  · have hd : kIv Z Ds a (kd_f d (kq_f (d 2) x) (kq_p (d 2) x)) nx n := hV.f
    refine ⟨if (kq_st (d 2) x).1 = 0 then kq_a (kq_w (d 2) x) (kq_v Z Ds a (kq_st (d 2) x).2.2) (ks_nl Z) else -1000000000000000, kc_FY9, kr_FY9, Z, Ds, a, _, nx, n, fun c i hc => kc_FY9n (by omega), fun c i hc => kr_FY9n (by omega) (by omega), hd, fun s hs => ?_, fun s hs => ?_⟩
    · have M := hs.M
      obtain ⟨H, hN, hG⟩ := hs.nA
      have hcur : kc_cur s := by obtain ⟨_, _, -, -, -, hc, -⟩ := hs; exact hc
      have P : jq_P (d 2) x s := ⟨hx2, M.2.2.1.1.trans hx, fun i hi => M.2.2.1.2 i (by omega)⟩
      obtain ⟨s1, t1, f1, p1, ⟨p2, p3⟩, p4⟩ := kc_readQ P (hcur 3 (Or.inl rfl))
      have F1 : jp_fr kc_FY9 s s1 := f1.w (by decide)
      have n1 := jp_gn s1 38 7
      have n2 := jp_gn s1 38 8
      rw [p2] at n1
      rw [p3] at n2
      have n2 : jl_n3 (kq_p (d 2) x) := n2
      have e2 : jl_g (jl_up s1 0 15 ((kq_st (d 2) x).1 : Int)) 38 8 = kq_p (d 2) x := by rw [jp_g_ne (by decide)]; exact p3
      have F2 : jp_fr kc_FY9 s (jl_up (jl_up (jl_up s1 0 15 ((kq_st (d 2) x).1 : Int)) 0 16 (kq_p (d 2) x)) 1 1 0) := ((F1.up (by decide)).up (by decide)).up (by decide)
      have f2 : jp_fr [(0, 15, 17), (1, 1, 2)] s1 (jl_up (jl_up (jl_up s1 0 15 ((kq_st (d 2) x).1 : Int)) 0 16 (kq_p (d 2) x)) 1 1 0) := ((jp_fr.rf.up (by decide)).up (by decide)).up (by decide)
      have g15 : jl_g (jl_up (jl_up (jl_up s1 0 15 ((kq_st (d 2) x).1 : Int)) 0 16 (kq_p (d 2) x)) 1 1 0) 0 15 = kq_f (d 2) x := by rw [jp_g_ne (by decide), jp_g_nei (by decide), jp_g_eq n1.1 n1.2]; rfl
      have g16 : jl_g (jl_up (jl_up (jl_up s1 0 15 ((kq_st (d 2) x).1 : Int)) 0 16 (kq_p (d 2) x)) 1 1 0) 0 16 = kq_p (d 2) x := by rw [jp_g_ne (by decide), jp_g_eq n2.1 n2.2]
      have g11 : jl_g (jl_up (jl_up (jl_up s1 0 15 ((kq_st (d 2) x).1 : Int)) 0 16 (kq_p (d 2) x)) 1 1 0) 1 1 = 0 := jp_g_eq (by decide) (by decide)
      have z : ∀ k t, jf_X11_ask_B64 k t = some (k, t) := fun _ _ => rfl
      rw [jf_X11_ask, kc_has hN.1, jp_bd, if_pos hw, if_neg (by decide), t1, jp_bd, jf_X11_takeFault, p2, jp_lm, e2, jp_lm, jp_lm, jp_bd, g15]
      generalize jl_up (jl_up (jl_up s1 0 15 ((kq_st (d 2) x).1 : Int)) 0 16 (kq_p (d 2) x)) 1 1 0 = s2 at *
      have nf2 : ∀ {c i : Nat}, c ≠ 0 → c ≠ 1 → jp_in [(0, 15, 17), (1, 1, 2)] c i = false := by intro c i h1 h2; simp [jp_in]; omega
      have cur2 : ∃ w : Nat, (w = 0 ∨ w = 1 ∨ w = 2) ∧ jl_g s2 3 5 = (w : Int) := by
        obtain ⟨w, w1, w2⟩ := p1
        exact ⟨w, w1, (f2.g _ _ (nf2 (by omega) (by omega))).trans w2⟩
      by_cases c : (kq_st (d 2) x).1 = 0
      · obtain ⟨y1, y2, y3, y4⟩ := kq_st0 c
        have ty := kq_ty c
        have C2 : kc_C 3 0 (kq_st (d 2) x).2.2 s2 := (p4 c).fr f2 (fun c i _ _ => nf2 (by omega) (by omega))
        have N2 : kc_N H Z Ds a s2 := ⟨hN.1.fr F2 (kc_FY9n (by omega)) (kc_FY9n (by omega)) (fun c i _ _ => by simp [jp_in, kc_FY9]; omega), hN.2.1.fr hN.1.2.1 F2 (fun c i _ _ => by simp [jp_in, kc_FY9]; omega), hN.2.2.fr F2 (kc_FY9n (by omega)) (kc_FY9n (by omega)) (fun c i _ _ => kc_FY9n (by omega))⟩
        obtain ⟨s3, t3, f3, -⟩ := kc_answer (w := kq_w (d 2) x) N2 hV.1 hw C2 ty.1 ⟨y1, by have := kq_w_hi (T := d 2) (e := x); omega⟩
        rw [if_pos (show kq_f (d 2) x = 0 by rw [kq_f, c]; rfl), t3, jp_bd, z, if_pos c]
        refine ⟨s3, rfl, F2.tr (f3.w (by decide)), hs.f (F2.tr (f3.w (by decide))) ⟨(f3.g _ _ (by decide)).trans g15, (f3.g _ _ (by decide)).trans g16, (f3.g _ _ (by decide)).trans g11⟩ ?_⟩
        obtain ⟨w, w1, w2⟩ := cur2
        exact ⟨w, w1, (f3.g _ _ (by decide)).trans w2⟩
      · rw [if_neg (show ¬ kq_f (d 2) x = 0 by rw [kq_f]; omega), z, if_neg c]
        exact ⟨s2, rfl, F2, hs.f F2 ⟨g15, g16, g11⟩ cur2⟩
    · have M := hs.2.1
      have h54 : jl_g s 206 54 ≠ 0 := by rw [hs.1.2.2.2.2, if_pos hw]; decide
      obtain ⟨κ, s1, t1, f1, v1, q1, q2⟩ := kr_readQ hx2 (M.2.2.1.1.trans hx) (fun i hi => M.2.2.1.2 i (by omega)) hs.2.2.2.1 h54
      have F1 : jp_fr kr_FY9 s s1 := f1.w (by decide)
      have g5 : jl_g s1 206 5 = kq_f (d 2) x ∧ jl_g s1 206 6 = kq_p (d 2) x := by
        rw [kq_f, kq_p]
        by_cases c : (kq_st (d 2) x).1 = 0
        · obtain ⟨-, a1, a2, -⟩ := q1 c
          rw [if_pos c, c]; exact ⟨a1, a2⟩
        · rw [if_neg c]; exact q2 c
      have n1 := jp_gn s1 206 5
      have n2 := jp_gn s1 206 6
      rw [g5.1] at n1
      rw [g5.2] at n2
      have e6 : jl_g (jl_up s1 206 7 (kq_f (d 2) x)) 206 6 = kq_p (d 2) x := by rw [jp_g_nei (by decide)]; exact g5.2
      have F2 : jp_fr kr_FY9 s (jl_up (jl_up s1 206 7 (kq_f (d 2) x)) 206 8 (kq_p (d 2) x)) := (F1.up (by decide)).up (by decide)
      have f2 : jp_fr [(206, 7, 9)] s1 (jl_up (jl_up s1 206 7 (kq_f (d 2) x)) 206 8 (kq_p (d 2) x)) := (jp_fr.rf.up (by decide)).up (by decide)
      have g7 : jl_g (jl_up (jl_up s1 206 7 (kq_f (d 2) x)) 206 8 (kq_p (d 2) x)) 206 7 = kq_f (d 2) x := by rw [jp_g_nei (by decide), jp_g_eq n1.1 n1.2]
      have g8 : jl_g (jl_up (jl_up s1 206 7 (kq_f (d 2) x)) 206 8 (kq_p (d 2) x)) 206 8 = kq_p (d 2) x := jp_g_eq n2.1 n2.2
      have g5' : jl_g (jl_up (jl_up s1 206 7 (kq_f (d 2) x)) 206 8 (kq_p (d 2) x)) 206 5 = kq_f (d 2) x := by rw [jp_g_nei (by decide), jp_g_nei (by decide)]; exact g5.1
      rw [t1, jf_X12_ask_B133, g5.1, jp_lm, e6, jp_lm, g5']
      generalize jl_up (jl_up s1 206 7 (kq_f (d 2) x)) 206 8 (kq_p (d 2) x) = s2 at *
      have nf2 : ∀ {c i : Nat}, (c = 206 → i ≠ 7 ∧ i ≠ 8) → jp_in [(206, 7, 9)] c i = false := by intro c i h; simp [jp_in]; omega
      have g1 : jl_g s2 206 1 = 0 := (f2.g _ _ (nf2 (by omega))).trans v1
      by_cases c : (kq_st (d 2) x).1 = 0
      · obtain ⟨y1, y2, y3, y4⟩ := kq_st0 c
        obtain ⟨a0, -, -, a1, a2⟩ := q1 c
        have ty := kq_ty c
        have hi := kq_w_hi (T := d 2) (e := x)
        have N2 : kr_N Z Ds a s2 := ⟨hs.1.1.fr F2 (fun c i _ _ => kr_FY9n (by omega) (by omega)), hs.1.2.1.fr F2 (fun c i _ _ => kr_FY9n (by omega) (by omega)), hs.1.2.2.1.fr F2 (fun i => kr_FY9n (by omega) (by omega)), (F2.g _ _ (kr_FY9n (by omega) (by omega))).trans hs.1.2.2.2.1, (F2.g _ _ (kr_FY9n (by omega) (by omega))).trans hs.1.2.2.2.2⟩
        have hT : jq_ty (kq_st (d 2) x).2.2 [] = some [decide (κ < 3)] := by
          rw [ty.1, kq_t]
          congr 2
          by_cases q : 34 < kq_w (d 2) x
          · rw [if_pos q, decide_eq_false (show ¬ (3 : Nat) ≤ 2 by decide), decide_eq_false (show ¬ κ < 3 by omega)]
          · rw [if_neg q, decide_eq_true (show (0 : Nat) ≤ 2 by decide), decide_eq_true (show κ < 3 by omega)]
        obtain ⟨s3, t3, f3, -⟩ := kr_answer (k := κ) N2 hV.1 hT (by omega) (by have := ty.2.2; omega) ((f2.g _ _ (nf2 (by omega))).trans a1) (fun i hi => (f2.g _ _ (nf2 (by omega))).trans (a2 i hi))
        have ew : κ + 32 = kq_w (d 2) x := by omega
        rw [ew] at t3
        have key : (if 2 ≤ κ then jf_X12_ask_B173 κ 0 s2 else jf_X12_ask_B173 κ (-1) s2) = some (kq_a (kq_w (d 2) x) (kq_v Z Ds a (kq_st (d 2) x).2.2) (ks_nl Z), s3) := by
          rw [← t3, kq_a0]
          by_cases q : 2 ≤ κ
          · rw [if_pos q, if_neg (show ¬ (kq_w (d 2) x = 32 ∨ kq_w (d 2) x = 33) by omega)]
          · rw [if_neg q, if_pos (show kq_w (d 2) x = 32 ∨ kq_w (d 2) x = 33 by omega)]
        rw [if_pos (show kq_f (d 2) x = 0 by rw [kq_f, c]; rfl), key, if_pos c]
        have f3' : jp_fr kr_FY9 s2 s3 := f3.w (by decide)
        exact ⟨s3, rfl, F2.tr f3', hs.f (F2.tr f3') ⟨(f3.g _ _ (by decide)).trans g7, (f3.g _ _ (by decide)).trans g8, (f3.g _ _ (by decide)).trans g1⟩⟩
      · rw [if_neg (show ¬ kq_f (d 2) x = 0 by rw [kq_f]; omega), if_neg c]
        exact ⟨s2, rfl, F2, hs.f F2 ⟨g7, g8, g1⟩⟩
  · refine ⟨-1000000000000000, [(1, 1, 2)], [(206, 1, 2)], Z, Ds, a, kd_len d, nx, n, by intro c i h; simp [jp_in]; omega, by intro c i h; simp [jp_in]; omega, hV.len, fun s hs => ?_, fun s hs => ?_⟩
    · have M := hs.M
      obtain ⟨H, hN, hG⟩ := hs.nA
      have f1 : jp_fr [(1, 1, 2)] s (jl_up s 1 1 0) := jp_fr.rf.up (by decide)
      rw [jf_X11_ask, kc_has hN.1, jp_bd, if_neg hw, if_pos rfl, jp_lm]
      exact ⟨_, rfl, f1, hs.m f1 (by intro c i h1 h2; simp [jp_in]; omega) ⟨by decide, by decide⟩ (fun k hk => kd_n (by omega)) M.len⟩
    · have M := hs.2.1
      have f1 : jp_fr [(206, 1, 2)] s (jl_up s 206 1 0) := jp_fr.rf.up (by decide)
      have h54 : jl_g s 206 54 = 0 := by rw [hs.1.2.2.2.2, if_neg hw]
      rw [jf_X12_ask, if_pos h54, jp_lm]
      exact ⟨_, rfl, f1, hs.m f1 (by intro c i h1 h2; simp [jp_in]; omega) (by intro c i h1 h2; simp [jp_in]; omega) ⟨by decide, by decide, by decide, by decide⟩ (fun k hk => kd_n (by omega)) M.len⟩)
