/-! PURE, both: chance, undo -/
theorem kd_self {d : kD} {k i : Nat} : kd_u d k i (d k i) = d := by
  funext k' i'
  by_cases c : k' = k
  · subst c
    by_cases e : i' = i
    · subst e; rw [kd_e]
    · rw [kd_ni e]
  · rw [kd_n c]
theorem kIv.seed {Z : jz_Z} {Ds : Nat → List Int} {a : Nat → Int} {d : kD} {nx n : Nat} {v : Int} (hV : kIv Z Ds a d nx n) (hv : 0 ≤ v ∧ v < 2147483648) : kIv Z Ds a (kd_u d 8 0 v) nx n := by
  have e : ∀ k, k ≠ 8 → kd_u d 8 0 v k = d k := fun k h => kd_n h
  have e3 : kd_u d 8 0 v 8 0 = v := kd_e
  obtain ⟨h1, h2, h3, h4, h5, h6, h7, h8, h9⟩ := hV
  refine ⟨h1, h2, ?_, ?_, ?_, ?_, ?_, ?_, fun j hj => ?_⟩
  · rw [e 3 (by decide)]; exact h3
  · rw [e 3 (by decide), e 2 (by decide)]; exact h4
  · rw [e 5 (by decide)]; exact h5
  · rw [e 5 (by decide), e 4 (by decide)]; exact h6
  · rw [e 7 (by decide)]; exact h7
  · rw [e3]; omega
  · rw [e _ (by omega)]; exact h9 j hj
theorem kI_act2 {fc fr : jl_Mm → jl_O} (h : ∀ Z Ds a d nx n, kIv Z Ds a d nx n →
    (∃ r k, k < 6 ∧ (∀ s, kIc Z Ds a d nx n s → fc s = some (r, jl_up s 205 k (jl_add (jl_g s 205 k) 1))) ∧ (∀ s, kIr Z Ds a d nx n s → fr s = some (r, jl_up s 208 k (jl_add (jl_g s 208 k) 1)))) ∨
    (∃ r a' d', kIv Z Ds a' d' ((nx + 1) % 20) (kn_1 n) ∧ (∀ s, kIc Z Ds a d nx n s → ∃ g : Int → jl_Mm → jl_O, fc s = jl_bd (jf_X3_remember 40 44 s) g ∧ ∀ t, kIc Z Ds a (kd_keep d nx a) ((nx + 1) % 20) (kn_1 n) t → jE (g 0 t) r kc_FY t (kIc Z Ds a' d' ((nx + 1) % 20) (kn_1 n))) ∧
      (∀ s, kIr Z Ds a d nx n s → ∃ g : Int → jl_Mm → jl_O, fr s = jl_bd (jf_X12_keeps s) g ∧ ∀ t, kIr Z Ds a (kd_keep d nx a) ((nx + 1) % 20) (kn_1 n) t → jE (g 0 t) r kr_FY t (kIr Z Ds a' d' ((nx + 1) % 20) (kn_1 n))))) : kI_call fc fr := by
  refine kI_mk (fun Z Ds a d nx n hv => ?_)
  rcases h Z Ds a d nx n hv with ⟨r, k, hk, h1, h2⟩ | ⟨r, a', d', hv', h1, h2⟩
  · exact ⟨r, [(205, 0, 0)], [(208, 0, 0)], Z, Ds, a, kd_no d k, nx, n, by intro c i h; simp [jp_in]; omega, by intro c i h; simp [jp_in]; omega, hv.no, fun s hs => ⟨_, h1 s hs, jp_fr.rf.up (by simp [jp_in]), hs.no hk⟩, fun s hs => ⟨_, h2 s hs, jp_fr.rf.up (by simp [jp_in]), hs.no hk⟩⟩
  · have hnx := hv.2.1.1
    refine ⟨r, kc_FS nx ++ kc_FY, kr_FS ++ kr_FY, Z, Ds, a', d', (nx + 1) % 20, kn_1 n, fun c i h => ?_, fun c i h => ?_, hv', fun s hs => ?_, fun s hs => ?_⟩
    · have e : jp_in kc_FY c i = false := by simp [jp_in, kc_FY]; omega
      rw [jp_in_app, kc_FSn (by omega) (by omega), e]; rfl
    · have e : jp_in kr_FS c i = false := by simp [jp_in, kr_FS]; omega
      have e2 : jp_in kr_FY c i = false := by simp [jp_in, kr_FY]; omega
      rw [jp_in_app, e, e2]; rfl
    · obtain ⟨g, g1, g2⟩ := h1 s hs
      obtain ⟨t, t1, t2, t3⟩ := kc_remember hv hs
      obtain ⟨τ, u1, u2, u3⟩ := g2 t t3
      rw [g1, t1, jp_bd, u1]
      exact ⟨τ, rfl, t2.app u2, u3⟩
    · obtain ⟨g, g1, g2⟩ := h2 s hs
      obtain ⟨t, t1, t2, t3⟩ := kr_keeps hv hs
      obtain ⟨τ, u1, u2, u3⟩ := g2 t t3
      rw [g1, t1, jp_bd, u1]
      exact ⟨τ, rfl, t2.app u2, u3⟩
theorem kI_chance {v : Int} (hv : jl_n3 v) : kI_call (jf_X11_chance v) (jf_X12_chance v) := kI_act2 (fun Z Ds a d nx n hV => by
  have h0 := hV.1.1.1
  have hsd := hV.2.2.2.2.2.2.2.1
  by_cases hZ : kz_V Z
  case neg => exact Or.inr ⟨1, a, kd_keep d nx a, hV.keep, fun s hs => absurd hs.N hZ, fun s hs => absurd hs.1.1.1 hZ⟩
  by_cases c : 0 < ks_nw Z ∧ 1 ≤ v ∧ v ≤ 100 ∧ a 0 + v ≤ 999
  · right
    obtain ⟨m, rfl⟩ : ∃ m : Nat, v = (m : Int) := ⟨v.toNat, by omega⟩
    have K := ks_gu_N (Ds := Ds) hZ hV.1 hsd
    have Km := K m (by omega)
    have e8 : kd_u (kd_keep d nx a) 8 0 (d 8 0) = kd_keep d nx a := by
      have := kd_self (d := kd_keep d nx a) (k := 8) (i := 0)
      rwa [kd_keep_n (k := 8) (by decide)] at this
    refine ⟨(ks_gu Z Ds a (d 8 0) m).2.2, (ks_gu Z Ds a (d 8 0) m).1, kd_u (kd_keep d nx a) 8 0 (ks_gu Z Ds a (d 8 0) m).2.1, (hV.keep.a Km.1).seed Km.2.2.1, fun s hs => ?_, fun s hs => ?_⟩
    · obtain ⟨H, ⟨hW, hK, hA⟩, hG⟩ := hs.nA
      have ec : (if 1 ≤ (m : Int) ∧ (m : Int) ≤ 100 ∧ a 0 + (m : Int) ≤ 999 then (1 : Int) else 0) = 1 := if_pos c.2
      refine ⟨fun _ s10 => jf_X11_chance_L46 jl_fu (m : Int) 0 0 s10, by rw [jf_X11_chance, kc_has hW, jp_bd, if_pos c.1, if_neg (by decide), kc_comes hA h0, jp_bd, ec, if_neg (by decide)], fun t ht => ?_⟩
      show jE (jf_X11_chance_L46 jl_fu (m : Int) 0 0 t) _ _ _ _
      refine ku_for (α := jl_Mm) (G := fun k l τ => jf_X11_chance_L46 k (m : Int) (ks_gu Z Ds a (d 8 0) l).2.2 ((l : Nat) : Int) τ) (N := m) (P := fun o => jE o (ks_gu Z Ds a (d 8 0) m).2.2 kc_FY t (kIc Z Ds (ks_gu Z Ds a (d 8 0) m).1 (kd_u (kd_keep d nx a) 8 0 (ks_gu Z Ds a (d 8 0) m).2.1) ((nx + 1) % 20) (kn_1 n))) (I := fun l τ => jp_fr kc_FY t τ ∧ kIc Z Ds (ks_gu Z Ds a (d 8 0) l).1 (kd_u (kd_keep d nx a) 8 0 (ks_gu Z Ds a (d 8 0) l).2.1) ((nx + 1) % 20) (kn_1 n) τ) (fun k l τ hl hI => Or.inr ?_) (fun k τ hI => ?_) m 0 jl_fu t (Nat.zero_add _) (by show m < 4000; omega) ⟨jp_fr.rf, by show kIc Z Ds a (kd_u (kd_keep d nx a) 8 0 (d 8 0)) _ _ t; rw [e8]; exact ht⟩
      · obtain ⟨hf, hI⟩ := hI
        have Kl := K l (by omega)
        obtain ⟨υ, u1, u2, u3⟩ := kc_gu1 (k := k) (l := l) (m := m) hI Kl.1 (by omega) Kl.2.2.1 c.1 hl (by omega) (by omega)
        exact ⟨υ, u1, hf.tr u2, u3⟩
      · show jE (jf_X11_chance_L46 (k + 1) (m : Int) (ks_gu Z Ds a (d 8 0) m).2.2 (m : Int) τ) _ _ _ _
        rw [jf_X11_chance_L46, if_pos (Int.le_refl _)]
        exact ⟨τ, rfl, hI.1, hI.2⟩
    · have hA := hs.1.2.2.1
      have h54 := hs.1.2.2.2.2
      have ec : (if 0 < ks_nw Z ∧ 1 ≤ (m : Int) ∧ (m : Int) ≤ 100 ∧ a 0 + (m : Int) ≤ 999 then (1 : Int) else 0) = 1 := if_pos c
      refine ⟨fun _ s5 => jf_X12_chance_L25 jl_fu (m : Int) 0 0 s5, by rw [jf_X12_chance, kr_ahead h54 hA ⟨h0.1, hV.1.2.2.1⟩ hv (by decide) (by decide), jp_bd, ec, if_neg (by decide)], fun t ht => ?_⟩
      show jE (jf_X12_chance_L25 jl_fu (m : Int) 0 0 t) _ _ _ _
      refine ku_for (α := jl_Mm) (G := fun k l τ => jf_X12_chance_L25 k (m : Int) (ks_gu Z Ds a (d 8 0) l).2.2 ((l : Nat) : Int) τ) (N := m) (P := fun o => jE o (ks_gu Z Ds a (d 8 0) m).2.2 kr_FY t (kIr Z Ds (ks_gu Z Ds a (d 8 0) m).1 (kd_u (kd_keep d nx a) 8 0 (ks_gu Z Ds a (d 8 0) m).2.1) ((nx + 1) % 20) (kn_1 n))) (I := fun l τ => jp_fr kr_FY t τ ∧ kIr Z Ds (ks_gu Z Ds a (d 8 0) l).1 (kd_u (kd_keep d nx a) 8 0 (ks_gu Z Ds a (d 8 0) l).2.1) ((nx + 1) % 20) (kn_1 n) τ) (fun k l τ hl hI => Or.inr ?_) (fun k τ hI => ?_) m 0 jl_fu t (Nat.zero_add _) (by show m < 4000; omega) ⟨jp_fr.rf, by show kIr Z Ds a (kd_u (kd_keep d nx a) 8 0 (d 8 0)) _ _ t; rw [e8]; exact ht⟩
      · obtain ⟨hf, hI⟩ := hI
        have Kl := K l (by omega)
        obtain ⟨υ, u1, u2, u3⟩ := kr_gu1 (k := k) (l := l) (m := m) hI Kl.1 Kl.2.2.1 c.1 hl (by omega) (by omega)
        exact ⟨υ, u1, hf.tr u2, u3⟩
      · show jE (jf_X12_chance_L25 (k + 1) (m : Int) (ks_gu Z Ds a (d 8 0) m).2.2 (m : Int) τ) _ _ _ _
        rw [jf_X12_chance_L25, if_pos (Int.le_refl _)]
        exact ⟨τ, rfl, hI.1, hI.2⟩
  · left
    refine ⟨-1, 3, by decide, fun s hs => ?_, fun s hs => ?_⟩
    · obtain ⟨H, ⟨hW, hK, hA⟩, hG⟩ := hs.nA
      have u : ∀ t, jf_X11_refuse 3 t = _ := fun t => kc_refuse (k := 3) (s := t) (by decide)
      have z : jf_X11_chance_B21 s = some (-1, jl_up s 205 3 (jl_add (jl_g s 205 3) 1)) := by rw [jf_X11_chance_B21, u, jp_bd]
      rw [jf_X11_chance, kc_has hW, jp_bd, z]
      by_cases c1 : 0 < ks_nw Z
      · have ec : (if 1 ≤ v ∧ v ≤ 100 ∧ a 0 + v ≤ 999 then (1 : Int) else 0) = 0 := if_neg (fun q => c ⟨c1, q⟩)
        rw [if_pos c1, if_neg (by decide), kc_comes hA h0, jp_bd, ec, if_pos rfl, z]
      · rw [if_neg c1, if_pos rfl]
    · have hA := hs.1.2.2.1
      have h54 := hs.1.2.2.2.2
      have u : ∀ t, jf_X12_refuses 3 t = _ := fun t => kr_refuses (k := 3) (s := t) (by decide)
      have ec : (if 0 < ks_nw Z ∧ 1 ≤ v ∧ v ≤ 100 ∧ a 0 + v ≤ 999 then (1 : Int) else 0) = 0 := if_neg c
      rw [jf_X12_chance, kr_ahead h54 hA ⟨h0.1, hV.1.2.2.1⟩ hv (by decide) (by decide), jp_bd, ec, if_pos rfl, u, jp_bd])
def kc_FU : jp_F := [(47, 2, 4), (40, 0, 2), (41, 0, 0), (42, 0, 0), (43, 0, 0), (44, 2, 4), (45, 0, 0), (46, 0, 0)]
theorem kc_FUn {c i : Nat} (h : c < 40 ∨ 47 < c) : jp_in kc_FU c i = false := by simp [jp_in, kc_FU]; omega
theorem kc_recall {Z : jz_Z} {Ds : Nat → List Int} {a : Nat → Int} {d : kD} {nx n : Nat} {s : jl_Mm} (hv : kIv Z Ds a d nx n) (h : kIc Z Ds a d nx n s) (hn : 0 < n) : jE (jf_X3_recall 40 44 s) 1 kc_FU s (kIc Z Ds (d (10 + nx)) d ((nx + 19) % 20) (n - 1)) := by
  have h20 := hv.2.1
  obtain ⟨H, G, hN, hG, hg, hc, hM, p1, p2, p3⟩ := h
  have hm : (nx + 19) % 20 < 20 := Nat.mod_lt _ (by decide)
  have e1 : jl_sub (n : Int) 1 = ((n - 1 : Nat) : Int) := by rw [jp_sub (by omega) (by omega)]; omega
  have e2 : jl_rem (jl_sub (jl_add (nx : Int) 20) 1) 20 = (((nx + 19) % 20 : Nat) : Int) := by
    rw [jp_add (by omega) (by omega), jp_sub (by omega) (by omega), show (nx : Int) + 20 - 1 = ((nx + 19 : Nat) : Int) by omega, ku_rem20 _ (by omega)]
  have f1 : jp_fr [(47, 2, 4)] s (jl_up (jl_up s 47 3 ((n - 1 : Nat) : Int)) 47 2 (((nx + 19) % 20 : Nat) : Int)) := (jp_fr.rf.up (by decide)).up (by decide)
  have n1 : ∀ {c i : Nat}, c ≠ 47 → jp_in [(47, 2, 4)] c i = false := by intro c i h; simp [jp_in]; omega
  have g2 : jl_g (jl_up (jl_up s 47 3 ((n - 1 : Nat) : Int)) 47 2 (((nx + 19) % 20 : Nat) : Int)) 47 2 = (((nx + 19) % 20 : Nat) : Int) := jp_g_eq (by omega) (by omega)
  have g3 : jl_g (jl_up (jl_up s 47 3 ((n - 1 : Nat) : Int)) 47 2 (((nx + 19) % 20 : Nat) : Int)) 47 3 = ((n - 1 : Nat) : Int) := by rw [jp_g_nei (by decide), jp_g_eq (by omega) (by omega)]
  have g0 : jl_g (jl_up s 47 3 ((n - 1 : Nat) : Int)) 47 2 = (nx : Int) := by rw [jp_g_nei (by decide)]; exact p1
  rw [jf_X3_recall, if_pos (by decide +kernel), if_pos (by decide +kernel), p2, if_neg (by omega), e1, jp_lm, g0, e2, jp_lm]
  generalize jl_up (jl_up s 47 3 ((n - 1 : Nat) : Int)) 47 2 (((nx + 19) % 20 : Nat) : Int) = s1 at *
  obtain ⟨x0, y0⟩ := p3 0 hn
  rw [show (nx + 19 - 0) % 20 = (nx + 19) % 20 by omega, show (nx + 20 - 0) % 20 = nx by omega] at x0 y0
  have kd := kc_kd7 ((nx + 19) % 20) hm
  have X1 := x0.fr f1 (n1 (by omega)) (n1 (by omega)) (fun c i _ _ => n1 (by omega))
  have Y1 := y0.fr f1 (fun c i _ _ => n1 (by omega))
  obtain ⟨s2, t2, f2, A2⟩ := kc_copy (q := 50 + 7 * ((nx + 19) % 20)) (d := 40) kd.1 (by decide +kernel) X1 (by omega)
  have n2 : ∀ {c i : Nat}, c < 40 ∨ 43 < c → jp_in [(40, 0, 2), (40 + 1, 0, 0), (40 + 2, 0, 0), (40 + 3, 0, 0)] c i = false := by intro c i h; simp [jp_in]; omega
  obtain ⟨s3, t3, f3, G3⟩ := kc_copyG (q := 54 + 7 * ((nx + 19) % 20)) (d := 44) kd.2 (by decide +kernel) (Y1.fr f2 (fun c i _ _ => n2 (by omega))) (by omega)
  have n3 : ∀ {c i : Nat}, c < 44 ∨ 46 < c → jp_in [(44, 2, 4), (44 + 1, 0, 0), (44 + 2, 0, 0)] c i = false := by intro c i h; simp [jp_in]; omega
  rw [g2, if_pos (by omega), Int.toNat_natCast, t2, jp_bd, f2.g _ _ (n2 (by omega)), g2, if_pos (by omega), Int.toNat_natCast, t3, jp_bd, jp_zb1]
  have F : jp_fr kc_FU s s3 := (f1.w (by decide)).tr ((f2.w (by decide)).tr (f3.w (by decide)))
  refine ⟨s3, rfl, F, H, G, ⟨hN.1.fr F (kc_FUn (by omega)) (kc_FUn (by omega)) (fun c i _ _ => kc_FUn (by omega)), hN.2.1.fr hN.1.2.1 F (fun c i _ _ => kc_FUn (by omega)), A2.fr f3 (n3 (by omega)) (n3 (by omega)) (fun c i _ _ => n3 (by omega))⟩, G3, ⟨(F _ _ (kc_FUn (by omega))).trans hg.1, hg.2⟩, fun q hq => ?_, hM.fr3 F (fun c i _ _ => kc_FUn (by omega)), ?_, ?_, fun j hj => ?_⟩
  · obtain ⟨v, hv, e⟩ := hc q hq
    exact ⟨v, hv, (F.g _ _ (kc_FUn (by omega))).trans e⟩
  · rw [f3.g _ _ (n3 (by omega)), f2.g _ _ (n2 (by omega))]; exact g2
  · rw [f3.g _ _ (n3 (by omega)), f2.g _ _ (n2 (by omega))]; exact g3
  · obtain ⟨x, y⟩ := p3 (j + 1) (by omega)
    rw [show ((nx + 19) % 20 + 19 - j) % 20 = (nx + 19 - (j + 1)) % 20 by omega, show ((nx + 19) % 20 + 20 - j) % 20 = (nx + 20 - (j + 1)) % 20 by omega]
    exact ⟨x.fr F (kc_FUn (by omega)) (kc_FUn (by omega)) (fun c i _ _ => kc_FUn (by omega)), y.fr F (fun c i _ _ => kc_FUn (by omega))⟩
def kr_FU : jp_F := [(206, 72, 74), (249, 0, 0)]
theorem kr_FUn {c i : Nat} (h : c ≠ 249) (h2 : c = 206 → i ≠ 72 ∧ i ≠ 73) : jp_in kr_FU c i = false := by simp [jp_in, kr_FU]; omega
theorem kr_undo {Z : jz_Z} {Ds : Nat → List Int} {a : Nat → Int} {d : kD} {nx n : Nat} {s : jl_Mm} (hv : kIv Z Ds a d nx n) (h : kIr Z Ds a d nx n s) (hn : 0 < n) : jE (jf_X12_undo s) 1 kr_FU s (kIr Z Ds (d (10 + nx)) d ((nx + 19) % 20) (n - 1)) := by
  have h20 := hv.2.1
  obtain ⟨hN, hM, ⟨p1, p2, p3⟩, hW, hnm⟩ := h
  have hm : (nx + 19) % 20 < 20 := Nat.mod_lt _ (by decide)
  have e1 : jl_sub (n : Int) 1 = ((n - 1 : Nat) : Int) := by rw [jp_sub (by omega) (by omega)]; omega
  have e2 : jl_rem (jl_sub (jl_add (nx : Int) 20) 1) 20 = (((nx + 19) % 20 : Nat) : Int) := by
    rw [jp_add (by omega) (by omega), jp_sub (by omega) (by omega), show (nx : Int) + 20 - 1 = ((nx + 19 : Nat) : Int) by omega, ku_rem20 _ (by omega)]
  have q0 : ∀ i, i < 105 → jl_g s 257 (105 * nx + i) = d (10 + nx) i := fun i hi => by
    have := p3 0 hn i hi
    rwa [show (nx + 20 - 0) % 20 = nx by omega] at this
  have nf : ∀ {c i : Nat}, c ≠ 249 → jp_in [(249, 0, 0)] c i = false := by intro c i h; simp [jp_in]; omega
  rw [jf_X12_undo, p2, if_neg (by omega)]
  refine ku_for (α := jl_Mm) (G := fun k l τ => jf_X12_undo_L21 k ((l : Nat) : Int) τ) (N := 105) (P := fun o => jE o 1 kr_FU s (kIr Z Ds (d (10 + nx)) d ((nx + 19) % 20) (n - 1))) (I := fun l τ => jp_fr [(249, 0, 0)] s τ ∧ ∀ i, i < l → jl_g τ 249 i = d (10 + nx) i) (fun k l τ hl hI => Or.inr ?_) (fun k τ hI => ?_) 105 0 jl_fu s (by decide) (by decide) ⟨jp_fr.rf, by intro i hi; omega⟩
  · obtain ⟨hf, hI⟩ := hI
    have ea : jl_g τ 257 (105 * nx + l) = d (10 + nx) l := (hf.g _ _ (nf (by decide))).trans (q0 l hl)
    have na := ea ▸ jp_gn τ 257 (105 * nx + l)
    have em : jl_add (jl_mul 105 (nx : Int)) (l : Int) = ((105 * nx + l : Nat) : Int) := by rw [jp_mul (by omega) (by omega), jp_add (by omega) (by omega)]; omega
    refine ⟨jl_up τ 249 l (d (10 + nx) l), ?_, hf.up (by simp [jp_in]), fun i hi => ?_⟩
    · show jf_X12_undo_L21 (k + 1) (l : Int) τ = jf_X12_undo_L21 k ((l + 1 : Nat) : Int) _
      rw [jf_X12_undo_L21, if_neg (by omega), hf.g _ _ (nf (by decide)), p1, em, if_pos (by omega), if_pos (by omega), jp_lm, Int.toNat_natCast, Int.toNat_natCast, ea, jp_add (by omega) (by omega), ku_s]
    · by_cases c : i = l
      · subst c; exact jp_g_eq na.1 na.2
      · rw [jp_g_nei c]; exact hI i (by omega)
  · obtain ⟨hf, hI⟩ := hI
    show jE (jf_X12_undo_L21 (k + 1) ((105 : Nat) : Int) τ) _ _ _ _
    have r73 : jl_g τ 206 73 = (nx : Int) := (hf.g _ _ (nf (by decide))).trans p1
    have r72 : jl_g (jl_up τ 206 73 (((nx + 19) % 20 : Nat) : Int)) 206 72 = (n : Int) := by rw [jp_g_nei (by decide), hf.g _ _ (nf (by decide))]; exact p2
    rw [jf_X12_undo_L21, if_pos (by decide), r73, e2, jp_lm, r72, e1, jp_lm, jp_zb1]
    have F : jp_fr kr_FU s (jl_up (jl_up τ 206 73 (((nx + 19) % 20 : Nat) : Int)) 206 72 ((n - 1 : Nat) : Int)) := ((hf.w (by decide)).up (by decide)).up (by decide)
    have f3 : jp_fr [(206, 72, 74)] τ (jl_up (jl_up τ 206 73 (((nx + 19) % 20 : Nat) : Int)) 206 72 ((n - 1 : Nat) : Int)) := (jp_fr.rf.up (by decide)).up (by decide)
    have g3 : jl_g (jl_up (jl_up τ 206 73 (((nx + 19) % 20 : Nat) : Int)) 206 72 ((n - 1 : Nat) : Int)) 206 73 = (((nx + 19) % 20 : Nat) : Int) := by rw [jp_g_nei (by decide), jp_g_eq (by omega) (by omega)]
    have g2 : jl_g (jl_up (jl_up τ 206 73 (((nx + 19) % 20 : Nat) : Int)) 206 72 ((n - 1 : Nat) : Int)) 206 72 = ((n - 1 : Nat) : Int) := jp_g_eq (by omega) (by omega)
    generalize jl_up (jl_up τ 206 73 (((nx + 19) % 20 : Nat) : Int)) 206 72 ((n - 1 : Nat) : Int) = s3 at *
    have A3 : kr_A (d (10 + nx)) s3 := fun i hi => (f3.g _ _ (by simp [jp_in])).trans (hI i hi)
    have M' : kr_M d s3 := by
      obtain ⟨h1, h2, h3, h4, h5, h6⟩ := hM
      exact ⟨fun i hi => (F.g _ _ (kr_FUn (by decide) (by intro z; omega))).trans (h1 i hi), ⟨(F.g _ _ (kr_FUn (by decide) (by decide))).trans h2.1, (F.g _ _ (kr_FUn (by decide) (by decide))).trans h2.2⟩, ⟨(F.g _ _ (kr_FUn (by decide) (by decide))).trans h3.1, fun i hi => (F.g _ _ (kr_FUn (by decide) (by intro z; omega))).trans (h3.2 i hi)⟩, ⟨(F.g _ _ (kr_FUn (by decide) (by decide))).trans h4.1, fun i hi => (F.g _ _ (kr_FUn (by decide) (by intro z; omega))).trans (h4.2 i hi)⟩, ⟨(F.g _ _ (kr_FUn (by decide) (by decide))).trans h5.1, fun i hi => (F.g _ _ (kr_FUn (by decide) (by intro z; omega))).trans (h5.2 i hi)⟩, (F.gl _ _ (kr_FUn (by decide) (by decide))).trans h6⟩
    refine ⟨s3, rfl, F, ⟨hN.1.fr F (fun c i _ _ => kr_FUn (by omega) (by omega)), hN.2.1.fr F (fun c i _ _ => kr_FUn (by omega) (by omega)), A3, (F.g _ _ (kr_FUn (by decide) (by decide))).trans hN.2.2.2.1, (F.g _ _ (kr_FUn (by decide) (by decide))).trans hN.2.2.2.2⟩, M', ⟨g3, g2, fun j hj i hi => ?_⟩, hW.fr F (fun c i hc => kr_FUn (by rcases hc with hc | hc <;> omega) (by rcases hc with hc | hc <;> omega)), ⟨fun i hi => ⟨(F.gl _ _ (kr_FUn (by decide) (by intro z; omega))).trans (hnm.1 i hi).1, (hnm.1 i hi).2⟩, fun i hi => ⟨(F.gl _ _ (kr_FUn (by decide) (by intro z; omega))).trans (hnm.2 i hi).1, (hnm.2 i hi).2⟩⟩⟩
    have x := p3 (j + 1) (by omega) i hi
    rw [show ((nx + 19) % 20 + 20 - j) % 20 = (nx + 20 - (j + 1)) % 20 by omega]
    exact (F.g _ _ (kr_FUn (by decide) (by intro z; omega))).trans x
theorem kIv.undo {Z : jz_Z} {Ds : Nat → List Int} {a : Nat → Int} {d : kD} {nx n : Nat} (h : kIv Z Ds a d nx n) (hn : 0 < n) : kIv Z Ds (d (10 + nx)) d ((nx + 19) % 20) (n - 1) := by
  obtain ⟨h1, h2, h3, h4, h5, h6, h7, h8, h9⟩ := h
  have q0 := h9 0 hn
  rw [show (nx + 20 - 0) % 20 = nx by omega] at q0
  refine ⟨q0, ⟨Nat.mod_lt _ (by decide), by omega⟩, h3, h4, h5, h6, h7, h8, fun j hj => ?_⟩
  have := h9 (j + 1) (by omega)
  rwa [show ((nx + 19) % 20 + 20 - j) % 20 = (nx + 20 - (j + 1)) % 20 by omega]
theorem kI_undo : kI_call jf_X11_undo jf_X12_undo := kI_mk (fun Z Ds a d nx n hV => by
  by_cases c : 0 < n
  · refine ⟨1, kc_FU, kr_FU, Z, Ds, d (10 + nx), d, (nx + 19) % 20, n - 1, fun c i h => kc_FUn (by omega), fun c i h => kr_FUn (by omega) (by omega), hV.undo c, fun s hs => ?_, fun s hs => kr_undo hV hs c⟩
    obtain ⟨τ, t1, t2, t3⟩ := kc_recall hV hs c
    rw [jf_X11_undo, t1, jp_bd, if_neg (by decide), jf_X11_undo_B26, jf_X11_undo_B31, jp_zb1]
    exact ⟨τ, rfl, t2, t3⟩
  · have n0 : n = 0 := by omega
    subst n0
    refine ⟨0, [(205, 0, 0)], [(208, 0, 0)], Z, Ds, a, kd_no d 4, nx, 0, by intro c i h; simp [jp_in]; omega, by intro c i h; simp [jp_in]; omega, hV.no, fun s hs => ?_, fun s hs => ?_⟩
    · have p2 : jl_g s 47 3 = 0 := by obtain ⟨_, _, -, -, -, -, -, -, p2, -⟩ := hs; exact p2
      have u : ∀ t, jf_X11_deny 4 t = _ := fun t => kc_deny (k := 4) (s := t) (by decide)
      rw [jf_X11_undo, jf_X3_recall, if_pos (by decide +kernel), if_pos (by decide +kernel), p2, if_pos rfl, jp_zb0, jp_bd, if_pos rfl, u, jp_bd, if_pos rfl, jf_X11_undo_B31, jp_zb0]
      exact ⟨_, rfl, jp_fr.rf.up (by decide), hs.no (by decide)⟩
    · have p2 : jl_g s 206 72 = 0 := hs.2.2.1.2.1
      rw [jf_X12_undo, p2, if_pos rfl, show ((4 : Int) : Int).toNat = 4 from rfl, jp_lm, jp_zb0]
      exact ⟨_, rfl, jp_fr.rf.up (by decide), hs.no (by decide)⟩)
