/-! PURE, both: ACTS -/
theorem kc_G.cg {q : Nat} {a b : Nat → Int} {s : jl_Mm} (h : kc_G q a s) (e : ∀ j, 24 ≤ j → j < 105 → a j = b j) (hk : a 24 ≤ 40) : kc_G q b s := by
  obtain ⟨h1, p, h2, h3, h4⟩ := h
  have e24 := e 24 (by decide) (by decide)
  refine ⟨h1.trans e24, p, h2, h3, fun k hk' => ?_⟩
  have := h4 k (by omega)
  rw [e (25 + 2 * k) (by omega) (by omega), e (26 + 2 * k) (by omega) (by omega)] at this
  exact this
/-- what an ACT of the class writes, of the reference -/
def kc_FX : jp_F := [(40, 0, 0), (41, 0, 0), (42, 0, 0), (43, 0, 0), (44, 0, 0), (45, 0, 0), (46, 0, 0), (191, 0, 0), (192, 0, 0), (193, 0, 0)]
theorem kc_FXn {c i : Nat} (h : c < 40 ∨ (46 < c ∧ c < 191) ∨ 193 < c) : jp_in kc_FX c i = false := by simp [jp_in, kc_FX]; omega
def kr_FX : jp_F := [(249, 0, 0), (251, 0, 0), (206, 61, 62), (206, 57, 58), (250, 0, 0), (206, 58, 59), (284, 0, 0), (206, 106, 107), (206, 55, 56)]
theorem kr_FXn {c i : Nat} (h1 : c ≠ 284) (h2 : c = 206 → i ≠ 106 ∧ i ≠ 55 ∧ i ≠ 58 ∧ i ≠ 57 ∧ i ≠ 61) (h3 : c < 249 ∨ 251 < c) : jp_in kr_FX c i = false := by simp [jp_in, kr_FX]; omega
theorem kIv.a {Z : jz_Z} {Ds : Nat → List Int} {a a' : Nat → Int} {d : kD} {nx n : Nat} (h : kIv Z Ds a d nx n) (h' : kz_N Z Ds a') : kIv Z Ds a' d nx n := ⟨h', h.2⟩
theorem kIc.X {Z : jz_Z} {Ds : Nat → List Int} {a a' : Nat → Int} {d : kD} {nx n : Nat} {s τ : jl_Mm} (h : kIc Z Ds a d nx n s) (f : jp_fr kc_FX s τ) (hA : kc_A (ks_np Z) 40 a' τ) (hG' : kc_G 44 a' τ) : kIc Z Ds a' d nx n τ := by
  obtain ⟨H, G, ⟨hW, hK, -⟩, -, ⟨g1, g2, g3⟩, hc, hM, hP⟩ := h
  refine ⟨H, G, ⟨hW.fr f (kc_FXn (by omega)) (kc_FXn (by omega)) (fun c i _ _ => kc_FXn (by omega)), hK.fr hW.2.1 f (fun c i _ _ => kc_FXn (by omega)), hA⟩, hG', ⟨(f _ _ (kc_FXn (by omega))).trans g1, g2, g3⟩, fun q hq => ?_, hM.fr3 f (fun c i _ _ => kc_FXn (by omega)), hP.fr f ?_⟩
  · obtain ⟨v, hv, e⟩ := hc q hq
    exact ⟨v, hv, (f.g _ _ (kc_FXn (by omega))).trans e⟩
  · intro c i h1 h2
    exact kc_FXn (by omega)
theorem kIr.X {Z : jz_Z} {Ds : Nat → List Int} {a a' : Nat → Int} {d : kD} {nx n : Nat} {s τ : jl_Mm} (h : kIr Z Ds a d nx n s) (f : jp_fr kr_FX s τ) (hA : kr_A a' τ) : kIr Z Ds a' d nx n τ := by
  have nz : ∀ {c i : Nat}, kr_us c i → jp_in kr_FX c i = false := fun {c i} hc => kr_FXn (by rcases hc with hc | hc | hc | hc | hc | hc | hc | hc <;> first | omega | (rcases hc with hc | hc <;> omega)) (by rcases hc with hc | hc | hc | hc | hc | hc | hc | hc <;> first | omega | (rcases hc with hc | hc <;> omega)) (by rcases hc with hc | hc | hc | hc | hc | hc | hc | hc <;> first | omega | (rcases hc with hc | hc <;> omega))
  obtain ⟨hN, hM, hH, hW, hn⟩ := h
  refine ⟨⟨hN.1.fr f (fun c i _ _ => kr_FXn (by omega) (by omega) (by omega)), hN.2.1.fr f (fun c i _ _ => kr_FXn (by omega) (by omega) (by omega)), hA, (f.g _ _ (kr_FXn (by decide) (by decide) (by decide))).trans hN.2.2.2.1, (f.g _ _ (kr_FXn (by decide) (by decide) (by decide))).trans hN.2.2.2.2⟩, hM.fr f (fun c i hc => nz hc), hH.fr f (fun c i hc => nz hc), hW.fr f (fun c i hc => nz (Or.inr (Or.inr (Or.inr (Or.inr (Or.inr (Or.inr (Or.inl hc)))))))), hn.fr f (fun c i hc => nz hc)⟩
theorem jp_in_app {F E : jp_F} {c i : Nat} : jp_in (F ++ E) c i = (jp_in F c i || jp_in E c i) := by rw [jp_in, jp_in, jp_in, List.any_append]
theorem jp_fr.app {F E : jp_F} {s τ υ : jl_Mm} (f : jp_fr F s τ) (g : jp_fr E τ υ) : jp_fr (F ++ E) s υ := by
  refine (f.ws (fun c i h => ?_)).tr (g.ws (fun c i h => ?_))
  · rw [jp_in_app, h]; rfl
  · rw [jp_in_app, h, Bool.or_true]
theorem kI_act {fc fr : jl_Mm → jl_O} (h : ∀ Z Ds a d nx n, kIv Z Ds a d nx n →
    (∃ r k, k < 6 ∧ (∀ s, kIc Z Ds a d nx n s → fc s = some (r, jl_up s 205 k (jl_add (jl_g s 205 k) 1))) ∧ (∀ s, kIr Z Ds a d nx n s → fr s = some (r, jl_up s 208 k (jl_add (jl_g s 208 k) 1)))) ∨
    (∃ r a', kz_N Z Ds a' ∧ (∀ s, kIc Z Ds a d nx n s → ∃ g : Int → jl_Mm → jl_O, fc s = jl_bd (jf_X3_remember 40 44 s) g ∧ ∀ t, kIc Z Ds a (kd_keep d nx a) ((nx + 1) % 20) (kn_1 n) t → jE (g 0 t) r kc_FX t (fun τ => kc_A (ks_np Z) 40 a' τ ∧ kc_G 44 a' τ)) ∧
      (∀ s, kIr Z Ds a d nx n s → ∃ g : Int → jl_Mm → jl_O, fr s = jl_bd (jf_X12_keeps s) g ∧ ∀ t, kIr Z Ds a (kd_keep d nx a) ((nx + 1) % 20) (kn_1 n) t → jE (g 0 t) r kr_FX t (kr_A a')))) : kI_call fc fr := by
  refine kI_mk (fun Z Ds a d nx n hv => ?_)
  rcases h Z Ds a d nx n hv with ⟨r, k, hk, h1, h2⟩ | ⟨r, a', ha, h1, h2⟩
  · exact ⟨r, [(205, 0, 0)], [(208, 0, 0)], Z, Ds, a, kd_no d k, nx, n, by intro c i h; simp [jp_in]; omega, by intro c i h; simp [jp_in]; omega, hv.no, fun s hs => ⟨_, h1 s hs, jp_fr.rf.up (by simp [jp_in]), hs.no hk⟩, fun s hs => ⟨_, h2 s hs, jp_fr.rf.up (by simp [jp_in]), hs.no hk⟩⟩
  · have hnx := hv.2.1.1
    refine ⟨r, kc_FS nx ++ kc_FX, kr_FS ++ kr_FX, Z, Ds, a', kd_keep d nx a, (nx + 1) % 20, kn_1 n, fun c i h => ?_, fun c i h => ?_, hv.keep.a ha, fun s hs => ?_, fun s hs => ?_⟩
    · rw [jp_in_app, kc_FSn (by omega) (by omega), kc_FXn (by omega)]; rfl
    · have e : jp_in kr_FS c i = false := by simp [jp_in, kr_FS]; omega
      rw [jp_in_app, e, kr_FXn (by omega) (by omega) (by omega)]; rfl
    · obtain ⟨g, g1, g2⟩ := h1 s hs
      obtain ⟨t, t1, t2, t3⟩ := kc_remember hv hs
      obtain ⟨τ, u1, u2, u3, u4⟩ := g2 t t3
      rw [g1, t1, jp_bd, u1]
      exact ⟨τ, rfl, t2.app u2, t3.X u2 u3 u4⟩
    · obtain ⟨g, g1, g2⟩ := h2 s hs
      obtain ⟨t, t1, t2, t3⟩ := kr_keeps hv hs
      obtain ⟨τ, u1, u2, u3⟩ := g2 t t3
      rw [g1, t1, jp_bd, u1]
      exact ⟨τ, rfl, t2.app u2, t3.X u2 u3⟩
theorem kIc.nA {Z : jz_Z} {Ds : Nat → List Int} {a : Nat → Int} {d : kD} {nx n : Nat} {s : jl_Mm} (h : kIc Z Ds a d nx n s) : ∃ H, kc_N H Z Ds a s ∧ kc_G 44 a s := by
  obtain ⟨H, G, hN, hG, -⟩ := h
  exact ⟨H, hN, hG⟩
theorem kc_FQX {s τ : jl_Mm} (f : jp_fr (kc_FQ 40) s τ) : jp_fr kc_FX s τ := f.ws (by intro c i h; simp [jp_in, kc_FQ, kc_FX] at h ⊢; omega)
theorem kc_lit1 {H : Nat} {Z : jz_Z} {a : Nat → Int} {s : jl_Mm} {v : Int} (hW : kc_W H Z s) (hA : kc_A (ks_np Z) 40 a s) (h : (0 ≤ v ∧ v < ((ks_nl Z : Nat) : Int)) ∧ 0 < a (8 + v.toNat)) : jf_X11_isLit v s = some (1, s) := by rw [kc_isLit hW hA, if_pos h]
theorem kc_lit0 {H : Nat} {Z : jz_Z} {a : Nat → Int} {s : jl_Mm} {v : Int} (hW : kc_W H Z s) (hA : kc_A (ks_np Z) 40 a s) (h : ¬ ((0 ≤ v ∧ v < ((ks_nl Z : Nat) : Int)) ∧ 0 < a (8 + v.toNat))) : jf_X11_isLit v s = some (0, s) := by rw [kc_isLit hW hA, if_neg h]
theorem kr_in1 {v lo hi : Int} (s : jl_Mm) (h1 : jl_n3 v) (h2 : jl_n3 lo) (h3 : jl_n3 hi) (h : lo ≤ v ∧ v ≤ hi) : jf_X12_isIn v lo hi s = some (1, s) := by rw [jx12_isIn s (jl_n36 h1) (jl_n36 h2) (jl_n36 h3), if_pos h]
theorem kr_in0 {v lo hi : Int} (s : jl_Mm) (h1 : jl_n3 v) (h2 : jl_n3 lo) (h3 : jl_n3 hi) (h : ¬ (lo ≤ v ∧ v ≤ hi)) : jf_X12_isIn v lo hi s = some (0, s) := by rw [jx12_isIn s (jl_n36 h1) (jl_n36 h2) (jl_n36 h3), if_neg h]
theorem kr_lit1 {a : Nat → Int} {s : jl_Mm} (h : kr_A a s) {l : Nat} (hl : l < 8) (c : 0 < a (8 + l)) : jf_X12_isLit (l : Int) s = some (1, s) := by rw [h.lit hl, if_pos c]
theorem kr_lit0 {a : Nat → Int} {s : jl_Mm} (h : kr_A a s) {l : Nat} (hl : l < 8) (c : ¬ 0 < a (8 + l)) : jf_X12_isLit (l : Int) s = some (0, s) := by rw [h.lit hl, if_neg c]
def ks_light (a : Nat → Int) (l : Nat) (v : Int) : Nat → Int := ks_u (ks_u (ks_u a 1 (a 1 - v)) (8 + l) v) (16 + l) 0
theorem ks_light_N {Z : jz_Z} {Ds : Nat → List Int} {a : Nat → Int} {l : Nat} {v : Int} (hZ : kz_V Z) (h : kz_N Z Ds a) (hl : l < ks_nl Z) (hv : 1 ≤ v ∧ v ≤ 99 ∧ v ≤ a 1) : kz_N Z Ds (ks_light a l v) ∧ ∀ j, 24 ≤ j → ks_light a l v j = a j := by
  have h8 := hZ.l
  have h1 := h.1.2.1
  have e : ∀ j, 24 ≤ j ∨ j = 0 → ks_light a l v j = a j := fun j hj => by rw [ks_light, ks_un (by omega), ks_un (by omega), ks_un (by omega)]
  refine ⟨⟨(h.1.u1 (by omega)).c hZ hl (by omega) (by omega) (fun _ => rfl), h.2.1, ?_, ?_⟩, fun j hj => e j (Or.inl hj)⟩
  · rw [e 0 (Or.inr rfl)]; exact h.2.2.1
  · rw [e 24 (by omega)]; exact h.2.2.2
theorem kI_light {v w : Int} (hv : jl_n3 v) (hw : jl_n3 w) : kI_call (jf_X11_light v w) (jf_X12_light v w) := kI_act (fun Z Ds a d nx n hV => by
  have h1 := hV.1.1.2.1
  by_cases c : (0 ≤ v ∧ v < ((ks_nl Z : Nat) : Int)) ∧ ¬ 0 < a (8 + v.toNat) ∧ 1 ≤ w ∧ w ≤ 99 ∧ w ≤ a 1
  · right
    obtain ⟨l, rfl⟩ : ∃ l : Nat, v = (l : Int) := ⟨v.toNat, by omega⟩
    rw [Int.toNat_natCast] at c
    by_cases hZ : kz_V Z
    · have h8 := hZ.l
      obtain ⟨L1, L2⟩ := ks_light_N (v := w) hZ hV.1 (l := l) (by omega) c.2.2
      refine ⟨1, ks_light a l w, L1, fun s hs => ?_, fun s hs => ?_⟩
      · obtain ⟨H, ⟨hW, hK, hA⟩, hG⟩ := hs.nA
        refine ⟨fun _ t => jl_bd (jf_X7_kindle 40 (l : Int) w t) fun _ s15 => jl_zb 1 s15, ?_, fun t ht => ?_⟩
        · rw [jf_X11_light, hW.isL, jp_bd, if_pos c.1, if_neg (by decide), kc_lit0 (v := (l : Int)) hW hA (fun q => c.2.1 q.2), jp_bd, if_pos rfl, if_neg (by omega), if_neg (by omega), hA.2.1, if_pos (by omega)]
        · obtain ⟨H', ⟨hW', hK', hA'⟩, hG'⟩ := ht.nA
          obtain ⟨τ, t1, t2, t3⟩ := kc_kindle (l := l) (v := w) (Or.inl rfl) hA' (by omega) (by omega) h1
          have t2' := kc_FQX t2
          refine ⟨τ, by show jl_bd (jf_X7_kindle 40 (l : Int) w t) _ = _; rw [t1, jp_bd, jp_zb1], t2', t3, (hG'.fr t2 (fun c i _ _ => kc_FQn (by omega) (by omega) (by omega))).cg (fun j hj _ => (L2 j hj).symm) hV.1.2.2.2.2⟩
      · have hW := hs.1.1
        have hA := hs.1.2.2.1
        have e8 : jl_add 8 (l : Int) = ((8 + l : Nat) : Int) := by rw [jp_add (by omega) (by omega)]; omega
        have e16 : jl_add 16 (l : Int) = ((16 + l : Nat) : Int) := by rw [jp_add (by omega) (by omega)]; omega
        refine ⟨_, by
          rw [jf_X12_light, hW.isL hv, jp_bd, if_pos c.1, if_neg (by decide), kr_lit0 hA (by omega) c.2.1, jp_bd, if_pos rfl, kr_in1 s hw ⟨by decide, by decide⟩ ⟨by decide, by decide⟩ ⟨c.2.2.1, c.2.2.2.1⟩, jp_bd, if_neg (by decide), show ((1 : Int) : Int).toNat = 1 from rfl, hA 1 (by decide), if_pos c.2.2.2.2], fun t ht => ?_⟩
        have hA := ht.1.2.2.1
        have A1 := hA.up (i := 8 + l) (v := w) hw
        have A2 := A1.up (i := 16 + l) (v := 0) jl_n3_0
        have A3 := A2.up (i := 1) (v := a 1 - w) ⟨by omega, by omega⟩
        have g1 : jl_g (jl_up (jl_up t 249 (8 + l) w) 249 (16 + l) 0) 249 1 = a 1 := by rw [A2 1 (by decide), ks_un (by omega), ks_un (by omega)]
        show jE (if 0 ≤ jl_add 8 (l : Int) ∧ jl_add 8 (l : Int) < ((105 : Nat) : Int) then _ else none) 1 kr_FX t (kr_A (ks_light a l w))
        rw [e8, if_pos (by omega), Int.toNat_natCast, jp_lm, e16, if_pos (by omega), Int.toNat_natCast, jp_lm, g1, jp_sub (by omega) (by omega), jp_lm, jp_zb1]
        refine ⟨_, rfl, ((jp_fr.rf.up (by simp [jp_in, kr_FX])).up (by simp [jp_in, kr_FX])).up (by simp [jp_in, kr_FX]), A3.cg (fun j _ => ?_)⟩
        rw [ks_light]
        by_cases q1 : j = 1
        · subst q1; rw [ks_ue, ks_un (by omega), ks_un (by omega), ks_ue]
        · rw [ks_un q1]
          by_cases q2 : j = 16 + l
          · subst q2; rw [ks_ue, ks_ue]
          · rw [ks_un q2, ks_un q2]
            by_cases q3 : j = 8 + l
            · subst q3; rw [ks_ue, ks_ue]
            · rw [ks_un q3, ks_un q3, ks_un q1]
    · exact ⟨1, a, hV.1, fun s hs => absurd (hs.nA.choose_spec.1.1.1) hZ, fun s hs => absurd hs.1.1.1 hZ⟩
  · left
    refine ⟨0, 2, by decide, fun s hs => ?_, fun s hs => ?_⟩
    · obtain ⟨H, ⟨hW, hK, hA⟩, hG⟩ := hs.nA
      have u : ∀ t, jf_X11_deny 2 t = _ := fun t => kc_deny (k := 2) (s := t) (by decide)
      have z : jf_X11_light_B38 s = some (0, jl_up s 205 2 (jl_add (jl_g s 205 2) 1)) := by rw [jf_X11_light_B38, u, jp_bd, jp_zb0]
      rw [jf_X11_light, hW.isL, jp_bd, z]
      by_cases c1 : 0 ≤ v ∧ v < ((ks_nl Z : Nat) : Int)
      · rw [if_pos c1, if_neg (by decide)]
        by_cases c2 : 0 < a (8 + v.toNat)
        · rw [kc_lit1 hW hA ⟨c1, c2⟩, jp_bd, if_neg (by decide), z]
        · rw [kc_lit0 hW hA (fun q => c2 q.2), jp_bd, z, if_pos rfl]
          by_cases c3 : w < 1
          · rw [if_pos c3]
          rw [if_neg c3]
          by_cases c4 : 99 < w
          · rw [if_pos c4]
          rw [if_neg c4, hA.2.1, if_neg (fun q => c ⟨c1, c2, by omega, by omega, q⟩)]
      · rw [if_neg c1, if_pos rfl]
    · have hW := hs.1.1
      have hA := hs.1.2.2.1
      have u : ∀ t, jf_X12_isRefused 2 t = _ := fun t => kr_isRefused (k := 2) (s := t) (by decide)
      have z : jf_X12_light_B39 s = some (0, jl_up s 208 2 (jl_add (jl_g s 208 2) 1)) := by rw [jf_X12_light_B39, u, jp_bd, jp_zb0]
      have h8 := hW.1.l
      rw [jf_X12_light, hW.isL hv, jp_bd, z]
      by_cases c1 : 0 ≤ v ∧ v < ((ks_nl Z : Nat) : Int)
      · obtain ⟨l, rfl⟩ : ∃ l : Nat, v = (l : Int) := ⟨v.toNat, by omega⟩
        rw [Int.toNat_natCast] at c
        rw [if_pos c1, if_neg (by decide)]
        by_cases c2 : 0 < a (8 + l)
        · rw [kr_lit1 hA (by omega) c2, jp_bd, if_neg (by decide), z]
        · rw [kr_lit0 hA (by omega) c2, jp_bd, z, if_pos rfl]
          by_cases c3 : 1 ≤ w ∧ w ≤ 99
          · rw [kr_in1 s hw ⟨by decide, by decide⟩ ⟨by decide, by decide⟩ c3, jp_bd, if_neg (by decide), show ((1 : Int) : Int).toNat = 1 from rfl, hA 1 (by decide), if_neg (fun q => c ⟨c1, c2, c3.1, c3.2, q⟩), z]
          · rw [kr_in0 s hw ⟨by decide, by decide⟩ ⟨by decide, by decide⟩ c3, jp_bd, if_pos rfl, z]
      · rw [if_neg c1, if_pos rfl])
theorem kI_snuff {v : Int} (hv : jl_n3 v) : kI_call (jf_X11_snuff v) (jf_X12_snuff v) := kI_act (fun Z Ds a d nx n hV => by
  have h1 := hV.1.1.2.1
  by_cases hZ : kz_V Z
  case neg => exact Or.inr ⟨1, a, hV.1, fun s hs => absurd (hs.nA.choose_spec.1.1.1) hZ, fun s hs => absurd hs.1.1.1 hZ⟩
  have h8 := hZ.l
  by_cases c : (0 ≤ v ∧ v < ((ks_nl Z : Nat) : Int)) ∧ 0 < a (8 + v.toNat)
  · right
    obtain ⟨l, rfl⟩ : ∃ l : Nat, v = (l : Int) := ⟨v.toNat, by omega⟩
    rw [Int.toNat_natCast] at c
    have hc := hV.1.1.2.2.2 l (by omega)
    obtain ⟨L1, L0, L2⟩ := ks_snuff_V (a := a) hZ hV.1.1 (l := l) (by omega)
    refine ⟨a (8 + l), ks_snuff a l, ⟨L1, hV.1.2.1, by rw [L0]; exact hV.1.2.2.1, by rw [L2 24 (by decide)]; exact hV.1.2.2.2⟩, fun s hs => ?_, fun s hs => ?_⟩
    · obtain ⟨H, ⟨hW, hK, hA⟩, hG⟩ := hs.nA
      refine ⟨fun _ s5 => jl_bd (jf_X7_quench 40 (l : Int) s5) fun r6 s7 => some (r6, s7), ?_, fun t ht => ?_⟩
      · rw [jf_X11_snuff, kc_lit1 (v := (l : Int)) hW hA c, jp_bd, if_neg (by decide)]
      · obtain ⟨H', ⟨hW', hK', hA'⟩, hG'⟩ := ht.nA
        obtain ⟨τ, t1, t2, t3⟩ := kc_quench (l := l) (Or.inl rfl) hA' (by omega) (by omega) h1
        refine ⟨τ, by show jl_bd (jf_X7_quench 40 (l : Int) t) _ = _; rw [t1, jp_bd], kc_FQX t2, t3, (hG'.fr t2 (fun c i _ _ => kc_FQn (by omega) (by omega) (by omega))).cg (fun j hj _ => (L2 j hj).symm) hV.1.2.2.2.2⟩
    · have hW := hs.1.1
      have hA := hs.1.2.2.1
      have e8 : jl_add 8 (l : Int) = ((8 + l : Nat) : Int) := by rw [jp_add (by omega) (by omega)]; omega
      refine ⟨_, by rw [jf_X12_snuff, hW.isL hv, jp_bd, if_pos c.1, if_neg (by decide), kr_lit1 hA (by omega) c.2, jp_bd, if_neg (by decide)], fun t ht => ?_⟩
      have hA := ht.1.2.2.1
      obtain ⟨τ, t1, t2, t3⟩ := kr_snuffs (Z := Z) (l := l) hA (by omega) (by omega) h1
      show jE (if 0 ≤ jl_add 8 (l : Int) ∧ jl_add 8 (l : Int) < ((105 : Nat) : Int) then _ else none) (a (8 + l)) kr_FX t (kr_A (ks_snuff a l))
      rw [e8, if_pos (by omega), Int.toNat_natCast, hA (8 + l) (by omega), jp_let, t1, jp_bd]
      exact ⟨τ, rfl, t2.w (by decide), t3⟩
  · left
    refine ⟨-1, 2, by decide, fun s hs => ?_, fun s hs => ?_⟩
    · obtain ⟨H, ⟨hW, hK, hA⟩, hG⟩ := hs.nA
      have u : ∀ t, jf_X11_refuse 2 t = _ := fun t => kc_refuse (k := 2) (s := t) (by decide)
      rw [jf_X11_snuff, kc_lit0 hW hA c, jp_bd, if_pos rfl, u, jp_bd]
    · have hW := hs.1.1
      have hA := hs.1.2.2.1
      have u : ∀ t, jf_X12_refuses 2 t = _ := fun t => kr_refuses (k := 2) (s := t) (by decide)
      have z : jf_X12_snuff_B17 s = some (-1, jl_up s 208 2 (jl_add (jl_g s 208 2) 1)) := by rw [jf_X12_snuff_B17, u, jp_bd]
      rw [jf_X12_snuff, hW.isL hv, jp_bd, z]
      by_cases c1 : 0 ≤ v ∧ v < ((ks_nl Z : Nat) : Int)
      · obtain ⟨l, rfl⟩ : ∃ l : Nat, v = (l : Int) := ⟨v.toNat, by omega⟩
        rw [Int.toNat_natCast] at c
        rw [if_pos c1, if_neg (by decide), kr_lit0 hA (by omega) (fun q => c ⟨c1, q⟩), jp_bd, if_pos rfl, z]
      · rw [if_neg c1, if_pos rfl])
theorem ks_V.home {Z : jz_Z} {a : Nat → Int} {p : Nat} {w : Int} (hZ : kz_V Z) (h : ks_V Z a) (hp : p < ks_np Z) (hw : 0 ≤ w ∧ w < ((ks_nw Z : Nat) : Int)) : ks_V Z (ks_u a (2 + p) w) := by
  have h6 := hZ.p
  have h30 := hZ.w
  obtain ⟨v0, v1, v2, v3⟩ := h
  refine ⟨?_, ?_, fun q hq => ?_, fun l hl => ?_⟩
  · rw [ks_un (by omega)]; exact v0
  · rw [ks_un (by omega)]; exact v1
  · by_cases c : q = p
    · subst c; rw [ks_ue]; omega
    · rw [ks_un (by omega)]; exact v2 q hq
  · rw [ks_un (by omega), ks_un (by omega)]; exact v3 l hl
theorem kI_move {v w : Int} (hv : jl_n3 v) (hw : jl_n3 w) : kI_call (jf_X11_move v w) (jf_X12_move v w) := kI_act (fun Z Ds a d nx n hV => by
  by_cases hZ : kz_V Z
  case neg => exact Or.inr ⟨1, a, hV.1, fun s hs => absurd (hs.nA.choose_spec.1.1.1) hZ, fun s hs => absurd hs.1.1.1 hZ⟩
  have h6 := hZ.p
  by_cases c : (0 ≤ v ∧ v < ((ks_np Z : Nat) : Int)) ∧ (0 ≤ w ∧ w < ((ks_nw Z : Nat) : Int)) ∧ ¬ a (2 + v.toNat) = w
  · right
    obtain ⟨p, rfl⟩ : ∃ p : Nat, v = (p : Int) := ⟨v.toNat, by omega⟩
    rw [Int.toNat_natCast] at c
    have r6 : 0 ≤ (p : Int) ∧ (p : Int) < ((6 : Nat) : Int) := by omega
    have e2 : jl_add 2 (p : Int) = ((2 + p : Nat) : Int) := by rw [jp_add (by omega) (by omega)]; omega
    refine ⟨1, ks_u a (2 + p) w, ⟨hV.1.1.home hZ (by omega) c.2.1, hV.1.2.1, by rw [ks_un (by omega)]; exact hV.1.2.2.1, by rw [ks_un (by omega)]; exact hV.1.2.2.2⟩, fun s hs => ?_, fun s hs => ?_⟩
    · obtain ⟨H, ⟨hW, hK, hA⟩, hG⟩ := hs.nA
      have g2 : jl_g s 41 p = a (2 + p) := hA.2.2.1 p (by omega)
      refine ⟨_, by rw [jf_X11_move, hW.isP, jp_bd, if_pos c.1, if_neg (by decide), hW.isW, jp_bd, if_pos c.2.1, if_neg (by decide), if_pos r6, Int.toNat_natCast, g2, if_neg c.2.2], fun t ht => ?_⟩
      obtain ⟨H', ⟨hW', hK', hA'⟩, hG'⟩ := ht.nA
      show jE (if 0 ≤ (p : Int) ∧ (p : Int) < ((6 : Nat) : Int) then _ else none) 1 kc_FX t _
      rw [if_pos r6, jp_lm, jp_zb1]
      have f : jp_fr [(41, 0, 0)] t (jl_up t 41 p w) := jp_fr.rf.up (by simp [jp_in])
      exact ⟨_, rfl, f.w (by decide), hA'.uph (by omega) hw, (hG'.fr f (fun c i _ _ => by simp [jp_in]; omega)).cg (fun j hj _ => (ks_un (by omega)).symm) hV.1.2.2.2.2⟩
    · have hW := hs.1.1
      have hA := hs.1.2.2.1
      refine ⟨_, by rw [jf_X12_move, hW.isP hv, jp_bd, if_pos c.1, if_neg (by decide), hW.isW hw, jp_bd, if_pos c.2.1, if_neg (by decide), e2, if_pos (by omega), Int.toNat_natCast, hA _ (by omega), if_neg c.2.2], fun t ht => ?_⟩
      have hA := ht.1.2.2.1
      show jE (if 0 ≤ ((2 + p : Nat) : Int) ∧ ((2 + p : Nat) : Int) < ((105 : Nat) : Int) then _ else none) 1 kr_FX t _
      rw [if_pos (by omega), jp_lm, jp_zb1]
      exact ⟨_, rfl, jp_fr.rf.up (by simp [jp_in, kr_FX]), hA.up hw⟩
  · left
    refine ⟨0, 2, by decide, fun s hs => ?_, fun s hs => ?_⟩
    · obtain ⟨H, ⟨hW, hK, hA⟩, hG⟩ := hs.nA
      have u : ∀ t, jf_X11_deny 2 t = _ := fun t => kc_deny (k := 2) (s := t) (by decide)
      have z : jf_X11_move_B29 s = some (0, jl_up s 205 2 (jl_add (jl_g s 205 2) 1)) := by rw [jf_X11_move_B29, u, jp_bd, jp_zb0]
      rw [jf_X11_move, hW.isP, jp_bd, z]
      by_cases c1 : 0 ≤ v ∧ v < ((ks_np Z : Nat) : Int)
      · obtain ⟨p, rfl⟩ : ∃ p : Nat, v = (p : Int) := ⟨v.toNat, by omega⟩
        rw [Int.toNat_natCast] at c
        have g2 : jl_g s 41 p = a (2 + p) := hA.2.2.1 p (by omega)
        rw [if_pos c1, if_neg (by decide), hW.isW, jp_bd, z]
        by_cases c2 : 0 ≤ w ∧ w < ((ks_nw Z : Nat) : Int)
        · rw [if_pos c2, if_neg (by decide), if_pos (by omega), Int.toNat_natCast, g2, if_pos (Classical.byContradiction fun q => c ⟨c1, c2, q⟩)]
        · rw [if_neg c2, if_pos rfl]
      · rw [if_neg c1, if_pos rfl]
    · have hW := hs.1.1
      have hA := hs.1.2.2.1
      have u : ∀ t, jf_X12_isRefused 2 t = _ := fun t => kr_isRefused (k := 2) (s := t) (by decide)
      have z : jf_X12_move_B29 s = some (0, jl_up s 208 2 (jl_add (jl_g s 208 2) 1)) := by rw [jf_X12_move_B29, u, jp_bd, jp_zb0]
      rw [jf_X12_move, hW.isP hv, jp_bd, z]
      by_cases c1 : 0 ≤ v ∧ v < ((ks_np Z : Nat) : Int)
      · obtain ⟨p, rfl⟩ : ∃ p : Nat, v = (p : Int) := ⟨v.toNat, by omega⟩
        rw [Int.toNat_natCast] at c
        have e2 : jl_add 2 (p : Int) = ((2 + p : Nat) : Int) := by rw [jp_add (by omega) (by omega)]; omega
        rw [if_pos c1, if_neg (by decide), hW.isW hw, jp_bd, z]
        by_cases c2 : 0 ≤ w ∧ w < ((ks_nw Z : Nat) : Int)
        · rw [if_pos c2, if_neg (by decide), e2, if_pos (by omega), Int.toNat_natCast, hA _ (by omega), if_pos (Classical.byContradiction fun q => c ⟨c1, c2, q⟩)]
        · rw [if_neg c2, if_pos rfl]
      · rw [if_neg c1, if_pos rfl])
theorem kI_buy {v : Int} (hv : jl_n3 v) : kI_call (jf_X11_buy v) (jf_X12_buy v) := kI_act (fun Z Ds a d nx n hV => by
  have h1 := hV.1.1.2.1
  by_cases c : 0 < ks_nw Z ∧ (1 ≤ v ∧ v ≤ 999) ∧ a 1 < 999
  · right
    have e1 : (if a 1 + v < 999 then a 1 + v else 999) = ks_99 (a 1 + v) := by
      rw [ks_99]
      by_cases x : 999 < a 1 + v
      · rw [if_pos x, if_neg (by omega)]
      · rw [if_neg x]
        by_cases y : a 1 + v < 999
        · rw [if_pos y]
        · rw [if_neg y]; omega
    have b9 : 0 ≤ ks_99 (a 1 + v) ∧ ks_99 (a 1 + v) ≤ 999 := by rw [ks_99]; split <;> omega
    refine ⟨ks_99 (a 1 + v), ks_u a 1 (ks_99 (a 1 + v)), ⟨hV.1.1.u1 b9, hV.1.2.1, by rw [ks_un (by decide)]; exact hV.1.2.2.1, by rw [ks_un (by decide)]; exact hV.1.2.2.2⟩, fun s hs => ?_, fun s hs => ?_⟩
    · obtain ⟨H, ⟨hW, hK, hA⟩, hG⟩ := hs.nA
      refine ⟨_, by rw [jf_X11_buy, kc_has hW, jp_bd, if_pos c.1, if_neg (by decide), if_neg (by omega), if_neg (by omega), hA.2.1, if_pos c.2.2], fun t ht => ?_⟩
      obtain ⟨H', ⟨hW', hK', hA'⟩, hG'⟩ := ht.nA
      have f : jp_fr [(40, 1, 2)] t (jl_up t 40 1 (ks_99 (a 1 + v))) := jp_fr.rf.up (by simp [jp_in])
      show jE (jl_bd (jf_X7_addTallow 40 v t) _) _ kc_FX t _
      rw [jf_X7_addTallow, if_pos (by decide +kernel), hA'.2.1, jp_add (by omega) (by omega), ku_min, jp_bd, e1, jp_lm, jp_bd, jp_g_eq (by omega) (by omega)]
      exact ⟨_, rfl, f.ws (by intro c i h; simp [jp_in, kc_FX] at h ⊢; omega), hA'.up1 ⟨by omega, by omega⟩, (hG'.fr f (fun c i _ _ => by simp [jp_in]; omega)).cg (fun j hj _ => (ks_un (by omega)).symm) hV.1.2.2.2.2⟩
    · have hW := hs.1.1
      have hA := hs.1.2.2.1
      have h54 := hs.1.2.2.2.2
      refine ⟨_, by rw [jf_X12_buy, h54, if_pos c.1, if_neg (by decide), kr_in1 s hv ⟨by decide, by decide⟩ ⟨by decide, by decide⟩ c.2.1, jp_bd, if_neg (by decide), show ((1 : Int) : Int).toNat = 1 from rfl, hA 1 (by decide), if_neg (by omega)], fun t ht => ?_⟩
      have hA := ht.1.2.2.1
      have e2 : (if a 1 + v < 0 then 0 else if 999 < a 1 + v then 999 else a 1 + v) = ks_99 (a 1 + v) := by rw [if_neg (by omega), ks_99]
      show jE (jl_bd (jf_X12_clamp (jl_add (jl_g t 249 1) v) 999 t) _) _ kr_FX t _
      rw [hA 1 (by decide), jp_add (by omega) (by omega), kr_clamp t ⟨by omega, by omega⟩ ⟨by decide, by decide⟩, jp_bd, e2, jp_lm, jp_g_eq (by omega) (by omega)]
      exact ⟨_, rfl, jp_fr.rf.up (by simp [jp_in, kr_FX]), hA.up ⟨by omega, by omega⟩⟩
  · left
    refine ⟨-1, 2, by decide, fun s hs => ?_, fun s hs => ?_⟩
    · obtain ⟨H, ⟨hW, hK, hA⟩, hG⟩ := hs.nA
      have u : ∀ t, jf_X11_refuse 2 t = _ := fun t => kc_refuse (k := 2) (s := t) (by decide)
      have z : jf_X11_buy_B32 s = some (-1, jl_up s 205 2 (jl_add (jl_g s 205 2) 1)) := by rw [jf_X11_buy_B32, u, jp_bd]
      rw [jf_X11_buy, kc_has hW, jp_bd, z]
      by_cases c1 : 0 < ks_nw Z
      · rw [if_pos c1, if_neg (by decide)]
        by_cases c2 : v < 1
        · rw [if_pos c2]
        rw [if_neg c2]
        by_cases c3 : 999 < v
        · rw [if_pos c3]
        rw [if_neg c3, hA.2.1, if_neg (fun q => c ⟨c1, by omega, q⟩)]
      · rw [if_neg c1, if_pos rfl]
    · have hW := hs.1.1
      have hA := hs.1.2.2.1
      have h54 := hs.1.2.2.2.2
      have u : ∀ t, jf_X12_refuses 2 t = _ := fun t => kr_refuses (k := 2) (s := t) (by decide)
      have z : jf_X12_buy_B31 s = some (-1, jl_up s 208 2 (jl_add (jl_g s 208 2) 1)) := by rw [jf_X12_buy_B31, u, jp_bd]
      rw [jf_X12_buy, h54, z]
      by_cases c1 : 0 < ks_nw Z
      · rw [if_pos c1, if_neg (by decide)]
        by_cases c2 : 1 ≤ v ∧ v ≤ 999
        · rw [kr_in1 s hv ⟨by decide, by decide⟩ ⟨by decide, by decide⟩ c2, jp_bd, if_neg (by decide), show ((1 : Int) : Int).toNat = 1 from rfl, hA 1 (by decide), if_pos (by omega), z]
        · rw [kr_in0 s hv ⟨by decide, by decide⟩ ⟨by decide, by decide⟩ c2, jp_bd, if_pos rfl, z]
      · rw [if_neg c1, if_pos rfl])
