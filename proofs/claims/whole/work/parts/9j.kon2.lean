/-! PURE, both: on, how all stands then -/
def kt_o2 (b a : Nat → Int) : Nat → Int := ks_u (ks_u a 0 (256 * b 0 + b 1)) 1 (256 * b 2 + b 3)
def kt_oh (b a : Nat → Int) : Nat → Nat → Int
  | 0 => a
  | p + 1 => ks_u (kt_oh b a p) (2 + p) (b (4 + p))
def kt_oc (b : Nat → Int) (n : Nat) (a : Nat → Int) : Nat → Nat → Int
  | 0 => a
  | l + 1 => ks_u (ks_u (kt_oc b n a l) (8 + l) (b (4 + n + 2 * l))) (16 + l) (b (4 + n + (2 * l + 1)))
def kt_on (Z : jz_Z) (b a : Nat → Int) : Nat → Int := ks_u (kt_oc b (ks_np Z) (kt_oh b (kt_o2 b a) (ks_np Z)) (ks_nl Z)) 24 0
theorem kt_oh_n {b a : Nat → Int} {j : Nat} (h : j < 2 ∨ 8 ≤ j) : ∀ p, p ≤ 6 → kt_oh b a p j = a j
  | 0, _ => rfl
  | p + 1, hp => by rw [kt_oh, ks_un (by omega), kt_oh_n h p (by omega)]
theorem kt_oc_n {b a : Nat → Int} {n j : Nat} (h : j < 8 ∨ 24 ≤ j) : ∀ l, l ≤ 8 → kt_oc b n a l j = a j
  | 0, _ => rfl
  | l + 1, hl => by rw [kt_oc, ks_un (by omega), ks_un (by omega), kt_oc_n h l (by omega)]
theorem kt_oh_V {Z : jz_Z} {b a : Nat → Int} (hZ : kz_V Z) (hV : ks_V Z a) (hw : kz_pw Z b) (hb : ∀ i, i < kt_pn Z → 0 ≤ b i ∧ b i ≤ 255) : ∀ p, p ≤ ks_np Z → ks_V Z (kt_oh b a p)
  | 0, _ => hV
  | p + 1, hp => (kt_oh_V hZ hV hw hb p (by omega)).home hZ (by omega) ⟨(hb (4 + p) (by have : kt_pn Z = 4 + ks_np Z + 2 * ks_nl Z := rfl; omega)).1, hw p (by omega)⟩
theorem kt_oc_V {Z : jz_Z} {b a : Nat → Int} (hZ : kz_V Z) (hV : ks_V Z a) (hl : kz_pl Z b) (hb : ∀ i, i < kt_pn Z → 0 ≤ b i ∧ b i ≤ 255) : ∀ l, l ≤ ks_nl Z → ks_V Z (kt_oc b (ks_np Z) a l)
  | 0, _ => hV
  | l + 1, hp => by
    have ep : kt_pn Z = 4 + ks_np Z + 2 * ks_nl Z := rfl
    obtain ⟨x, y, z⟩ := hl l (by omega)
    exact (kt_oc_V hZ hV hl hb l (by omega)).c hZ (by omega) ⟨(hb _ (by omega)).1, x⟩ ⟨(hb _ (by omega)).1, y⟩ z
theorem kt_on_N {Z : jz_Z} {Ds : Nat → List Int} {b a : Nat → Int} {x : Nat} (hZ : kz_V Z) (hV : kz_N Z Ds a) (h : kz_pic Z b x) (hb : ∀ i, i < x → 0 ≤ b i ∧ b i ≤ 255) : kz_N Z Ds (kt_on Z b a) := by
  obtain ⟨h1, h2, h3, h4, h5, h6, h7⟩ := h
  obtain ⟨v1, v2, v3, v4, v5⟩ := hV
  have h6p := hZ.p
  have h8l := hZ.l
  have ep : kt_pn Z = 4 + ks_np Z + 2 * ks_nl Z := rfl
  have hb' : ∀ i, i < kt_pn Z → 0 ≤ b i ∧ b i ≤ 255 := fun i hi => hb i (by omega)
  have b0 := hb 0 (by omega)
  have b1 := hb 1 (by omega)
  have b2 := hb 2 (by omega)
  have b3 := hb 3 (by omega)
  have V2 : ks_V Z (kt_o2 b a) := (v1.u0 ⟨by omega, by omega⟩).u1 ⟨by omega, by omega⟩
  have V := kt_oc_V hZ (kt_oh_V hZ V2 h5 hb' _ (Nat.le_refl _)) h6 hb' _ (Nat.le_refl _)
  refine ⟨V.cg hZ (fun j hj => (ks_un (by omega)).symm), v2, ?_, ?_, ?_⟩
  · rw [kt_on, ks_un (by omega), kt_oc_n (by omega) _ (by omega), kt_oh_n (by omega) _ (by omega), kt_o2, ks_un (by omega), ks_ue]; omega
  · rw [kt_on, ks_ue]; exact Int.le_refl _
  · rw [kt_on, ks_ue]; decide
/-- the class takes it -/
abbrev kc_FO : jp_F := [(40, 0, 2), (41, 0, 0), (42, 0, 0), (43, 0, 0)]
theorem kc_FOn {c i : Nat} (h : c < 40 ∨ 43 < c) : jp_in kc_FO c i = false := by simp [jp_in]; omega
theorem kc_Tp.fr {b : Nat → Int} {x : Nat} {s τ : jl_Mm} (h : kc_Tp b x s) (f : jp_fr kc_FO s τ) : kc_Tp b x τ := ⟨(f.g _ _ (kc_FOn (by omega))).trans h.1, fun i hi => (f.g _ _ (kc_FOn (by omega))).trans (h.2 i hi)⟩
theorem kc_read {H : Nat} {Z : jz_Z} {b a : Nat → Int} {x : Nat} {s : jl_Mm} (hW : kc_W H Z s) (hA : kc_A (ks_np Z) 40 a s) (hT : kc_Tp b x s) (hx : x = kt_pn Z + 1) (hb : ∀ i, i < x → 0 ≤ b i ∧ b i ≤ 255) :
    jE (jf_X7_readPicture 40 H s) 0 kc_FO s (kc_A (ks_np Z) 40 (kt_oc b (ks_np Z) (kt_oh b (kt_o2 b a) (ks_np Z)) (ks_nl Z))) := by
  have h6 := hW.1.p
  have h8 := hW.1.l
  have ep : kt_pn Z = 4 + ks_np Z + 2 * ks_nl Z := rfl
  have nb : ∀ i, i < x → jl_n3 (b i) := fun i hi => ⟨by have := hb i hi; omega, by have := hb i hi; omega⟩
  have n01 : ∀ i, i + 1 < x → jl_n3 (256 * b i + b (i + 1)) := fun i hi => ⟨by have := hb i (by omega); have := hb (i + 1) hi; omega, by have := hb i (by omega); have := hb (i + 1) hi; omega⟩
  have WT : ∀ {τ}, jp_fr kc_FO s τ → kc_W H Z τ ∧ kc_Tp b x τ := fun f => ⟨hW.fr f (kc_FOn (by omega)) (kc_FOn (by omega)) (fun c i h1 h2 => by simp [jp_in]; omega), hT.fr f⟩
  have p0 : jf_X10_pairAt 0 s = some (256 * b 0 + b 1, s) := hT.pair (i := 0) (by omega) (by omega) hb
  have A1 := hA.up0 (n01 0 (by omega))
  have f1 : jp_fr kc_FO s (jl_up s 40 0 (256 * b 0 + b 1)) := jp_fr.rf.up (by decide)
  rw [jf_X7_readPicture, if_pos (by decide +kernel), if_pos (jz_kd hW.2.1), p0, jp_bd, jp_lm]
  show jE (jl_bd (jf_X10_pairAt 2 (jl_up s 40 0 (256 * b 0 + b 1))) _) _ _ _ _
  have A1' : kc_A (ks_np Z) 40 (ks_u a 0 (256 * b 0 + b 1)) (jl_up s 40 0 (256 * b 0 + b 1)) := A1
  clear A1
  generalize jl_up s 40 0 (256 * b 0 + b 1) = s1 at *
  have p2 : jf_X10_pairAt 2 s1 = some (256 * b 2 + b 3, s1) := (WT f1).2.pair (i := 2) (by omega) (by omega) hb
  have A2 : kc_A (ks_np Z) 40 (kt_o2 b a) (jl_up s1 40 1 (256 * b 2 + b 3)) := A1'.up1 (n01 2 (by omega))
  have f2 : jp_fr kc_FO s (jl_up s1 40 1 (256 * b 2 + b 3)) := f1.up (by decide)
  rw [p2, jp_bd, jp_lm]
  generalize jl_up s1 40 1 (256 * b 2 + b 3) = s2 at *
  refine ku_for (α := jl_Mm) (G := fun g p τ => jf_X7_readPicture_L23 g 40 H ((4 + p : Nat) : Int) ((p : Nat) : Int) τ) (N := ks_np Z) (P := fun o => jE o 0 kc_FO s (kc_A (ks_np Z) 40 (kt_oc b (ks_np Z) (kt_oh b (kt_o2 b a) (ks_np Z)) (ks_nl Z)))) (I := fun p τ => jp_fr kc_FO s τ ∧ kc_A (ks_np Z) 40 (kt_oh b (kt_o2 b a) p) τ) (fun g p τ hp hI => Or.inr ?_) (fun g τ hI => ?_) (ks_np Z) 0 jl_fu s2 (Nat.zero_add _) (by show ks_np Z < 4000; omega) ⟨f2, A2⟩
  · obtain ⟨hf, hI⟩ := hI
    obtain ⟨W, T⟩ := WT hf
    have ea : jl_add ((4 + p : Nat) : Int) 1 = ((4 + (p + 1) : Nat) : Int) := by rw [jp_add (by omega) (by omega)]; omega
    have eb : jl_add (p : Int) 1 = ((p + 1 : Nat) : Int) := by rw [jp_add (by omega) (by omega)]; omega
    refine ⟨jl_up τ 41 p (b (4 + p)), ?_, hf.up (by simp [jp_in]), hI.uph (by omega) (nb _ (by omega))⟩
    show jf_X7_readPicture_L23 (g + 1) 40 H ((4 + p : Nat) : Int) (p : Int) τ = jf_X7_readPicture_L23 g 40 H ((4 + (p + 1) : Nat) : Int) ((p + 1 : Nat) : Int) _
    rw [jf_X7_readPicture_L23, W.n2, if_neg (by omega), T.at (by omega) (by omega), jp_bd, if_pos (by omega), Int.toNat_natCast, jp_lm, ea, eb]
  · obtain ⟨hf, hI⟩ := hI
    obtain ⟨W, T⟩ := WT hf
    show jE (jf_X7_readPicture_L23 (g + 1) 40 H ((4 + ks_np Z : Nat) : Int) ((ks_np Z : Nat) : Int) τ) _ _ _ _
    rw [jf_X7_readPicture_L23, W.n2, if_pos (Int.le_refl _)]
    refine ku_for (α := jl_Mm) (G := fun g l τ => jf_X7_readPicture_L56 g 40 H ((4 + ks_np Z + 2 * l : Nat) : Int) ((l : Nat) : Int) τ) (N := ks_nl Z) (P := fun o => jE o 0 kc_FO s (kc_A (ks_np Z) 40 (kt_oc b (ks_np Z) (kt_oh b (kt_o2 b a) (ks_np Z)) (ks_nl Z)))) (I := fun l τ => jp_fr kc_FO s τ ∧ kc_A (ks_np Z) 40 (kt_oc b (ks_np Z) (kt_oh b (kt_o2 b a) (ks_np Z)) l) τ) (fun g l τ hl hI => Or.inr ?_) (fun g τ hI => ?_) (ks_nl Z) 0 jl_fu τ (Nat.zero_add _) (by show ks_nl Z < 4000; omega) ⟨hf, hI⟩
    · obtain ⟨hf, hI⟩ := hI
      obtain ⟨W, T⟩ := WT hf
      have ea : jl_add ((4 + ks_np Z + 2 * l : Nat) : Int) 1 = ((4 + ks_np Z + (2 * l + 1) : Nat) : Int) := by rw [jp_add (by omega) (by omega)]; omega
      have ea2 : jl_add ((4 + ks_np Z + (2 * l + 1) : Nat) : Int) 1 = ((4 + ks_np Z + 2 * (l + 1) : Nat) : Int) := by rw [jp_add (by omega) (by omega)]; omega
      have eb : jl_add (l : Int) 1 = ((l + 1 : Nat) : Int) := by rw [jp_add (by omega) (by omega)]; omega
      have C := hI.upc (l := l) (v := b (4 + ks_np Z + 2 * l)) (by omega) (nb _ (by omega))
      have fC : jp_fr kc_FO s (jl_up τ 42 l (b (4 + ks_np Z + 2 * l))) := hf.up (by simp [jp_in])
      have D := C.upt (l := l) (v := b (4 + ks_np Z + (2 * l + 1))) (by omega) (nb _ (by omega))
      refine ⟨jl_up (jl_up τ 42 l (b (4 + ks_np Z + 2 * l))) 43 l (b (4 + ks_np Z + (2 * l + 1))), ?_, fC.up (by simp [jp_in]), D⟩
      show jf_X7_readPicture_L56 (g + 1) 40 H ((4 + ks_np Z + 2 * l : Nat) : Int) (l : Int) τ = jf_X7_readPicture_L56 g 40 H ((4 + ks_np Z + 2 * (l + 1) : Nat) : Int) ((l + 1 : Nat) : Int) _
      rw [jf_X7_readPicture_L56, W.n3, if_neg (by omega), T.at (by omega) (by omega), jp_bd, if_pos (by omega), Int.toNat_natCast, jp_lm, ea]
      show jl_bd (jf_X10_byteAt ((4 + ks_np Z + (2 * l + 1) : Nat) : Int) (jl_up τ 42 l (b (4 + ks_np Z + 2 * l)))) _ = _
      rw [(WT fC).2.at (by omega) (by omega), jp_bd, if_pos (by omega), jp_lm, ea2, eb]
    · obtain ⟨hf, hI⟩ := hI
      obtain ⟨W, T⟩ := WT hf
      show jE (jf_X7_readPicture_L56 (g + 1) 40 H ((4 + ks_np Z + 2 * ks_nl Z : Nat) : Int) ((ks_nl Z : Nat) : Int) τ) _ _ _ _
      rw [jf_X7_readPicture_L56, W.n3, if_pos (Int.le_refl _)]
      exact ⟨τ, rfl, hf, hI⟩
/-- the reference takes it -/
abbrev kr_FOo : jp_F := [(249, 0, 0), (206, 72, 73)]
theorem kr_FOon {c i : Nat} (h : c ≠ 249) (h2 : c = 206 → i ≠ 72) : jp_in kr_FOo c i = false := by simp [jp_in]; omega
theorem kr_read {Z : jz_Z} {b a : Nat → Int} {x : Nat} {s : jl_Mm} (hW : kr_W Z s) (hA : kr_A (kt_o2 b a) s) (hT : kt_PI b 207 x s) (hx : x = kt_pn Z + 1) (hb : ∀ i, i < x → 0 ≤ b i ∧ b i ≤ 255) :
    jE (jf_X12_on_L55 jl_fu ((4 + ks_np Z : Nat) : Int) 0 s) 1 kr_FOo s (fun τ => kr_A (kt_on Z b a) τ ∧ jl_g τ 206 72 = 0) := by
  have h6 := hW.1.p
  have h8 := hW.1.l
  have ep : kt_pn Z = 4 + ks_np Z + 2 * ks_nl Z := rfl
  have nb : ∀ i, i < x → jl_n3 (b i) := fun i hi => ⟨by have := hb i hi; omega, by have := hb i hi; omega⟩
  have n1 : ∀ {c i : Nat}, c ≠ 249 → jp_in [(249, 0, 0)] c i = false := by intro c i h; simp [jp_in]; omega
  have WT : ∀ {τ}, jp_fr [(249, 0, 0)] s τ → kr_W Z τ ∧ kt_PI b 207 x τ := fun f => ⟨hW.fr f (fun c i h1 h2 => n1 (by omega)), fun i hi => (f.g _ _ (n1 (by omega))).trans (hT i hi)⟩
  refine ku_for (α := jl_Mm) (G := fun g p τ => jf_X12_on_L55 g ((4 + ks_np Z : Nat) : Int) ((p : Nat) : Int) τ) (N := ks_np Z) (P := fun o => jE o 1 kr_FOo s (fun τ => kr_A (kt_on Z b a) τ ∧ jl_g τ 206 72 = 0)) (I := fun p τ => jp_fr [(249, 0, 0)] s τ ∧ kr_A (kt_oh b (kt_o2 b a) p) τ) (fun g p τ hp hI => Or.inr ?_) (fun g τ hI => ?_) (ks_np Z) 0 jl_fu s (Nat.zero_add _) (by show ks_np Z < 4000; omega) ⟨jp_fr.rf, hA⟩
  · obtain ⟨hf, hI⟩ := hI
    obtain ⟨W, T⟩ := WT hf
    have e1 : jl_add 4 (p : Int) = ((4 + p : Nat) : Int) := by rw [jp_add (by omega) (by omega)]; omega
    have e2 : jl_add 2 (p : Int) = ((2 + p : Nat) : Int) := by rw [jp_add (by omega) (by omega)]; omega
    have eb : jl_add (p : Int) 1 = ((p + 1 : Nat) : Int) := by rw [jp_add (by omega) (by omega)]; omega
    refine ⟨jl_up τ 249 (2 + p) (b (4 + p)), ?_, hf.up (by simp [jp_in]), hI.up (nb _ (by omega))⟩
    show jf_X12_on_L55 (g + 1) ((4 + ks_np Z : Nat) : Int) (p : Int) τ = jf_X12_on_L55 g ((4 + ks_np Z : Nat) : Int) ((p + 1 : Nat) : Int) _
    rw [jf_X12_on_L55, W.np, jp_bd, if_neg (by omega), e1, if_pos (by omega), e2, if_pos (by omega), Int.toNat_natCast, Int.toNat_natCast, T _ (by omega), jp_lm, eb]
  · obtain ⟨hf, hI⟩ := hI
    obtain ⟨W, T⟩ := WT hf
    show jE (jf_X12_on_L55 (g + 1) ((4 + ks_np Z : Nat) : Int) ((ks_np Z : Nat) : Int) τ) _ _ _ _
    rw [jf_X12_on_L55, W.np, jp_bd, if_pos (Int.le_refl _)]
    refine ku_for (α := jl_Mm) (G := fun g l τ => jf_X12_on_L87 g ((4 + ks_np Z : Nat) : Int) ((l : Nat) : Int) τ) (N := ks_nl Z) (P := fun o => jE o 1 kr_FOo s (fun τ => kr_A (kt_on Z b a) τ ∧ jl_g τ 206 72 = 0)) (I := fun l τ => jp_fr [(249, 0, 0)] s τ ∧ kr_A (kt_oc b (ks_np Z) (kt_oh b (kt_o2 b a) (ks_np Z)) l) τ) (fun g l τ hl hI => Or.inr ?_) (fun g τ hI => ?_) (ks_nl Z) 0 jl_fu τ (Nat.zero_add _) (by show ks_nl Z < 4000; omega) ⟨hf, hI⟩
    · obtain ⟨hf, hI⟩ := hI
      obtain ⟨W, T⟩ := WT hf
      have e1 : jl_add ((4 + ks_np Z : Nat) : Int) (jl_mul 2 (l : Int)) = ((4 + ks_np Z + 2 * l : Nat) : Int) := by rw [jp_mul (by omega) (by omega), jp_add (by omega) (by omega)]; omega
      have e2 : jl_add ((4 + ks_np Z + 2 * l : Nat) : Int) 1 = ((4 + ks_np Z + (2 * l + 1) : Nat) : Int) := by rw [jp_add (by omega) (by omega)]; omega
      have e3 : jl_add 8 (l : Int) = ((8 + l : Nat) : Int) := by rw [jp_add (by omega) (by omega)]; omega
      have e4 : jl_add 16 (l : Int) = ((16 + l : Nat) : Int) := by rw [jp_add (by omega) (by omega)]; omega
      have eb : jl_add (l : Int) 1 = ((l + 1 : Nat) : Int) := by rw [jp_add (by omega) (by omega)]; omega
      have g2 : jl_g (jl_up τ 249 (8 + l) (b (4 + ks_np Z + 2 * l))) 207 (4 + ks_np Z + (2 * l + 1)) = b (4 + ks_np Z + (2 * l + 1)) := by rw [jp_g_ne (by decide)]; exact T _ (by omega)
      refine ⟨jl_up (jl_up τ 249 (8 + l) (b (4 + ks_np Z + 2 * l))) 249 (16 + l) (b (4 + ks_np Z + (2 * l + 1))), ?_, (hf.up (by simp [jp_in])).up (by simp [jp_in]), (hI.up (nb _ (by omega))).up (nb _ (by omega))⟩
      show jf_X12_on_L87 (g + 1) ((4 + ks_np Z : Nat) : Int) (l : Int) τ = jf_X12_on_L87 g ((4 + ks_np Z : Nat) : Int) ((l + 1 : Nat) : Int) _
      rw [jf_X12_on_L87, W.nl, jp_bd, if_neg (by omega), e1, if_pos (by omega), e3, if_pos (by omega), Int.toNat_natCast, Int.toNat_natCast, T _ (by omega), jp_lm, e2, if_pos (by omega), e4, if_pos (by omega), Int.toNat_natCast, Int.toNat_natCast, g2, jp_lm, eb]
    · obtain ⟨hf, hI⟩ := hI
      obtain ⟨W, T⟩ := WT hf
      show jE (jf_X12_on_L87 (g + 1) ((4 + ks_np Z : Nat) : Int) ((ks_nl Z : Nat) : Int) τ) _ _ _ _
      rw [jf_X12_on_L87, W.nl, jp_bd, if_pos (Int.le_refl _), show ((24 : Int) : Int).toNat = 24 from rfl, jp_lm, jp_lm, jp_zb1]
      refine ⟨_, rfl, ((hf.w (by decide)).up (by decide)).up (by decide), (hI.up ⟨by decide, by decide⟩).fr (F := [(206, 72, 73)]) (jp_fr.rf.up (by decide)) (fun i => by simp [jp_in]), jp_g_eq (by decide) (by decide)⟩
theorem kr_M.frU {d : kD} {s τ : jl_Mm} {F : jp_F} (h : kr_M d s) (f : jp_fr F s τ) (w : ∀ c i, c = 207 ∨ c = 208 ∨ c = 253 ∨ c = 285 ∨ (c = 206 ∧ (i = 1 ∨ i = 7 ∨ i = 8 ∨ i = 65 ∨ i = 74 ∨ i = 110)) → jp_in F c i = false) : kr_M d τ := by
  obtain ⟨h1, h2, h3, h4, h5, h6⟩ := h
  exact ⟨fun i hi => (f.g _ _ (w _ _ (by omega))).trans (h1 i hi), ⟨(f.g _ _ (w _ _ (by omega))).trans h2.1, (f.g _ _ (w _ _ (by omega))).trans h2.2⟩, ⟨(f.g _ _ (w _ _ (by omega))).trans h3.1, fun i hi => (f.g _ _ (w _ _ (by omega))).trans (h3.2 i hi)⟩, ⟨(f.g _ _ (w _ _ (by omega))).trans h4.1, fun i hi => (f.g _ _ (w _ _ (by omega))).trans (h4.2 i hi)⟩, ⟨(f.g _ _ (w _ _ (by omega))).trans h5.1, fun i hi => (f.g _ _ (w _ _ (by omega))).trans (h5.2 i hi)⟩, (f.gl _ _ (w _ _ (by omega))).trans h6⟩
abbrev kc_FPo : jp_F := [(40, 0, 2), (41, 0, 0), (42, 0, 0), (43, 0, 0), (44, 3, 4), (47, 3, 4), (1, 1, 2), (205, 0, 0)]
abbrev kr_FPo : jp_F := [(249, 0, 0), (206, 72, 73), (206, 1, 2), (208, 0, 0)]
theorem kIv.on {Z : jz_Z} {Ds : Nat → List Int} {a a' : Nat → Int} {d : kD} {nx n : Nat} (h : kIv Z Ds a d nx n) (h' : kz_N Z Ds a') : kIv Z Ds a' (kd_len d) nx 0 := by
  obtain ⟨-, h2, h3, h4, h5, h6, h7, h8, -⟩ := h.len
  exact ⟨h', ⟨h2.1, by omega⟩, h3, h4, h5, h6, h7, h8, fun j hj => by omega⟩
theorem kI_on : kI_call jf_X11_on jf_X12_on := kI_mkV (fun Z Ds a d nx n hZ hV => by
  have h3 := hV.2.2.1
  have h4 := hV.2.2.2.1
  obtain ⟨x, hx⟩ : ∃ x : Nat, d 3 0 = (x : Int) := ⟨(d 3 0).toNat, by omega⟩
  have hb : ∀ i, i < x → 0 ≤ d 2 i ∧ d 2 i ≤ 255 := fun i hi => h4 i (by omega)
  have Tc : ∀ {s}, kIc Z Ds a d nx n s → kc_Tp (d 2) x s := fun hs => ⟨hs.M.2.2.1.1.trans hx, fun i hi => hs.M.2.2.1.2 i (by omega)⟩
  have Tr : ∀ {s}, kIr Z Ds a d nx n s → kt_PI (d 2) 207 x (jl_up s 206 1 0) := fun hs i hi => by rw [jp_g_ne (by decide)]; exact hs.2.1.2.2.1.2 i (by omega)
  have f1 : ∀ {s}, jp_fr [(206, 1, 2)] s (jl_up s 206 1 0) := jp_fr.rf.up (by decide)
  have n1 : ∀ {c i : Nat}, (c = 206 → i ≠ 1) → jp_in [(206, 1, 2)] c i = false := by intro c i h; simp [jp_in]; omega
  have Wr : ∀ {s}, kIr Z Ds a d nx n s → kr_W Z (jl_up s 206 1 0) ∧ kr_A a (jl_up s 206 1 0) ∧ jl_g (jl_up s 206 1 0) 206 54 = if 0 < ks_nw Z then 1 else 0 := fun hs => ⟨hs.1.1.fr f1 (fun c i _ _ => n1 (by omega)), hs.1.2.2.1.fr f1 (fun i => n1 (by intro z; omega)), by rw [jp_g_nei (by decide)]; exact hs.1.2.2.2.2⟩
  have wc : ∀ c i, 206 ≤ c → jp_in kc_FPo c i = false := by intro c i h; simp [jp_in]; omega
  have wr : ∀ c i, c < 206 → jp_in kr_FPo c i = false := by intro c i h; simp [jp_in]; omega
  have z68 : ∀ k t, k = 0 ∨ k = 1 → jf_X11_on_B68 k t = some (k, t) := fun k t h => by rw [jf_X11_on_B68, jp_zb t h]
  by_cases c : kz_pic Z (d 2) x
  · have hw := c.1
    have hN' := kt_on_N hZ hV.1 c hb
    have px : kt_pn Z + 1 ≤ 1600 := by have := c.2.1; omega
    refine ⟨1, kc_FPo, kr_FPo, Z, Ds, kt_on Z (d 2) a, kd_len d, nx, 0, wc, wr, hV.on hN', fun s hs => ?_, fun s hs => ?_⟩
    · have M := hs.M
      obtain ⟨H, G, ⟨hW, hK, hA⟩, hG, ⟨g1, g2, g3⟩, hc, -, hP⟩ := hs
      have T : kc_Tp (d 2) x s := ⟨M.2.2.1.1.trans hx, fun i hi => M.2.2.1.2 i (by omega)⟩
      obtain ⟨τ, t1, t2, t3⟩ := kc_read hW hA T c.2.1 hb
      have f3 : jp_fr [(44, 3, 4), (47, 3, 4)] τ (jl_up (jl_up τ 44 3 0) 47 3 0) := (jp_fr.rf.up (by decide)).up (by decide)
      have F3 : jp_fr kc_FPo s (jl_up (jl_up τ 44 3 0) 47 3 0) := ((t2.w (by decide)).up (by decide)).up (by decide)
      have gl : jl_g (jl_up (jl_up τ 44 3 0) 47 3 0) 44 3 = 0 := by rw [jp_g_ne (by decide), jp_g_eq (by decide) (by decide)]
      have gp : jl_g (jl_up (jl_up τ 44 3 0) 47 3 0) 47 3 = 0 := jp_g_eq (by decide) (by decide)
      rw [jf_X11_on, kc_has hW, jp_bd, if_pos hw, if_neg (by decide), (kc_pic hW T (by omega) hb hw).1 c, jp_bd, if_neg (by decide), jf_X11_on_B19, if_neg (by decide), hW.g0, hW.gr0, t1, jp_bd, jf_X11_forgetActs, jp_lm, jp_lm, jp_bd, jf_X11_on_B43, jp_lm, if_neg (by decide), jf_X11_on_B63, z68 _ _ (Or.inr rfl)]
      generalize jl_up (jl_up τ 44 3 0) 47 3 0 = s3 at *
      have n3 : ∀ {c i : Nat}, c ≠ 44 → c ≠ 47 → jp_in [(44, 3, 4), (47, 3, 4)] c i = false := by intro c i h h2; simp [jp_in]; omega
      have M3 : kc_M d s3 := (M.fr3 t2 (fun c i _ _ => kc_FOn (by omega))).fr3 f3 (fun c i _ _ => n3 (by omega) (by omega))
      have A3 : kc_A (ks_np Z) 40 _ s3 := t3.fr f3 (n3 (by omega) (by omega)) (n3 (by omega) (by omega)) (fun c i _ _ => n3 (by omega) (by omega))
      have f4 : jp_fr [(1, 1, 2)] s3 (jl_up s3 1 1 0) := jp_fr.rf.up (by decide)
      have n4 : ∀ {c i : Nat}, c ≠ 1 → jp_in [(1, 1, 2)] c i = false := by intro c i h; simp [jp_in]; omega
      have F4 : jp_fr kc_FPo s (jl_up s3 1 1 0) := F3.up (by decide)
      have nF : ∀ {c i : Nat}, c ≠ 1 → (c < 40 ∨ 44 < c) → c ≠ 47 → c ≠ 205 → jp_in kc_FPo c i = false := by intro c i h h2 h3 h4; simp [jp_in]; omega
      refine ⟨_, rfl, F4, H, G, ⟨hW.fr F4 (nF (by decide) (by decide) (by decide) (by decide)) (nF (by decide) (by decide) (by decide) (by decide)) (fun c i _ _ => nF (by omega) (by omega) (by omega) (by omega)), hK.fr hW.2.1 F4 (fun c i _ _ => nF (by omega) (by omega) (by omega) (by omega)), (A3.cg (fun j hj => (ks_un (by omega)).symm)).fr f4 (n4 (by omega)) (n4 (by omega)) (fun c i _ _ => n4 (by omega))⟩, ?_, ⟨(F4 _ _ (nF (by decide) (by decide) (by decide) (by decide))).trans g1, g2, g3⟩, fun q hq => ?_, M3.len, ?_, ?_, fun j hj => by omega⟩
      · obtain ⟨-, p, q1, q2, -⟩ := hG
        refine ⟨?_, p, q1, ?_, fun k hk => ?_⟩
        · rw [f4.g _ _ (n4 (by omega)), gl, kt_on, ks_ue]
        · have e2 : jl_g (jl_up s3 1 1 0) 44 2 = jl_g s 44 2 := F4.g _ _ (by decide)
          exact e2.trans q2
        · rw [kt_on, ks_ue] at hk; omega
      · obtain ⟨v, hv, e⟩ := hc q hq
        exact ⟨v, hv, (F4.g _ _ (nF (by omega) (by omega) (by omega) (by omega))).trans e⟩
      · have e2 : jl_g (jl_up s3 1 1 0) 47 2 = jl_g s 47 2 := F4.g _ _ (by decide)
        exact e2.trans hP.1
      · rw [f4.g _ _ (n4 (by omega)), gp]; rfl
    · obtain ⟨W, A, q54⟩ := Wr hs
      have T := Tr hs
      have M := hs.2.1
      have hH := hs.2.2.1
      have e1 : jl_add 4 ((ks_np Z : Nat) : Int) = ((4 + ks_np Z : Nat) : Int) := by have := hZ.p; rw [jp_add (by omega) (by omega)]; omega
      have ep : kt_pn Z = 4 + ks_np Z + 2 * ks_nl Z := rfl
      have hx1 := c.2.1
      have b0 := hb 0 (by omega)
      have b1 : 0 ≤ d 2 (0 + 1) ∧ d 2 (0 + 1) ≤ 255 := hb 1 (by omega)
      have b2 := hb 2 (by omega)
      have b3 : 0 ≤ d 2 (2 + 1) ∧ d 2 (2 + 1) ≤ 255 := hb 3 (by omega)
      rw [jf_X12_on, M.2.2.1.1, hx, jp_let, jp_lm, (kr_pic W q54 T (by omega) hb).1 c, jp_bd, if_neg (by decide), W.np, jp_bd, e1, jp_let, show jf_X12_twoAt 0 (jl_up s 206 1 0) = _ from kr_two (i := 0) T (by omega) (by omega) hb, jp_bd, show ((0 : Int) : Int).toNat = 0 from rfl, show ((1 : Int) : Int).toNat = 1 from rfl, jp_lm]
      have M1 := M.len
      have F1 : jp_fr kr_FPo s (jl_up s 206 1 0) := jp_fr.rf.up (by decide)
      have H1 : jl_g (jl_up s 206 1 0) 206 73 = (nx : Int) := by rw [jp_g_nei (by decide)]; exact hH.1
      have R1 : jl_g (jl_up s 206 1 0) 206 63 = 0 := by rw [jp_g_nei (by decide)]; exact hs.1.2.2.2.1
      have K1 : kr_K Z Ds (jl_up s 206 1 0) := hs.1.2.1.fr f1 (fun c i _ _ => n1 (by omega))
      have Y1 : jy_W (jl_up s 206 1 0) := hs.2.2.2.1.fr f1 (fun c i hc => n1 (by rcases hc with hc | hc <;> omega))
      have N1 : kr_nm Z (jl_up s 206 1 0) := ⟨fun i hi => ⟨(f1.gl _ _ (n1 (by omega))).trans (hs.2.2.2.2.1 i hi).1, (hs.2.2.2.2.1 i hi).2⟩, fun i hi => ⟨(f1.gl _ _ (n1 (by omega))).trans (hs.2.2.2.2.2 i hi).1, (hs.2.2.2.2.2 i hi).2⟩⟩
      generalize jl_up s 206 1 0 = s1 at *
      have f2 : jp_fr [(249, 0, 0)] s1 (jl_up s1 249 0 (256 * d 2 0 + d 2 (0 + 1))) := jp_fr.rf.up (by decide)
      have n2 : ∀ {c i : Nat}, c ≠ 249 → jp_in [(249, 0, 0)] c i = false := by intro c i h; simp [jp_in]; omega
      have A2 : kr_A _ (jl_up s1 249 0 (256 * d 2 0 + d 2 (0 + 1))) := A.up ⟨by omega, by omega⟩
      have T2 : kt_PI (d 2) 207 x (jl_up s1 249 0 (256 * d 2 0 + d 2 (0 + 1))) := fun i hi => (f2.g _ _ (n2 (by omega))).trans (T i hi)
      generalize jl_up s1 249 0 (256 * d 2 0 + d 2 (0 + 1)) = s2 at *
      rw [show jf_X12_twoAt 2 s2 = _ from kr_two (i := 2) T2 (by omega) (by omega) hb, jp_bd, jp_lm]
      have F3 : jp_fr [(249, 0, 0)] s1 (jl_up s2 249 1 (256 * d 2 2 + d 2 (2 + 1))) := f2.up (by decide)
      have A3 : kr_A (kt_o2 (d 2) a) (jl_up s2 249 1 (256 * d 2 2 + d 2 (2 + 1))) := A2.up ⟨by have := hb 3 (by omega); omega, by have := hb 3 (by omega); omega⟩
      generalize jl_up s2 249 1 (256 * d 2 2 + d 2 (2 + 1)) = s3 at *
      obtain ⟨τ, t1, t2, t3, t4⟩ := kr_read (W.fr F3 (fun c i _ _ => n2 (by omega))) A3 (fun i hi => (F3.g _ _ (n2 (by omega))).trans (T i hi)) hx1 hb
      have Ft : jp_fr kr_FOo s1 τ := (F3.w (by decide)).tr t2
      rw [t1]
      exact ⟨τ, rfl, F1.tr (Ft.w (by decide)), ⟨W.fr Ft (fun c i _ _ => kr_FOon (by omega) (by omega)), K1.fr Ft (fun c i _ _ => kr_FOon (by omega) (by omega)), t3, (Ft.g _ _ (kr_FOon (by omega) (by omega))).trans R1, (Ft.g _ _ (kr_FOon (by omega) (by omega))).trans q54⟩, M1.frU Ft (fun c i hc => kr_FOon (by omega) (by omega)), ⟨(Ft.g _ _ (kr_FOon (by omega) (by omega))).trans H1, t4, fun j hj => by omega⟩, Y1.fr Ft (fun c i hc => kr_FOon (by rcases hc with hc | hc <;> omega) (by rcases hc with hc | hc <;> omega)), ⟨fun i hi => ⟨(Ft.gl _ _ (kr_FOon (by omega) (by omega))).trans (N1.1 i hi).1, (N1.1 i hi).2⟩, fun i hi => ⟨(Ft.gl _ _ (kr_FOon (by omega) (by omega))).trans (N1.2 i hi).1, (N1.2 i hi).2⟩⟩⟩
  · refine ⟨0, kc_FPo, kr_FPo, Z, Ds, a, kd_no (kd_len d) 5, nx, n, wc, wr, hV.len.no, fun s hs => ?_, fun s hs => ?_⟩
    · have M := hs.M
      have T := Tc hs
      have hs' := hs
      obtain ⟨H, G, ⟨hW, -⟩, -⟩ := hs'
      have u : ∀ t, jf_X11_deny 5 t = _ := fun t => kc_deny (k := 5) (s := t) (by decide)
      have f2 : jp_fr [(1, 1, 2)] s (jl_up s 1 1 0) := jp_fr.rf.up (by decide)
      have I1 : kIc Z Ds a (kd_len d) nx n (jl_up s 1 1 0) := hs.m f2 (by intro c i h1 h2; simp [jp_in]; omega) ⟨by decide, by decide⟩ (fun k hk => kd_n (by omega)) M.len
      have e : jf_X11_on s = jf_X11_on_B18 s := by
        rw [jf_X11_on, kc_has hW, jp_bd]
        by_cases hw : 0 < ks_nw Z
        · rw [if_pos hw, if_neg (by decide), (kc_pic hW T (by omega) hb hw).2 c, jp_bd, if_pos rfl]
        · rw [if_neg hw, if_pos rfl]
      rw [e, jf_X11_on_B18, jf_X11_on_B19, if_pos rfl, jf_X11_on_B43, jp_lm, if_pos rfl, u, jp_bd, if_pos rfl, z68 _ _ (Or.inl rfl)]
      exact ⟨_, rfl, (jp_fr.rf.up (by decide) : jp_fr kc_FPo s (jl_up s 1 1 0)).up (by decide), I1.no (by decide)⟩
    · obtain ⟨W, A, q54⟩ := Wr hs
      have T := Tr hs
      have M := hs.2.1
      have u : ∀ t, jf_X12_isRefused 5 t = _ := fun t => kr_isRefused (k := 5) (s := t) (by decide)
      have I1 : kIr Z Ds a (kd_len d) nx n (jl_up s 206 1 0) := hs.m f1 (fun c i _ _ => n1 (by omega)) (fun c i _ _ => n1 (by omega)) ⟨by decide, by decide, by decide, by decide⟩ (fun k hk => kd_n (by omega)) M.len
      rw [jf_X12_on, M.2.2.1.1, hx, jp_let, jp_lm, (kr_pic W q54 T (by omega) hb).2 c, jp_bd, if_pos rfl, u, jp_bd, jp_zb0]
      exact ⟨_, rfl, (jp_fr.rf.up (by decide) : jp_fr kr_FPo s (jl_up s 206 1 0)).up (by decide), I1.no (by decide)⟩)
