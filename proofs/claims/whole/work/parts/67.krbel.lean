/-! PURE, the reference: how draughty, who is believed -/
def kr_C (w : Nat) (D U : List Int) (s : jl_Mm) : Prop :=
  (jl_g s 246 (3 + w) = -1 ∧ D = U) ∨ ∃ f t : Nat, jl_g s 246 (3 + w) = (f : Int) ∧ jl_g s 247 (3 + w) = (t : Int) ∧ f + D.length = t ∧ t ≤ 1600 ∧ ∀ i (h : i < D.length), jl_g s 248 (1600 + (f + i)) = D[i]
def kr_K (Z : jz_Z) (Ds : Nat → List Int) (s : jl_Mm) : Prop := 0 < ks_nw Z → kr_C 0 (Ds 0) [1000] s ∧ kr_C 1 (Ds 1) [1001, 43, 1] s ∧ kr_C 2 (Ds 2) [13] s
theorem kr_C.fr {w : Nat} {D U : List Int} {s τ : jl_Mm} {F : jp_F} (h : kr_C w D U s) (f : jp_fr F s τ) (z : ∀ c i, 246 ≤ c → c < 249 → jp_in F c i = false) : kr_C w D U τ := by
  rcases h with ⟨h1, h2⟩ | ⟨a, b, h1, h2, h3, h4, h5⟩
  · exact Or.inl ⟨(f.g _ _ (z _ _ (by omega) (by omega))).trans h1, h2⟩
  · exact Or.inr ⟨a, b, (f.g _ _ (z _ _ (by omega) (by omega))).trans h1, (f.g _ _ (z _ _ (by omega) (by omega))).trans h2, h3, h4, fun i hi => (f.g _ _ (z _ _ (by omega) (by omega))).trans (h5 i hi)⟩
theorem kr_K.fr {Z : jz_Z} {Ds : Nat → List Int} {s τ : jl_Mm} {F : jp_F} (h : kr_K Z Ds s) (f : jp_fr F s τ) (z : ∀ c i, 246 ≤ c → c < 249 → jp_in F c i = false) : kr_K Z Ds τ := fun y => ⟨(h y).1.fr f z, (h y).2.1.fr f z, (h y).2.2.fr f z⟩
theorem kr_coded {w : Nat} {D U : List Int} {s : jl_Mm} (hw : w < 3) (h : kr_C w D U s) : jf_X12_isCoded (w : Int) s = some (if jl_g s 246 (3 + w) = -1 then 0 else 1, s) := by
  have ew : jl_add 3 (w : Int) = ((3 + w : Nat) : Int) := by rw [jp_add (by omega) (by omega)]; omega
  rw [jf_X12_isCoded, ew, if_pos (by omega), Int.toNat_natCast]
  simp only [jf_X12_isCoded_B17]
  by_cases z : jl_g s 246 (3 + w) = -1
  · rw [if_pos z, if_pos z, jp_zb0]
  · rw [if_neg z, if_neg z, jp_zb1]
def kr_FT : jp_F := [(284, 0, 0), (206, 106, 107), (206, 55, 56)]
theorem kr_FTn {c i : Nat} (h1 : c ≠ 284) (h2 : c = 206 → i ≠ 106 ∧ i ≠ 55) : jp_in kr_FT c i = false := by simp [jp_in, kr_FT]; omega
theorem kr_tell {w : Nat} {D U : List Int} {t : Bool} {env : Int → Int} {of : Int → Int → Int} {s : jl_Mm} (hw : w < 3) (hC : kr_C w D U s) (hn : jl_g s 246 (3 + w) ≠ -1) (hT : jq_ty D [] = some [t]) (h60 : ∀ c ∈ D, c < 60 ∨ 1000 ≤ c) (he : ∀ c ∈ D, 40 ≤ c → c < 50 → kv_b (env c) ∧ ∀ τ, jp_fr kr_FT s τ → jf_X12_qPartOf (c - 40) 0 τ = some (env c, τ)) : jE (jf_X12_codesTell (w : Int) s) (kv_val env of D) kr_FT s (fun _ => True) := by
  rcases hC with ⟨h1, -⟩ | ⟨p, to, h1, h2, h3, h4, h5⟩
  · exact absurd h1 hn
  · have ew : jl_add 3 (w : Int) = ((3 + w : Nat) : Int) := by rw [jp_add (by omega) (by omega)]; omega
    have f : jp_fr kr_FT s (jl_up (jl_up s 206 55 (w : Int)) 206 106 0) := (jp_fr.rf.up rfl).up rfl
    have v : jl_g (jl_up (jl_up s 206 55 (w : Int)) 206 106 0) 206 106 = 0 := jp_g_eq (by decide) (by decide)
    rw [jf_X12_codesTell, jp_lm, jp_lm, ew, if_pos (by omega), Int.toNat_natCast]
    generalize jl_up (jl_up s 206 55 (w : Int)) 206 106 0 = τ at *
    rw [f.g 246 _ (kr_FTn (by decide) (by intro z; omega)), h1, jp_let]
    have sub : ∀ a b, jp_fr kr_FP a b → jp_fr kr_FT a b := fun a b g => g.w (by decide)
    have r := kr_tellL (w := w) (to := to) (env := env) (of := of) (s0 := τ) hw h4 ((f.g _ _ (kr_FTn (by decide) (by intro z; omega))).trans h2) D jl_fu p [] [t] [] τ _ h3 (by show D.length < 4000; omega) trivial (Nat.zero_le _) hT ⟨v, trivial⟩ jp_fr.rf (fun i hi => (f.g _ _ (kr_FTn (by decide) (by intro z; omega))).trans (h5 i hi)) h60 (fun c hc x y => ⟨(he c hc x y).1, fun υ g => (he c hc x y).2 υ (f.tr (sub _ _ g))⟩) (kv_val_ok (env := env) (of := of) hT (fun c hc x y => (he c hc x y).1) (fun c hc x v _ => absurd (h60 c hc) (by omega))).1
    obtain ⟨υ, u1, u2, -⟩ := r
    exact ⟨υ, u1, f.tr (sub _ _ u2), trivial⟩
def kr_FD : jp_F := [(250, 0, 0), (206, 58, 59), (284, 0, 0), (206, 106, 107), (206, 55, 56)]
theorem kr_FDn {c i : Nat} (h1 : c ≠ 284) (h2 : c = 206 → i ≠ 106 ∧ i ≠ 55 ∧ i ≠ 58) (h3 : c ≠ 250) : jp_in kr_FD c i = false := by simp [jp_in, kr_FD]; omega
theorem ks_dr0 (h w : Int) : ks_dr [1000] h w = 0 := rfl
theorem kr_draft {Z : jz_Z} {Ds : Nat → List Int} {a : Nat → Int} {w : Nat} {s : jl_Mm} (hZ : kz_V Z) (hV : ks_V Z a) (hA : kr_A a s) (hK : kr_K Z Ds s) (hT : kz_K Z Ds) (hw : w < ks_nw Z) : jE (jf_X12_draftAt (w : Int) s) (ks_dr (Ds 0) (a 0) (w : Int)) [(206, 58, 59), (284, 0, 0), (206, 106, 107), (206, 55, 56)] s (fun _ => True) := by
  have h30 := hZ.w
  have hV0 := hV.1
  have hn : 0 < ks_nw Z := by omega
  have T0 := (hT hn).1
  have C0 := (hK hn).1
  have c0 : jf_X12_isCoded 0 s = some (if jl_g s 246 (3 + 0) = -1 then 0 else 1, s) := kr_coded (w := 0) (by decide) C0
  rw [jf_X12_draftAt, c0, jp_bd]
  by_cases z : jl_g s 246 (3 + 0) = -1
  · have e : Ds 0 = [1000] := by
      rcases C0 with ⟨_, e⟩ | ⟨f, t, e, _⟩
      · exact e
      · rw [e] at z; omega
    rw [if_pos z, if_pos rfl, e, ks_dr0]
    exact jE.ret trivial
  · rw [if_neg z, if_neg (by decide), jp_lm]
    have f : jp_fr [(206, 58, 59)] s (jl_up s 206 58 (w : Int)) := jp_fr.rf.up rfl
    have v : jl_g (jl_up s 206 58 (w : Int)) 206 58 = (w : Int) := jp_g_eq (by omega) (by omega)
    generalize jl_up s 206 58 (w : Int) = τ at *
    have n58 : ∀ c i, c ≠ 206 → jp_in [(206, 58, 59)] c i = false := by intro c i hc; simp [jp_in]; omega
    have A := hA.fr f (fun i => n58 _ _ (by decide))
    obtain ⟨υ, u1, u2, -⟩ := kr_tell (w := 0) (env := fun c => if c = 40 then a 0 else (w : Int)) (of := fun _ v => v) (by decide) (C0.fr f (fun c i _ _ => n58 _ _ (by omega))) (by rw [f.g _ _ (n58 _ _ (by decide))]; exact z) T0.1 (fun c hc => by
      by_cases y : c < 60 ∨ 1000 ≤ c
      · exact y
      · have := (kv_cq (T0.2 c hc) (by omega) (by omega)).1 rfl; omega) (fun c hc x y => by
      have q := (kv_cq (T0.2 c hc) x (by omega)).1 rfl
      rcases q with rfl | rfl
      · refine ⟨⟨by show -1000000 ≤ a 0; omega, by show a 0 ≤ 1000000; omega⟩, fun υ g => ?_⟩
        have : jl_g υ 249 0 = a 0 := (g.g _ _ (kr_FTn (by decide) (by intro z; omega))).trans (A 0 (by decide))
        show some (jl_g υ 249 0, υ) = some (a 0, υ)
        rw [this]
      · refine ⟨⟨by show (-1000000 : Int) ≤ w; omega, by show (w : Int) ≤ 1000000; omega⟩, fun υ g => ?_⟩
        have : jl_g υ 206 58 = (w : Int) := (g.g _ _ (kr_FTn (by decide) (by intro z; omega))).trans v
        show some (jl_g υ 206 58, υ) = some ((w : Int), υ)
        rw [this])
    have hb : kv_b (kv_val (fun c => if c = 40 then a 0 else (w : Int)) (fun _ v => v) (Ds 0)) := by
      have k := (kv_val_ok (env := fun c => if c = 40 then a 0 else (w : Int)) (of := fun _ v => v) T0.1 (fun c _ _ _ => by
        show kv_b (if c = 40 then a 0 else (w : Int))
        split <;> exact ⟨by omega, by omega⟩) (fun _ _ _ _ hv => hv)).2
      rw [if_neg (by decide)] at k
      exact k
    have u1 : jf_X12_codesTell 0 τ = _ := u1
    rw [u1, jp_bd, kr_clamp υ hb.n6 ⟨by decide, by decide⟩, jp_bd]
    exact ⟨υ, rfl, (f.w (by decide)).tr (u2.w (by decide)), trivial⟩
theorem kr_drafts {Z : jz_Z} {Ds : Nat → List Int} {a : Nat → Int} {s : jl_Mm} (hW : kr_W Z s) (hV : ks_V Z a) (hA : kr_A a s) (hK : kr_K Z Ds s) (hT : kz_K Z Ds) : jE (jf_X12_laysDrafts s) 0 kr_FD s (fun τ => ∀ w, w < ks_nw Z → jl_g τ 250 w = ks_dr (Ds 0) (a 0) (w : Int)) := by
  have h30 := hW.1.w
  rw [jf_X12_laysDrafts]
  refine ku_for (α := jl_Mm) (G := fun n k τ => jf_X12_laysDrafts_L2 n ((k : Nat) : Int) τ) (N := ks_nw Z) (P := fun o => jE o 0 kr_FD s (fun τ => ∀ w, w < ks_nw Z → jl_g τ 250 w = ks_dr (Ds 0) (a 0) (w : Int))) (I := fun k τ => jp_fr kr_FD s τ ∧ ∀ w, w < k → jl_g τ 250 w = ks_dr (Ds 0) (a 0) (w : Int)) (fun n k τ hk hI => ?_) (fun n τ hI => ?_) (ks_nw Z) 0 jl_fu s (Nat.zero_add _) (by show ks_nw Z < 4000; omega) ⟨jp_fr.rf, fun w hw => absurd hw (Nat.not_lt_zero _)⟩
  · obtain ⟨hf, hv⟩ := hI
    have W := hW.fr hf (fun c i _ _ => kr_FDn (by omega) (by intro z; omega) (by omega))
    obtain ⟨υ, u1, u2, -⟩ := kr_draft (w := k) hW.1 hV (hA.fr hf (fun i => kr_FDn (by decide) (by intro z; omega) (by decide))) (hK.fr hf (fun c i _ _ => kr_FDn (by omega) (by intro z; omega) (by omega))) hT hk
    have hb := ks_c9_b (kv_val (fun c => if c = 40 then a 0 else (k : Int)) (fun _ v => v) (Ds 0))
    refine Or.inr ⟨jl_up υ 250 k (ks_dr (Ds 0) (a 0) (k : Int)), ?_, (hf.tr (u2.w (by decide))).up rfl, fun w hw => ?_⟩
    · show jf_X12_laysDrafts_L2 (n + 1) ((k : Nat) : Int) τ = jf_X12_laysDrafts_L2 n (((k + 1 : Nat)) : Int) _
      rw [jf_X12_laysDrafts_L2, W.nw, jp_bd, if_neg (by omega), u1, jp_bd, if_pos (by omega), Int.toNat_natCast, jp_lm, jp_add (by omega) (by omega)]
      rfl
    · by_cases e : w = k
      · subst e
        rw [ks_dr]; exact jp_g_eq (by omega) (by omega)
      · rw [jp_g_nei e, u2.g _ _ (by simp [jp_in])]
        exact hv w (by omega)
  · obtain ⟨hf, hv⟩ := hI
    have W := hW.fr hf (fun c i _ _ => kr_FDn (by omega) (by intro z; omega) (by omega))
    show jE (jf_X12_laysDrafts_L2 (n + 1) ((ks_nw Z : Nat) : Int) τ) _ _ _ _
    rw [jf_X12_laysDrafts_L2, W.nw, jp_bd, if_pos (Int.le_refl _)]
    exact jE.fr hf (jE.ret hv)
/-- what a word is, of the LIE l that is asked -/
theorem kr_part {Z : jz_Z} {D0 : List Int} {a : Nat → Int} {held : Int} {l : Nat} {s : jl_Mm} {c v : Int} (hW : kr_W Z s) (hV : ks_V Z a) (hA : kr_A a s) (hl : l < ks_nl Z) (h57 : jl_g s 206 57 = (l : Int)) (h250 : ∀ w, w < ks_nw Z → jl_g s 250 w = ks_dr D0 (a 0) (w : Int)) (hc : 40 ≤ c ∧ c < 50) (h41 : c = 41 → jl_g s 206 58 = a (2 + ks_ow Z l)) (h49 : c = 49 → jl_and (jl_shr (jl_g s 206 59) (l : Int)) 1 = held) : jf_X12_qPartOf (c - 40) v s = some (ks_env Z D0 a held l c, s) := by
  have h8 := hW.1.l
  have hol := hW.1.o hl
  have hp := hW.1.p
  have hw := hW.1.w
  have hb := hV.2.2.1 _ hol.2.1
  obtain rfl | rfl | rfl | rfl | rfl | rfl | rfl | rfl | rfl | rfl : c = 40 ∨ c = 41 ∨ c = 42 ∨ c = 43 ∨ c = 44 ∨ c = 45 ∨ c = 46 ∨ c = 47 ∨ c = 48 ∨ c = 49 := by omega
  · show some (jl_g s 249 0, s) = some (a 0, s)
    rw [hA 0 (by decide)]
  · show some (jl_g s 206 58, s) = some (a (2 + ks_ow Z l), s)
    rw [h41 rfl]
  · have e : jl_add 8 (l : Int) = ((8 + l : Nat) : Int) := by rw [jp_add (by omega) (by omega)]; omega
    show (if 0 ≤ jl_add 8 (jl_g s 206 57) ∧ jl_add 8 (jl_g s 206 57) < ((105 : Nat) : Int) then some (jl_g s 249 (jl_add 8 (jl_g s 206 57)).toNat, s) else none) = some (a (8 + l), s)
    rw [h57, e, if_pos (by omega), Int.toNat_natCast, hA _ (by omega)]
  · show (jl_bd (jf_X12_nearTo (jl_g s 206 57) s) fun r6 s7 => some (r6, s7)) = some (ks_near Z a l, s)
    rw [h57, kr_near hW hV hA hl, jp_bd]
  · obtain ⟨b, hbe⟩ : ∃ b : Nat, a (2 + ks_ow Z l) = (b : Int) := ⟨(a (2 + ks_ow Z l)).toNat, by omega⟩
    show (jl_bd (jf_X12_windowOf (jl_g s 206 57) s) fun r9 s10 => if 0 ≤ r9 ∧ r9 < ((30 : Nat) : Int) then some (jl_g s10 250 (r9).toNat, s10) else none) = some (ks_dr D0 (a 0) (a (2 + ks_ow Z l)), s)
    rw [h57, kr_win hW hA hl, jp_bd, hbe, if_pos (by omega), Int.toNat_natCast, h250 b (by omega)]
  · have e : jl_add 16 (l : Int) = ((16 + l : Nat) : Int) := by rw [jp_add (by omega) (by omega)]; omega
    show (if 0 ≤ jl_add 16 (jl_g s 206 57) ∧ jl_add 16 (jl_g s 206 57) < ((105 : Nat) : Int) then some (jl_g s 249 (jl_add 16 (jl_g s 206 57)).toNat, s) else none) = some (a (16 + l), s)
    rw [h57, e, if_pos (by omega), Int.toNat_natCast, hA _ (by omega)]
  · have e : jl_add 13 (jl_mul 2 ((ks_ow Z l : Nat) : Int)) = ((12 + (2 * ks_ow Z l + 1) : Nat) : Int) := by rw [jp_mul (by omega) (by omega), jp_add (by omega) (by omega)]; omega
    show (jl_bd (jf_X12_personOf (jl_g s 206 57) s) fun r15 s16 => if 0 ≤ jl_add 13 (jl_mul 2 r15) ∧ jl_add 13 (jl_mul 2 r15) < ((24 : Nat) : Int) then some (jl_g s16 243 (jl_add 13 (jl_mul 2 r15)).toNat, s16) else none) = some (Z.2.1 3 (ks_ow Z l), s)
    rw [h57, hW.o hl, jp_bd, e, if_pos (by omega), Int.toNat_natCast, hW.2.2.1 _ (by omega)]
  · show some (jl_g s 206 57, s) = some ((l : Int), s)
    rw [h57]
  · show (jl_bd (jf_X12_isLit (jl_g s 206 57) s) fun r20 s21 => if r20 = 0 then jf_X12_qPartOf_B161 0 s21 else jf_X12_qPartOf_B161 1 s21) = some (if 0 < a (8 + l) then 1 else 0, s)
    rw [h57, hA.lit (by omega), jp_bd]
    by_cases z : 0 < a (8 + l)
    · rw [if_pos z, if_neg (by decide)]; rfl
    · rw [if_neg z, if_pos rfl]; rfl
  · show some (jl_and (jl_shr (jl_g s 206 59) (jl_g s 206 57)) 1, s) = some (held, s)
    rw [h57, h49 rfl]
/-- a sum, a test of the street's own, told of the LIE l that is asked -/
theorem kr_tellS {Z : jz_Z} {Ds : Nat → List Int} {U : List Int} {a : Nat → Int} {l w : Nat} {s : jl_Mm} (hW : kr_W Z s) (hV : ks_V Z a) (hA : kr_A a s) (hl : l < ks_nl Z) (hC : kr_C w (Ds w) U s) (hn : jl_g s 246 (3 + w) ≠ -1) (hT : kz_K Z Ds) (hw : w = 1 ∨ w = 2) (h57 : jl_g s 206 57 = (l : Int)) (h250 : ∀ w, w < ks_nw Z → jl_g s 250 w = ks_dr (Ds 0) (a 0) (w : Int)) : jE (jf_X12_codesTell (w : Int) s) (ks_val Z Ds a w l) kr_FT s (fun _ => True) := by
  obtain ⟨T0, T1, T2⟩ := hT (kz_nw hW.1 hV hl)
  have hT' : ∃ t, jq_ty (Ds w) [] = some [t] := hw.elim (fun q => by rw [q]; exact ⟨_, T1.1⟩) (fun q => by rw [q]; exact ⟨_, T2.1⟩)
  obtain ⟨t, hT'⟩ := hT'
  have hcq : ∀ c ∈ Ds w, jq_cq w c := hw.elim (fun q => by rw [q]; exact T1.2) (fun q => by rw [q]; exact T2.2)
  have no : ∀ c ∈ Ds w, 40 ≤ c → c < 1000 → c ≠ 41 ∧ c < 47 := by
    intro c hc x y
    have z := kv_cq (hcq c hc) x y
    rcases hw with rfl | rfl
    · have := z.2.1 rfl; omega
    · have := z.2.2 rfl; omega
  exact kr_tell (by omega) hC hn hT' (fun c hc => by
    by_cases y : c < 60 ∨ 1000 ≤ c
    · exact y
    · have := no c hc (by omega) (by omega); omega) (fun c hc x y => ⟨ks_env_b hW.1 hV hl ⟨by decide, by decide⟩ c, fun τ g => by
    have z := no c hc x (by omega)
    exact kr_part (hW.fr g (fun c i _ _ => kr_FTn (by omega) (by intro z; omega))) hV (hA.fr g (fun i => kr_FTn (by decide) (by intro z; omega))) hl ((g.g _ _ (kr_FTn (by decide) (by intro z; omega))).trans h57) (fun w hw => (g.g _ _ (kr_FTn (by decide) (by intro z; omega))).trans (h250 w hw)) ⟨x, y⟩ (fun q => by omega) (fun q => by omega)⟩)
def kr_FH : jp_F := [(206, 57, 58), (250, 0, 0), (206, 58, 59), (284, 0, 0), (206, 106, 107), (206, 55, 56)]
theorem kr_FHn {c i : Nat} (h1 : c ≠ 284) (h2 : c = 206 → i ≠ 106 ∧ i ≠ 55 ∧ i ≠ 58 ∧ i ≠ 57) (h3 : c ≠ 250) : jp_in kr_FH c i = false := by simp [jp_in, kr_FH]; omega
def kr_FB : jp_F := [(206, 57, 58), (284, 0, 0), (206, 106, 107), (206, 55, 56)]
theorem kr_FBn {c i : Nat} (h1 : c ≠ 284) (h2 : c = 206 → i ≠ 106 ∧ i ≠ 55 ∧ i ≠ 57) : jp_in kr_FB c i = false := by simp [jp_in, kr_FB]; omega
theorem kr_held {Z : jz_Z} {Ds : Nat → List Int} {a : Nat → Int} {s : jl_Mm} (hW : kr_W Z s) (hV : ks_V Z a) (hA : kr_A a s) (hK : kr_K Z Ds s) (hT : kz_K Z Ds) : jE (jf_X12_laysHeld s) (ks_belB Z Ds a) kr_FH s (fun τ => ∀ w, w < ks_nw Z → jl_g τ 250 w = ks_dr (Ds 0) (a 0) (w : Int)) := by
  have hn := hW.1.l
  obtain ⟨s1, d1, d2, d3⟩ := kr_drafts hW hV hA hK hT
  rw [jf_X12_laysHeld, d1, jp_bd]
  have fs1 : jp_fr kr_FH s s1 := d2.w (by decide)
  have W1 := hW.fr fs1 (fun c i _ _ => kr_FHn (by omega) (by intro z; omega) (by omega))
  have A1 := hA.fr fs1 (fun i => kr_FHn (by decide) (by intro z; omega) (by decide))
  have K1 := hK.fr fs1 (fun c i _ _ => kr_FHn (by omega) (by intro z; omega) (by omega))
  refine jE.fr fs1 ?_
  refine ku_for (α := jl_Mm) (G := fun n k τ => jf_X12_laysHeld_L8 n (ku_b (ks_belS Z Ds a k) k) ((k : Nat) : Int) τ) (N := ks_nl Z) (P := fun o => jE o (ks_belB Z Ds a) kr_FH s1 (fun τ => ∀ w, w < ks_nw Z → jl_g τ 250 w = ks_dr (Ds 0) (a 0) (w : Int))) (I := fun _ τ => jp_fr kr_FB s1 τ) (fun n k τ hk hf => ?_) (fun n τ hf => ?_) (ks_nl Z) 0 jl_fu s1 (Nat.zero_add _) (by show ks_nl Z < 4000; omega) jp_fr.rf
  · have W := W1.fr hf (fun c i _ _ => kr_FBn (by omega) (by intro z; omega))
    have A := A1.fr hf (fun i => kr_FBn (by decide) (by intro z; omega))
    have K := K1.fr hf (fun c i _ _ => kr_FBn (by omega) (by intro z; omega))
    have d3' : ∀ w, w < ks_nw Z → jl_g τ 250 w = ks_dr (Ds 0) (a 0) (w : Int) := fun w hw => (hf.g _ _ (kr_FBn (by decide) (by intro z; omega))).trans (d3 w hw)
    have hb := (hW.1.2.2.2.2.2.2.2.1 k (by omega)).2
    have ek : jl_add (k : Int) 1 = ((k + 1 : Nat) : Int) := jp_add (by omega) (by omega)
    refine Or.inr ?_
    show ∃ x', jf_X12_laysHeld_L8 (n + 1) (ku_b (ks_belS Z Ds a k) k) ((k : Nat) : Int) τ = jf_X12_laysHeld_L8 n (ku_b (ks_belS Z Ds a (k + 1)) (k + 1)) (((k + 1 : Nat)) : Int) x' ∧ jp_fr kr_FB s1 x'
    rw [jf_X12_laysHeld_L8, W.nl, jp_bd, if_neg (by omega), A.lit (by omega), jp_bd, ks_bel_b]
    by_cases z : 0 < a (8 + k)
    · rw [if_pos z, if_neg (by decide), W.b hk, jp_bd]
      have go : (Z.2.1 6 k < 0 ∨ ks_belS Z Ds a k (Z.2.1 6 k).toNat = true) → ∃ x', jf_X12_laysHeld_B48 (jf_X12_laysHeld_L8 n) (ku_b (ks_belS Z Ds a k) k) ((k : Nat) : Int) τ = jf_X12_laysHeld_L8 n (if ks_cond Z Ds a (ks_belS Z Ds a k) k = true then jl_or (ku_b (ks_belS Z Ds a k) k) (jl_shl 1 ((k : Nat) : Int)) else ku_b (ks_belS Z Ds a k) k) (((k + 1 : Nat)) : Int) x' ∧ jp_fr kr_FB s1 x' := by
        intro hB
        have f5 : jp_fr [(206, 57, 58)] τ (jl_up τ 206 57 (k : Int)) := jp_fr.rf.up rfl
        have v5 : jl_g (jl_up τ 206 57 (k : Int)) 206 57 = (k : Int) := jp_g_eq (by omega) (by omega)
        have n5 : ∀ c i, c ≠ 206 → jp_in [(206, 57, 58)] c i = false := by intro c i hc; simp [jp_in]; omega
        rw [jf_X12_laysHeld_B48, jp_lm]
        generalize jl_up τ 206 57 (k : Int) = τ5 at *
        have K5 := (K (kz_nw hW.1 hV hk)).2.2.fr f5 (fun c i _ _ => n5 _ _ (by omega))
        have c2 : jf_X12_isCoded 2 τ5 = some (if jl_g τ5 246 (3 + 2) = -1 then 0 else 1, τ5) := kr_coded (w := 2) (by decide) K5
        rw [c2, jp_bd]
        by_cases y : jl_g τ5 246 (3 + 2) = -1
        · have e : Ds 2 = [13] := by
            rcases K5 with ⟨_, e⟩ | ⟨f, t, e, _⟩
            · exact e
            · rw [e] at y; omega
          have hv : ks_val Z Ds a 2 k = 1 := by rw [ks_val, e]; rfl
          have hp : ks_cond Z Ds a (ks_belS Z Ds a k) k = true := decide_eq_true ⟨z, hB, hv⟩
          rw [if_pos y, if_pos rfl, jf_X12_laysHeld_B71, jp_let, jf_X12_laysHeld_B77, ek, if_pos hp]
          exact ⟨τ5, rfl, hf.tr (f5.w (by decide))⟩
        · obtain ⟨υ, u1, u2, -⟩ := kr_tellS (w := 2) (W.fr f5 (fun c i _ _ => n5 _ _ (by omega))) hV (A.fr f5 (fun i => n5 _ _ (by decide))) hk K5 y hT (Or.inr rfl) v5 (fun w hw => (f5.g _ _ (n5 _ _ (by decide))).trans (d3' w hw))
          have hv01 := (ks_val_ok hW.1 hV hT hk).1
          have u1 : jf_X12_codesTell 2 τ5 = _ := u1
          rw [if_neg y, if_neg (by decide), u1, jp_bd, jp_lcmp (by rcases hv01 with q | q <;> rw [q] <;> exact ⟨by decide, by decide⟩) ⟨by decide, by decide⟩]
          refine ⟨υ, ?_, hf.tr ((f5.w (by decide)).tr (u2.w (by decide)))⟩
          rcases hv01 with v | v
          · have hp : ks_cond Z Ds a (ks_belS Z Ds a k) k = false := decide_eq_false (fun q => by rw [v] at q; exact absurd q.2.2 (by decide))
            rw [v, if_neg (by decide), jf_X12_laysHeld_B77, ek, if_neg (by rw [hp]; decide)]
          · have hp : ks_cond Z Ds a (ks_belS Z Ds a k) k = true := decide_eq_true ⟨z, hB, v⟩
            rw [v, if_pos (by decide), jf_X12_laysHeld_B71, jp_let, jf_X12_laysHeld_B77, ek, if_pos hp]
      by_cases c1 : Z.2.1 6 k = -1
      · rw [if_pos c1]
        exact go (Or.inl (by omega))
      · obtain ⟨b, hbe⟩ : ∃ b : Nat, Z.2.1 6 k = (b : Int) := ⟨(Z.2.1 6 k).toNat, by omega⟩
        have hbit := ku_b_bit (ks_belS Z Ds a k) (b := b) (n := k) (by omega) (by omega)
        rw [if_neg c1, W.b hk, jp_bd, hbe, hbit]
        by_cases c2 : ks_belS Z Ds a k b = true
        · rw [if_pos c2, if_neg (by decide)]
          exact go (Or.inr (by rw [hbe, Int.toNat_natCast]; exact c2))
        · have hp : ks_cond Z Ds a (ks_belS Z Ds a k) k = false := decide_eq_false (fun q => by
            rcases q.2.1 with y | y
            · omega
            · rw [hbe, Int.toNat_natCast] at y; exact c2 y)
          rw [if_neg c2, if_pos rfl, jf_X12_laysHeld_B77, ek, if_neg (by rw [hp]; decide)]
          exact ⟨τ, rfl, hf⟩
    · have hp : ks_cond Z Ds a (ks_belS Z Ds a k) k = false := decide_eq_false (fun q => z q.1)
      rw [if_neg z, if_pos rfl, jf_X12_laysHeld_B77, ek, if_neg (by rw [hp]; decide)]
      exact ⟨τ, rfl, hf⟩
  · have W := W1.fr hf (fun c i _ _ => kr_FBn (by omega) (by intro z; omega))
    show jE (jf_X12_laysHeld_L8 (n + 1) (ku_b (ks_belS Z Ds a (ks_nl Z)) (ks_nl Z)) ((ks_nl Z : Nat) : Int) τ) (ks_belB Z Ds a) kr_FH s1 (fun τ => ∀ w, w < ks_nw Z → jl_g τ 250 w = ks_dr (Ds 0) (a 0) (w : Int))
    rw [jf_X12_laysHeld_L8, W.nl, jp_bd, if_pos (Int.le_refl _)]
    exact jE.fr (hf.w (by decide)) (jE.ret (fun w hw => (hf.g _ _ (kr_FBn (by decide) (by intro z; omega))).trans (d3 w hw)))
theorem kr_isHeld {Z : jz_Z} {Ds : Nat → List Int} {a : Nat → Int} {l : Nat} {s : jl_Mm} (hW : kr_W Z s) (hV : ks_V Z a) (hA : kr_A a s) (hK : kr_K Z Ds s) (hT : kz_K Z Ds) (hl : l < ks_nl Z) : jE (jf_X12_isHeld (l : Int) s) (if ks_bel Z Ds a l = true then 1 else 0) kr_FH s (fun _ => True) := by
  have hn := hW.1.l
  obtain ⟨s1, d1, d2, d3⟩ := kr_held hW hV hA hK hT
  rw [jf_X12_isHeld, d1, jp_bd, ks_belB, ku_b_bit _ (by omega) hl]
  refine ⟨s1, ?_, d2, trivial⟩
  by_cases z : ks_bel Z Ds a l = true
  · rw [if_pos z, if_pos rfl]; rfl
  · rw [if_neg z, if_neg (by decide)]; rfl
