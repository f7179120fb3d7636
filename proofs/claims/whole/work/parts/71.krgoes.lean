/-! PURE, the reference: an hour goes -/
theorem kr_A.n {a : Nat → Int} {s : jl_Mm} (h : kr_A a s) {j : Nat} (hj : j < 105) : jl_n3 (a j) := by rw [← h j hj]; exact jp_gn _ _ _
def ks_dark (a : Nat → Int) (l : Nat) : Nat → Int := ks_u (ks_u a (8 + l) 0) (16 + l) 0
def kr_FO : jp_F := [(249, 0, 0), (206, 61, 62)]
theorem kr_goes {th : Bool} {a : Nat → Int} {l : Nat} {s : jl_Mm} (hA : kr_A a s) (h63 : jl_g s 206 63 = if th = true then 1 else 0) (hk : 0 ≤ a 24 ∧ a 24 ≤ 40) (hl : l < 8) : ∃ τ, jf_X12_goesOut (l : Int) s = some (0, τ) ∧ jp_fr kr_FO s τ ∧ kr_A (if th = true then ks_dark a l else ks_push (ks_dark a l) (a 0) (l : Int)) τ ∧ (0 ≤ jl_g s 206 61 ∧ jl_g s 206 61 ≤ 1000000 → jl_g τ 206 61 = jl_g s 206 61 + 1) := by
  have e1 : jl_add 8 (l : Int) = ((8 + l : Nat) : Int) := by rw [jp_add (by omega) (by omega)]; omega
  have e2 : jl_add 16 (l : Int) = ((16 + l : Nat) : Int) := by rw [jp_add (by omega) (by omega)]; omega
  rw [jf_X12_goesOut, jf_X12_darkens, e1, if_pos (by omega), Int.toNat_natCast, jp_lm, e2, if_pos (by omega), Int.toNat_natCast, jp_lm, jp_bd]
  have A1 : kr_A (ks_dark a l) (jl_up (jl_up s 249 (8 + l) 0) 249 (16 + l) 0) := (hA.up jl_n3_0).up jl_n3_0
  have f1 : jp_fr [(249, 0, 0)] s (jl_up (jl_up s 249 (8 + l) 0) 249 (16 + l) 0) := (jp_fr.rf.up (by simp [jp_in])).up (by simp [jp_in])
  generalize jl_up (jl_up s 249 (8 + l) 0) 249 (16 + l) 0 = s1 at *
  have d24 : ks_dark a l 24 = a 24 := by rw [ks_dark, ks_un (by omega), ks_un (by omega)]
  have d0 : ks_dark a l 0 = a 0 := by rw [ks_dark, ks_un (by omega), ks_un (by omega)]
  obtain ⟨τ, t1, t2, t3⟩ := kr_kept (th := th) (l := l) A1 (by rw [f1.g _ _ (by decide)]; exact h63) (by rw [d24]; exact hk) (fun j hj => A1.n hj) hl
  have n24 : jp_in [(249, 24, 105)] 206 61 = false := by decide
  have h61' : jl_g s1 206 61 = jl_g s 206 61 := f1.g _ _ (by decide)
  rw [t1, jp_bd, t2.g _ _ n24, h61', jp_lm]
  refine ⟨_, rfl, ((f1.w (by decide)).tr (t2.ws (by intro c i h; simp [jp_in, kr_FO] at h ⊢; omega))).up (by decide), ?_, fun h => ?_⟩
  · rw [d0] at t3
    exact t3.fr (jp_fr.rf.up (F := [(206, 61, 62)]) rfl) (fun i => by simp [jp_in])
  · rw [jp_add (by omega) (by omega)]; exact jp_g_eq (by omega) (by omega)
theorem kr_plan {Z : jz_Z} {a : Nat → Int} {s : jl_Mm} (hW : kr_W Z s) (hV : ks_V Z a) (hA : kr_A a s) : jE (jf_X12_planGoes s) 0 [(249, 0, 0)] s (fun τ => kr_A (ks_plan Z a (ks_nr Z)) τ) := by
  have hr := hW.1.r
  have hn := hW.1.l
  have nf : ∀ {c i : Nat}, c ≠ 249 → jp_in [(249, 0, 0)] c i = false := by intro c i hc; simp [jp_in]; omega
  rw [jf_X12_planGoes]
  refine ku_for (α := jl_Mm) (G := fun n k τ => jf_X12_planGoes_L2 n ((k : Nat) : Int) τ) (N := ks_nr Z) (P := fun o => jE o 0 [(249, 0, 0)] s (fun τ => kr_A (ks_plan Z a (ks_nr Z)) τ)) (I := fun k τ => jp_fr [(249, 0, 0)] s τ ∧ kr_A (ks_plan Z a k) τ) (fun n k τ hk hI => ?_) (fun n τ hI => ?_) (ks_nr Z) 0 jl_fu s (Nat.zero_add _) (by show ks_nr Z < 4000; omega) ⟨jp_fr.rf, hA⟩
  · obtain ⟨hf, A⟩ := hI
    have W := hW.fr hf (fun c i _ _ => nf (by omega))
    have V := (ks_plan_V hW.1 hV k (by omega)).1
    obtain ⟨p1, p2, p3, p4⟩ := hW.1.pl hk
    have ek : jl_add (k : Int) 1 = ((k + 1 : Nat) : Int) := jp_add (by omega) (by omega)
    have hrow := W.2.2.2.2 k (by omega)
    have hl := V.2.2.2 (ks_pl Z k) (by omega)
    have hV1 := V.2.1
    have e0 : jl_add 48 (jl_mul 3 (k : Int)) = ((48 + 3 * k : Nat) : Int) := by rw [jp_mul (by omega) (by omega), jp_add (by omega) (by omega)]; omega
    have e1 : jl_add ((48 + 3 * k : Nat) : Int) 1 = ((48 + (3 * k + 1) : Nat) : Int) := by rw [jp_add (by omega) (by omega)]; omega
    have e2 : jl_add ((48 + 3 * k : Nat) : Int) 2 = ((48 + (3 * k + 2) : Nat) : Int) := by rw [jp_add (by omega) (by omega)]; omega
    have e8 : jl_add 8 ((ks_pl Z k : Nat) : Int) = ((8 + ks_pl Z k : Nat) : Int) := by rw [jp_add (by omega) (by omega)]; omega
    refine Or.inr ?_
    show ∃ x', jf_X12_planGoes_L2 (n + 1) ((k : Nat) : Int) τ = jf_X12_planGoes_L2 n (((k + 1 : Nat)) : Int) x' ∧ jp_fr [(249, 0, 0)] s x' ∧ kr_A (ks_plan1 Z (ks_plan Z a k) k) x'
    generalize ks_plan Z a k = b at *
    rw [jf_X12_planGoes_L2, W.nr, jp_bd, if_neg (by omega), e0, jp_let, if_pos (by omega), Int.toNat_natCast, hrow.1, jp_let, e1, if_pos (by omega), Int.toNat_natCast, hrow.2.1, show ((0 : Int) : Int).toNat = 0 from rfl, A 0 (by decide), ks_plan1]
    by_cases c1 : Z.2.1 8 k = b 0
    · rw [if_pos c1, p1, A.lit (by omega), jp_bd]
      by_cases c2 : 0 < b (8 + ks_pl Z k)
      · rw [if_pos c2, if_neg (by decide), jf_X12_planGoes_B103, ek, if_neg (by omega)]
        exact ⟨τ, rfl, hf, A⟩
      · rw [if_neg c2, if_pos rfl, e2, if_pos (by omega), Int.toNat_natCast, hrow.2.2, show ((1 : Int) : Int).toNat = 1 from rfl, A 1 (by decide)]
        by_cases c3 : Z.2.1 9 k ≤ b 1
        · have f1 : jp_fr [(249, 0, 0)] τ (jl_up τ 249 (8 + ks_pl Z k) (Z.2.1 9 k)) := jp_fr.rf.up rfl
          have g1 : jl_g (jl_up τ 249 (8 + ks_pl Z k) (Z.2.1 9 k)) 249 1 = b 1 := by rw [jp_g_nei (by omega)]; exact A 1 (by decide)
          have g2 : jl_g (jl_up τ 249 (8 + ks_pl Z k) (Z.2.1 9 k)) 245 (48 + (3 * k + 2)) = Z.2.1 9 k := by rw [jp_g_ne (by decide)]; exact hrow.2.2
          rw [if_pos c3, if_pos (by omega), e8, if_pos (by omega), Int.toNat_natCast, jp_lm, if_pos (by omega), g1, g2, jp_sub (by omega) (by omega), jp_lm, jf_X12_planGoes_B103, ek, if_pos ⟨c1, by omega, c3⟩]
          exact ⟨_, rfl, (hf.up rfl).up rfl, (A.up ⟨by omega, by omega⟩).up ⟨by omega, by omega⟩⟩
        · rw [if_neg c3, jf_X12_planGoes_B103, ek, if_neg (fun z => c3 z.2.2)]
          exact ⟨τ, rfl, hf, A⟩
    · rw [if_neg c1, jf_X12_planGoes_B103, ek, if_neg (fun z => c1 z.1)]
      exact ⟨τ, rfl, hf, A⟩
  · obtain ⟨hf, A⟩ := hI
    have W := hW.fr hf (fun c i _ _ => nf (by omega))
    show jE (jf_X12_planGoes_L2 (n + 1) ((ks_nr Z : Nat) : Int) τ) 0 [(249, 0, 0)] s (fun τ => kr_A (ks_plan Z a (ks_nr Z)) τ)
    rw [jf_X12_planGoes_L2, W.nr, jp_bd, if_pos (Int.le_refl _)]
    exact jE.fr hf (jE.ret A)
/-- how much burns of the LIE l -/
theorem kr_burnt {Z : jz_Z} {Ds : Nat → List Int} {p : Nat → Int} {l : Nat} {s : jl_Mm} (hW : kr_W Z s) (hV : ks_V Z p) (hA : kr_A p s) (hK : kr_K Z Ds s) (hT : kz_K Z Ds) (hl : l < ks_nl Z) (h250 : ∀ w, w < ks_nw Z → jl_g s 250 w = ks_dr (Ds 0) (p 0) (w : Int)) : jE (jf_X12_burnt (l : Int) s) (ks_kb Z Ds p l) kr_FB s (fun _ => True) := by
  have h8 := hW.1.l
  have hc := hV.2.2.2 l (by omega)
  have f5 : jp_fr [(206, 57, 58)] s (jl_up s 206 57 (l : Int)) := jp_fr.rf.up rfl
  have v5 : jl_g (jl_up s 206 57 (l : Int)) 206 57 = (l : Int) := jp_g_eq (by omega) (by omega)
  have n5 : ∀ c i, c ≠ 206 → jp_in [(206, 57, 58)] c i = false := by intro c i hc; simp [jp_in]; omega
  have e8 : jl_add 8 (l : Int) = ((8 + l : Nat) : Int) := by rw [jp_add (by omega) (by omega)]; omega
  rw [jf_X12_burnt, jp_lm]
  generalize jl_up s 206 57 (l : Int) = τ at *
  have W := hW.fr f5 (fun c i _ _ => n5 _ _ (by omega))
  have A := hA.fr f5 (fun i => n5 _ _ (by decide))
  have K := (hK (kz_nw hW.1 hV hl)).2.1.fr f5 (fun c i _ _ => n5 _ _ (by omega))
  have fin : ∀ υ, jp_fr kr_FB s υ → kr_A p υ → jE (jf_X12_burnt_B29 (l : Int) (ks_val Z Ds p 1 l) υ) (ks_kb Z Ds p l) kr_FB s (fun _ => True) := by
    intro υ fu Au
    rw [jf_X12_burnt_B29, e8, if_pos (by omega), Int.toNat_natCast, Au _ (by omega), kr_clamp υ (ks_val_ok hW.1 hV hT hl).2.n6 (by omega), jp_bd]
    exact ⟨υ, rfl, fu, trivial⟩
  have c1 : jf_X12_isCoded 1 τ = some (if jl_g τ 246 (3 + 1) = -1 then 0 else 1, τ) := kr_coded (w := 1) (by decide) K
  rw [c1, jp_bd]
  by_cases y : jl_g τ 246 (3 + 1) = -1
  · have e : Ds 1 = [1001, 43, 1] := by
      rcases K with ⟨_, e⟩ | ⟨f, t, e, _⟩
      · exact e
      · rw [e] at y; omega
    have hg := ku_n_ge (ks_nearP Z p l) (ks_nl Z)
    have en : ks_near Z p l = ku_n (ks_nearP Z p l) (ks_nl Z) := rfl
    have hv : ks_val Z Ds p 1 l = 1 + ks_near Z p l := by
      rw [ks_val, e]
      show kv_cl (1001 - 1000 + ks_near Z p l) = _
      rw [kv_cl_id ⟨by omega, by omega⟩]; omega
    rw [if_pos y, if_pos rfl, kr_near W hV A hl, jp_bd, jp_ladd (by omega) (by omega), ← hv]
    exact fin τ (f5.w (by decide)) A
  · obtain ⟨υ, u1, u2, -⟩ := kr_tellS (w := 1) W hV A hl K y hT (Or.inl rfl) v5 (fun w hw => (f5.g _ _ (n5 _ _ (by decide))).trans (h250 w hw))
    have u1 : jf_X12_codesTell 1 τ = _ := u1
    rw [if_neg y, if_neg (by decide), u1, jp_bd]
    exact fin υ ((f5.w (by decide)).tr (u2.w (by decide))) (A.fr u2 (fun i => kr_FTn (by decide) (by intro z; omega)))
def kr_FG : jp_F := [(249, 0, 0), (251, 0, 0), (206, 61, 62), (206, 57, 58), (250, 0, 0), (206, 58, 59), (284, 0, 0), (206, 106, 107), (206, 55, 56)]
theorem kr_FGn {c i : Nat} (h1 : c ≠ 284) (h2 : c = 206 → i ≠ 106 ∧ i ≠ 55 ∧ i ≠ 58 ∧ i ≠ 57 ∧ i ≠ 61) (h3 : c ≠ 250) (h4 : c ≠ 249 ∧ c ≠ 251) : jp_in kr_FG c i = false := by simp [jp_in, kr_FG]; omega
def ks_hourL (th : Bool) (Z : jz_Z) (Ds : Nat → List Int) (a : Nat → Int) : Nat → Int := ks_mix (ks_hour Z Ds a) (ks_log th a (a 0) (ks_gone Z Ds a) (ks_nl Z))
theorem kr_hour59 {th : Bool} {Z : jz_Z} {Ds : Nat → List Int} {a : Nat → Int} {s : jl_Mm} (hW : kr_W Z s) (hV : ks_V Z a) (hA : kr_A (ks_plan Z a (ks_nr Z)) s) (h63 : jl_g s 206 63 = if th = true then 1 else 0) (hk24 : 0 ≤ a 24 ∧ a 24 ≤ 40)
    (h251 : ∀ l, l < ks_nl Z → jl_g s 251 l = if 0 < ks_plan Z a (ks_nr Z) (8 + l) then ks_plan Z a (ks_nr Z) (8 + l) - ks_kb Z Ds (ks_plan Z a (ks_nr Z)) l else -1) : jE (jf_X12_hourGoes_L59 jl_fu 0 s) 0 kr_FO s (fun τ => kr_A (ks_hourL th Z Ds a) τ ∧ (0 ≤ jl_g s 206 61 ∧ jl_g s 206 61 ≤ 100000 → jl_g τ 206 61 = jl_g s 206 61 + ku_n (ks_gone Z Ds a) (ks_nl Z))) := by
  have hn := hW.1.l
  obtain ⟨v1, v2, v3⟩ := ks_plan_V hW.1 hV (ks_nr Z) (Nat.le_refl _)
  have hV0 := hV.1
  have nf : ∀ {c i : Nat}, c ≠ 249 → (c = 206 → i ≠ 61) → jp_in kr_FO c i = false := by intro c i h1 h2; simp [jp_in, kr_FO]; omega
  have eG : ks_gone Z Ds a = ks_goneP Z Ds (ks_plan Z a (ks_nr Z)) := rfl
  have eH : ks_hour Z Ds a = ks_u (ks_fire Z Ds (ks_plan Z a (ks_nr Z)) (ks_nl Z)) 0 (a 0 + 1) := rfl
  rw [ks_hourL, eH, eG]
  generalize ks_plan Z a (ks_nr Z) = p at *
  refine ku_for (α := jl_Mm) (G := fun n k τ => jf_X12_hourGoes_L59 n ((k : Nat) : Int) τ) (N := ks_nl Z) (P := fun o => jE o 0 kr_FO s (fun τ => kr_A (ks_mix (ks_u (ks_fire Z Ds p (ks_nl Z)) 0 (a 0 + 1)) (ks_log th a (a 0) (ks_goneP Z Ds p) (ks_nl Z))) τ ∧ (0 ≤ jl_g s 206 61 ∧ jl_g s 206 61 ≤ 100000 → jl_g τ 206 61 = jl_g s 206 61 + ku_n (ks_goneP Z Ds p) (ks_nl Z)))) (I := fun k τ => jp_fr kr_FO s τ ∧ kr_A (ks_mix (ks_fire Z Ds p k) (ks_log th a (a 0) (ks_goneP Z Ds p) k)) τ ∧ (0 ≤ jl_g s 206 61 ∧ jl_g s 206 61 ≤ 100000 → jl_g τ 206 61 = jl_g s 206 61 + ku_n (ks_goneP Z Ds p) k)) (fun n k τ hk hI => ?_) (fun n τ hI => ?_) (ks_nl Z) 0 jl_fu s (Nat.zero_add _) (by show ks_nl Z < 4000; omega) ⟨jp_fr.rf, hA.cg (fun j hj => by
      by_cases z : j < 24
      · rw [ks_mixL z]; rfl
      · rw [ks_mixH (by omega), v3 j (by omega)]; rfl), fun _ => by rw [ku_n]; omega⟩
  · obtain ⟨hf, A, g61⟩ := hI
    have W := hW.fr hf (fun c i _ _ => nf (by omega) (by omega))
    have ek : jl_add (k : Int) 1 = ((k + 1 : Nat) : Int) := jp_add (by omega) (by omega)
    have e8 : ks_fire Z Ds p k (8 + k) = p (8 + k) := ks_fire_o k (by omega) (by omega)
    have e16 : ks_fire Z Ds p k (16 + k) = p (16 + k) := ks_fire_o k (by omega) (by omega)
    have e0 : ks_fire Z Ds p k 0 = p 0 := ks_fire_o k (by omega) (by omega)
    have hl := v1.2.2.2 k (by omega)
    have hge := ku_n_ge (ks_goneP Z Ds p) k
    have lg := ks_log_24 (th := th) (a := a) (h := a 0) (p := ks_goneP Z Ds p) hk24 k
    have a8 : jl_add 8 (k : Int) = ((8 + k : Nat) : Int) := by rw [jp_add (by omega) (by omega)]; omega
    have a16 : jl_add 16 (k : Int) = ((16 + k : Nat) : Int) := by rw [jp_add (by omega) (by omega)]; omega
    have h251' : jl_g τ 251 k = _ := (hf.g _ _ (nf (by omega) (by omega))).trans (h251 k hk)
    refine Or.inr ?_
    show ∃ x', jf_X12_hourGoes_L59 (n + 1) ((k : Nat) : Int) τ = jf_X12_hourGoes_L59 n (((k + 1 : Nat)) : Int) x' ∧ jp_fr kr_FO s x' ∧ kr_A (ks_mix (ks_fire Z Ds p (k + 1)) (ks_log th a (a 0) (ks_goneP Z Ds p) (k + 1))) x' ∧ (0 ≤ jl_g s 206 61 ∧ jl_g s 206 61 ≤ 100000 → jl_g x' 206 61 = jl_g s 206 61 + ku_n (ks_goneP Z Ds p) (k + 1))
    rw [jf_X12_hourGoes_L59, W.nl, jp_bd, if_neg (by omega), if_pos (by omega), Int.toNat_natCast, h251']
    by_cases z : 0 < p (8 + k)
    · have hkb := ks_kb_b (Z := Z) (Ds := Ds) (p := p) (l := k) (by omega)
      rw [if_pos z, if_neg (by omega), if_pos (by omega), a8, if_pos (by omega), Int.toNat_natCast, jp_lm, a16, if_pos (by omega), Int.toNat_natCast]
      have A1 : kr_A (ks_u (ks_mix (ks_fire Z Ds p k) (ks_log th a (a 0) (ks_goneP Z Ds p) k)) (8 + k) (p (8 + k) - ks_kb Z Ds p k)) (jl_up τ 249 (8 + k) (p (8 + k) - ks_kb Z Ds p k)) := A.up ⟨by omega, by omega⟩
      have f1 : jp_fr [(249, 0, 0)] τ (jl_up τ 249 (8 + k) (p (8 + k) - ks_kb Z Ds p k)) := jp_fr.rf.up rfl
      generalize jl_up τ 249 (8 + k) (p (8 + k) - ks_kb Z Ds p k) = τ1 at *
      have nf1 : ∀ {c i : Nat}, c ≠ 249 → jp_in [(249, 0, 0)] c i = false := by intro c i hc; simp [jp_in]; omega
      have g16 : jl_g τ1 249 (16 + k) = p (16 + k) := by rw [A1 (16 + k) (by omega), ks_un (by omega), ks_mixL (by omega), e16]
      -- the told hour
      have told : ∃ τ2, (if 99 ≤ jl_g τ1 249 (16 + k) then jf_X12_hourGoes_B122 (jf_X12_hourGoes_L59 n) (k : Int) τ1 else if 0 ≤ ((16 + k : Nat) : Int) ∧ ((16 + k : Nat) : Int) < ((105 : Nat) : Int) then if 0 ≤ ((16 + k : Nat) : Int) ∧ ((16 + k : Nat) : Int) < ((105 : Nat) : Int) then jl_lm (jl_up τ1 249 (16 + k) (jl_add (jl_g τ1 249 (16 + k)) 1)) fun s25 => jf_X12_hourGoes_B122 (jf_X12_hourGoes_L59 n) (k : Int) s25 else none else none) = jf_X12_hourGoes_B122 (jf_X12_hourGoes_L59 n) (k : Int) τ2 ∧ jp_fr [(249, 0, 0)] τ1 τ2 ∧ kr_A (ks_u (ks_u (ks_mix (ks_fire Z Ds p k) (ks_log th a (a 0) (ks_goneP Z Ds p) k)) (8 + k) (p (8 + k) - ks_kb Z Ds p k)) (16 + k) (if p (16 + k) < 99 then p (16 + k) + 1 else p (16 + k))) τ2 := by
        rw [g16]
        by_cases y : 99 ≤ p (16 + k)
        · refine ⟨τ1, by rw [if_pos y], jp_fr.rf, A1.cg (fun j hj => ?_)⟩
          by_cases e : j = 16 + k
          · subst e; rw [ks_ue, if_neg (by omega), ks_un (by omega), ks_mixL (by omega), e16]
          · rw [ks_un e]
        · refine ⟨jl_up τ1 249 (16 + k) (p (16 + k) + 1), by rw [if_neg y, if_pos (by omega), if_pos (by omega), jp_add (by omega) (by omega), jp_lm], jp_fr.rf.up rfl, ?_⟩
          rw [if_pos (by omega)]
          exact A1.up ⟨by omega, by omega⟩
      obtain ⟨τ2, t1, t2, A2⟩ := told
      have f12 : jp_fr [(249, 0, 0)] τ τ2 := f1.tr t2
      rw [t1, jf_X12_hourGoes_B122, if_pos (by omega), Int.toNat_natCast, f12.g 251 _ (nf1 (by decide)), h251', if_pos z, ks_fire, if_pos z]
      generalize (if p (16 + k) < 99 then p (16 + k) + 1 else p (16 + k)) = tv at *
      by_cases y : p (8 + k) - ks_kb Z Ds p k = 0
      · have hp : ks_goneP Z Ds p k = true := decide_eq_true ⟨z, y⟩
        have m24 : ∀ u v : Int, ks_u (ks_u (ks_mix (ks_fire Z Ds p k) (ks_log th a (a 0) (ks_goneP Z Ds p) k)) (8 + k) u) (16 + k) v 24 = ks_log th a (a 0) (ks_goneP Z Ds p) k 24 := fun u v => by rw [ks_un (by omega), ks_un (by omega), ks_mixH (by omega)]
        obtain ⟨ω, o1, o2, o3, o4⟩ := kr_goes (th := th) (l := k) A2 (by rw [f12.g _ _ (nf1 (by decide)), hf.g _ _ (nf (by decide) (by decide))]; exact h63) (by rw [m24]; exact lg) (by omega)
        rw [if_pos y, if_pos y, o1, jp_bd, jf_X12_hourGoes_B136, ek]
        refine ⟨ω, rfl, (hf.tr (f12.w (by decide))).tr o2, o3.cg (fun j hj => ?_), ?_⟩
        · -- the state
          have d : ∀ j, ks_dark (ks_u (ks_u (ks_mix (ks_fire Z Ds p k) (ks_log th a (a 0) (ks_goneP Z Ds p) k)) (8 + k) (p (8 + k) - ks_kb Z Ds p k)) (16 + k) tv) k j = ks_mix (ks_u (ks_u (ks_fire Z Ds p k) (8 + k) 0) (16 + k) 0) (ks_log th a (a 0) (ks_goneP Z Ds p) k) j := by
            intro j
            rw [ks_dark]
            by_cases e1 : j = 16 + k
            · subst e1; rw [ks_ue, ks_mixL (by omega), ks_ue]
            · rw [ks_un e1]
              by_cases e2 : j = 8 + k
              · subst e2; rw [ks_ue, ks_mixL (by omega), ks_un (by omega), ks_ue]
              · rw [ks_un e2, ks_un e1, ks_un e2]
                by_cases e3 : j < 24
                · rw [ks_mixL e3, ks_mixL e3, ks_un e1, ks_un e2]
                · rw [ks_mixH (by omega), ks_mixH (by omega)]
          have h0 : ks_u (ks_u (ks_mix (ks_fire Z Ds p k) (ks_log th a (a 0) (ks_goneP Z Ds p) k)) (8 + k) (p (8 + k) - ks_kb Z Ds p k)) (16 + k) tv 0 = a 0 := by
            rw [ks_un (by omega), ks_un (by omega), ks_mixL (by decide), e0, v2]
          rw [h0, ks_log]
          cases th with
          | true =>
            rw [if_pos rfl, if_neg (fun q => Bool.noConfusion q.2), d j]
          | false =>
            show ks_push _ (a 0) (k : Int) j = _
            rw [if_pos ⟨hp, rfl⟩]
            have d24 : ks_dark (ks_u (ks_u (ks_mix (ks_fire Z Ds p k) (ks_log false a (a 0) (ks_goneP Z Ds p) k)) (8 + k) (p (8 + k) - ks_kb Z Ds p k)) (16 + k) tv) k 24 = ks_log false a (a 0) (ks_goneP Z Ds p) k 24 := by rw [d 24, ks_mixH (by decide)]
            by_cases e3 : j < 24
            · rw [ks_push_lo e3 (by rw [d24]; exact lg.1), d j, ks_mixL e3, ks_mixL e3]
            · rw [ks_mixH (by omega)]
              exact ks_push_cg (fun i hi => by rw [d i, ks_mixH hi]) (by omega) (by rw [d24]; exact lg.1)
        · intro h
          have h2 := g61 h
          have e2 : jl_g τ2 206 61 = jl_g τ 206 61 := f12.g _ _ (nf1 (by decide))
          rw [o4 (by rw [e2, h2]; omega), e2, h2, ku_nT hp]; omega
      · have hp : ks_goneP Z Ds p k = false := decide_eq_false (fun q => y q.2)
        rw [if_neg y, if_neg y, jf_X12_hourGoes_B136, ek]
        refine ⟨τ2, rfl, hf.tr (f12.w (by decide)), A2.cg (fun j hj => ?_), ?_⟩
        · rw [ks_log, if_neg (fun q => by rw [hp] at q; exact absurd q.1 (by decide))]
          by_cases e1 : j = 16 + k
          · subst e1; rw [ks_ue, ks_mixL (by omega), ks_ue]
          · rw [ks_un e1]
            by_cases e2 : j = 8 + k
            · subst e2; rw [ks_ue, ks_mixL (by omega), ks_un (by omega), ks_ue]
            · rw [ks_un e2]
              by_cases e3 : j < 24
              · rw [ks_mixL e3, ks_mixL e3, ks_un e1, ks_un e2]
              · rw [ks_mixH (by omega), ks_mixH (by omega)]
        · intro h
          rw [f12.g _ _ (nf1 (by decide)), g61 h, ku_nF hp]
    · have hp : ks_goneP Z Ds p k = false := decide_eq_false (fun q => z q.1)
      rw [if_neg z, if_pos rfl, jf_X12_hourGoes_B136, ek]
      refine ⟨τ, rfl, hf, A.cg (fun j hj => ?_), fun h => by rw [ku_nF hp]; exact g61 h⟩
      rw [ks_log, if_neg (fun q => by rw [hp] at q; exact absurd q.1 (by decide)), ks_fire, if_neg z]
  · obtain ⟨hf, A, g61⟩ := hI
    have W := hW.fr hf (fun c i _ _ => nf (by omega) (by omega))
    have e0 : ks_fire Z Ds p (ks_nl Z) 0 = p 0 := ks_fire_o _ hn.2 (by omega)
    have g0 : jl_g τ 249 0 = a 0 := by rw [A 0 (by decide), ks_mixL (by decide), e0, v2]
    show jE (jf_X12_hourGoes_L59 (n + 1) ((ks_nl Z : Nat) : Int) τ) 0 kr_FO s _
    rw [jf_X12_hourGoes_L59, W.nl, jp_bd, if_pos (Int.le_refl _), show ((0 : Int) : Int).toNat = 0 from rfl, g0, jp_add (by omega) (by omega), jp_lm]
    refine ⟨_, rfl, hf.up (by simp [jp_in, kr_FO]), (A.up (i := 0) (v := a 0 + 1) ⟨by omega, by omega⟩).cg (fun j hj => ?_), ?_⟩
    · by_cases e : j = 0
      · subst e; rw [ks_ue, ks_mixL (by decide), ks_ue]
      · rw [ks_un e]
        by_cases e3 : j < 24
        · rw [ks_mixL e3, ks_mixL e3, ks_un e]
        · rw [ks_mixH (by omega), ks_mixH (by omega)]
    · intro h; rw [jp_g_ne (by decide)]; exact g61 h
theorem kr_hour {th : Bool} {Z : jz_Z} {Ds : Nat → List Int} {a : Nat → Int} {s : jl_Mm} (hW : kr_W Z s) (hV : ks_V Z a) (hA : kr_A a s) (hK : kr_K Z Ds s) (hT : kz_K Z Ds) (h63 : jl_g s 206 63 = if th = true then 1 else 0) (hk24 : 0 ≤ a 24 ∧ a 24 ≤ 40) : jE (jf_X12_hourGoes s) 0 kr_FG s (fun τ => kr_A (ks_hourL th Z Ds a) τ ∧ (0 ≤ jl_g s 206 61 ∧ jl_g s 206 61 ≤ 100000 → jl_g τ 206 61 = jl_g s 206 61 + ku_n (ks_gone Z Ds a) (ks_nl Z))) := by
  have hn := hW.1.l
  obtain ⟨s2, d1, d2, d3⟩ := kr_drafts hW hV hA hK hT
  have W2 := hW.fr d2 (fun c i _ _ => kr_FDn (by omega) (by intro z; omega) (by omega))
  have A2 := hA.fr d2 (fun i => kr_FDn (by decide) (by intro z; omega) (by decide))
  have K2 := hK.fr d2 (fun c i _ _ => kr_FDn (by omega) (by intro z; omega) (by omega))
  obtain ⟨s4, p1, p2, p3⟩ := kr_plan W2 hV A2
  have nf : ∀ {c i : Nat}, c ≠ 249 → jp_in [(249, 0, 0)] c i = false := by intro c i hc; simp [jp_in]; omega
  have W4 := W2.fr p2 (fun c i _ _ => nf (by omega))
  have K4 := K2.fr p2 (fun c i _ _ => nf (by omega))
  obtain ⟨v1, v2, v3⟩ := ks_plan_V hW.1 hV (ks_nr Z) (Nat.le_refl _)
  have d4 : ∀ w, w < ks_nw Z → jl_g s4 250 w = ks_dr (Ds 0) (ks_plan Z a (ks_nr Z) 0) (w : Int) := fun w hw => by rw [v2]; exact (p2.g _ _ (nf (by decide))).trans (d3 w hw)
  rw [jf_X12_hourGoes, d1, jp_bd, p1, jp_bd]
  have f4 : jp_fr kr_FG s s4 := (d2.w (by decide)).tr (p2.w (by decide))
  refine jE.fr f4 ?_
  have g61 : jl_g s4 206 61 = jl_g s 206 61 := (p2.g _ _ (nf (by decide))).trans (d2.g _ _ (by decide))
  have g63 : jl_g s4 206 63 = if th = true then 1 else 0 := ((p2.g _ _ (nf (by decide))).trans (d2.g _ _ (by decide))).trans h63
  rw [← g61]
  have nB : ∀ {c i : Nat}, c ≠ 284 → c ≠ 251 → (c = 206 → i ≠ 106 ∧ i ≠ 55 ∧ i ≠ 57) → jp_in ((251, 0, 0) :: kr_FB) c i = false := by intro c i h1 h2 h3; simp [jp_in, kr_FB]; omega
  refine ku_for (α := jl_Mm) (G := fun n k τ => jf_X12_hourGoes_L10 n ((k : Nat) : Int) τ) (N := ks_nl Z) (P := fun o => jE o 0 kr_FG s4 (fun τ => kr_A (ks_hourL th Z Ds a) τ ∧ (0 ≤ jl_g s4 206 61 ∧ jl_g s4 206 61 ≤ 100000 → jl_g τ 206 61 = jl_g s4 206 61 + ku_n (ks_gone Z Ds a) (ks_nl Z)))) (I := fun k τ => jp_fr ((251, 0, 0) :: kr_FB) s4 τ ∧ ∀ l, l < k → jl_g τ 251 l = if 0 < ks_plan Z a (ks_nr Z) (8 + l) then ks_plan Z a (ks_nr Z) (8 + l) - ks_kb Z Ds (ks_plan Z a (ks_nr Z)) l else -1) (fun n k τ hk hI => ?_) (fun n τ hI => ?_) (ks_nl Z) 0 jl_fu s4 (Nat.zero_add _) (by show ks_nl Z < 4000; omega) ⟨jp_fr.rf, fun l hl => absurd hl (Nat.not_lt_zero _)⟩
  · obtain ⟨hf, hv⟩ := hI
    have W := W4.fr hf (fun c i _ _ => nB (by omega) (by omega) (by intro z; omega))
    have A := p3.fr hf (fun i => nB (by decide) (by decide) (by intro z; omega))
    have K := K4.fr hf (fun c i _ _ => nB (by omega) (by omega) (by intro z; omega))
    have ek : jl_add (k : Int) 1 = ((k + 1 : Nat) : Int) := jp_add (by omega) (by omega)
    have a8 : jl_add 8 (k : Int) = ((8 + k : Nat) : Int) := by rw [jp_add (by omega) (by omega)]; omega
    have hl := v1.2.2.2 k (by omega)
    refine Or.inr ?_
    show ∃ x', jf_X12_hourGoes_L10 (n + 1) ((k : Nat) : Int) τ = jf_X12_hourGoes_L10 n (((k + 1 : Nat)) : Int) x' ∧ jp_fr ((251, 0, 0) :: kr_FB) s4 x' ∧ ∀ l, l < k + 1 → jl_g x' 251 l = if 0 < ks_plan Z a (ks_nr Z) (8 + l) then ks_plan Z a (ks_nr Z) (8 + l) - ks_kb Z Ds (ks_plan Z a (ks_nr Z)) l else -1
    rw [jf_X12_hourGoes_L10, W.nl, jp_bd, if_neg (by omega), A.lit (by omega), jp_bd]
    by_cases z : 0 < ks_plan Z a (ks_nr Z) (8 + k)
    · obtain ⟨υ, u1, u2, -⟩ := kr_burnt W v1 A K hT hk (fun w hw => (hf.g _ _ (nB (by decide) (by decide) (by intro z; omega))).trans (d4 w hw))
      have hkb := ks_kb_b (Z := Z) (Ds := Ds) (p := ks_plan Z a (ks_nr Z)) (l := k) (by omega)
      rw [if_pos z, if_neg (by decide), a8, if_pos (by omega), u1, jp_bd, Int.toNat_natCast, A _ (by omega), jp_sub (by omega) (by omega), jf_X12_hourGoes_B50, if_pos (by omega), Int.toNat_natCast, jp_lm, ek]
      refine ⟨_, rfl, (hf.tr (u2.w (by decide))).up rfl, fun l hl2 => ?_⟩
      by_cases e : l = k
      · subst e; rw [jp_g_eq (by omega) (by omega), if_pos z]
      · rw [jp_g_nei e, u2.g _ _ (kr_FBn (by decide) (by intro z; omega))]
        exact hv l (by omega)
    · rw [if_neg z, if_pos rfl, jf_X12_hourGoes_B50, if_pos (by omega), Int.toNat_natCast, jp_lm, ek]
      refine ⟨_, rfl, hf.up rfl, fun l hl2 => ?_⟩
      by_cases e : l = k
      · subst e; rw [jp_g_eq (by omega) (by omega), if_neg z]
      · rw [jp_g_nei e]
        exact hv l (by omega)
  · obtain ⟨hf, hv⟩ := hI
    have W := W4.fr hf (fun c i _ _ => nB (by omega) (by omega) (by intro z; omega))
    have A := p3.fr hf (fun i => nB (by decide) (by decide) (by intro z; omega))
    show jE (jf_X12_hourGoes_L10 (n + 1) ((ks_nl Z : Nat) : Int) τ) 0 kr_FG s4 _
    rw [jf_X12_hourGoes_L10, W.nl, jp_bd, if_pos (Int.le_refl _)]
    have e61 : jl_g τ 206 61 = jl_g s4 206 61 := hf.g _ _ (nB (by decide) (by decide) (by intro z; omega))
    obtain ⟨υ, u1, u2, u3, u4⟩ := kr_hour59 (th := th) W hV A ((hf.g _ _ (nB (by decide) (by decide) (by intro z; omega))).trans g63) hk24 hv
    rw [e61] at u4
    exact ⟨υ, u1, (hf.w (by decide)).tr (u2.w (by decide)), u3, u4⟩
