/-! PURE, the class: an hour, a gust -/
def kc_FQ (q : Nat) : jp_F := [(q, 0, 2), (q + 2, 0, 0), (q + 3, 0, 0)]
theorem kc_FQn {q c i : Nat} (h1 : c = q → 2 ≤ i) (h2 : c ≠ q + 2) (h3 : c ≠ q + 3) : jp_in (kc_FQ q) c i = false := by simp [jp_in, kc_FQ]; omega
theorem kc_q8 {q : Nat} (h : kc_q q) : 38 ≤ q ∧ q ≠ 190 ∧ q + 1 ≠ 190 ∧ q + 2 ≠ 190 ∧ q + 3 ≠ 190 ∧ (∀ i, i < 4 → q + i < 47 ∨ (195 < q + i ∧ q + i < 200)) := by rcases h with rfl | rfl <;> refine ⟨by decide, by decide, by decide, by decide, by decide, fun i hi => by omega⟩
theorem kc_W.frQ {H q : Nat} {Z : jz_Z} {s τ : jl_Mm} (h : kc_W H Z s) (hq : kc_q q) (f : jp_fr (kc_FQ q) s τ) : kc_W H Z τ := by
  have := kc_q8 hq
  exact h.fr f (kc_FQn (by omega) (by omega) (by omega)) (kc_FQn (by omega) (by omega) (by omega)) (fun c i _ _ => kc_FQn (by omega) (by omega) (by omega))
theorem kc_K.frQ {H q : Nat} {Z : jz_Z} {Ds : Nat → List Int} {s τ : jl_Mm} (h : kc_K H Z Ds s) (hH : jz_Hq H) (hq : kc_q q) (f : jp_fr (kc_FQ q) s τ) : kc_K H Z Ds τ := by
  have := kc_q8 hq
  exact h.fr hH f (fun c i _ _ => kc_FQn (by omega) (by omega) (by omega))
theorem kc_set {P9 : Nat} {q l : Nat} {a : Nat → Int} {v : Int} {s : jl_Mm} (hq : kc_q q) (hA : kc_A P9 q a s) (hl : l < 8) (hv : jl_n3 v) : ∃ τ, jf_X7_setCandle q (l : Int) v s = some (0, τ) ∧ jp_fr (kc_FQ q) s τ ∧ kc_A P9 q (ks_u (ks_u a (8 + l) v) (16 + l) 0) τ := by
  rw [jf_X7_setCandle, if_pos (kc_q7 hq), if_pos (by omega), Int.toNat_natCast, jp_lm, if_pos (by omega), jp_lm]
  exact ⟨_, rfl, (jp_fr.rf.up (by simp [jp_in, kc_FQ])).up (by simp [jp_in, kc_FQ]), (hA.upc hl hv).upt hl jl_n3_0⟩
theorem kc_out {P9 : Nat} {q l : Nat} {a : Nat → Int} {s : jl_Mm} (hq : kc_q q) (hA : kc_A P9 q a s) (hl : l < 8) : ∃ τ, jf_X7_putOut q (l : Int) s = some (0, τ) ∧ jp_fr (kc_FQ q) s τ ∧ kc_A P9 q (ks_u (ks_u a (8 + l) 0) (16 + l) 0) τ := by
  obtain ⟨τ, t1, t2, t3⟩ := kc_set (v := 0) hq hA hl jl_n3_0
  rw [jf_X7_putOut, if_pos (kc_q7 hq), t1, jp_bd]
  exact ⟨τ, rfl, t2, t3⟩
theorem kc_kindle {P9 : Nat} {q l : Nat} {a : Nat → Int} {v : Int} {s : jl_Mm} (hq : kc_q q) (hA : kc_A P9 q a s) (hl : l < 8) (hv : 0 ≤ v ∧ v ≤ 99) (h1 : 0 ≤ a 1 ∧ a 1 ≤ 999) : ∃ τ, jf_X7_kindle q (l : Int) v s = some (0, τ) ∧ jp_fr (kc_FQ q) s τ ∧ kc_A P9 q (ks_u (ks_u (ks_u a 1 (a 1 - v)) (8 + l) v) (16 + l) 0) τ := by
  have e : jl_sub (a 1) v = a 1 - v := jp_sub (by omega) (by omega)
  have A1 := hA.up1 (v := a 1 - v) ⟨by omega, by omega⟩
  obtain ⟨τ, t1, t2, t3⟩ := kc_set (v := v) hq A1 hl ⟨by omega, by omega⟩
  rw [jf_X7_kindle, if_pos (kc_q7 hq), hA.2.1, e, jp_lm, t1, jp_bd]
  exact ⟨τ, rfl, (jp_fr.rf.up (by simp [jp_in, kc_FQ])).tr t2, t3⟩
theorem kc_plan {H q : Nat} {Z : jz_Z} {a : Nat → Int} {s : jl_Mm} (hq : kc_q q) (hW : kc_W H Z s) (hV : ks_V Z a) (hA : kc_A (ks_np Z) q a s) : jE (jf_X5_lightPlanned q s) 0 (kc_FQ q) s (fun τ => kc_A (ks_np Z) q (ks_plan Z a (ks_nr Z)) τ) := by
  have hr := hW.1.r
  have hn := hW.1.l
  rw [jf_X5_lightPlanned, if_pos (kc_q7 hq)]
  refine ku_for (α := jl_Mm) (G := fun n k τ => jf_X5_lightPlanned_L2 n q ((k : Nat) : Int) τ) (N := ks_nr Z) (P := fun o => jE o 0 (kc_FQ q) s (fun τ => kc_A (ks_np Z) q (ks_plan Z a (ks_nr Z)) τ)) (I := fun k τ => jp_fr (kc_FQ q) s τ ∧ kc_A (ks_np Z) q (ks_plan Z a k) τ) (fun n k τ hk hI => ?_) (fun n τ hI => ?_) (ks_nr Z) 0 jl_fu s (Nat.zero_add _) (by show ks_nr Z < 4000; omega) ⟨jp_fr.rf, hA⟩
  · obtain ⟨hf, A⟩ := hI
    have W := hW.frQ hq hf
    have V := (ks_plan_V hW.1 hV k (by omega)).1
    obtain ⟨p1, p2, p3, p4⟩ := hW.1.pl hk
    have ek : jl_add (k : Int) 1 = ((k + 1 : Nat) : Int) := jp_add (by omega) (by omega)
    have hrow := W.2.2.2.2.2.2.2 k (by omega)
    have hl := V.2.2.2 (ks_pl Z k) (by omega)
    have hV1 := V.2.1
    refine Or.inr ?_
    show ∃ x', jf_X5_lightPlanned_L2 (n + 1) q ((k : Nat) : Int) τ = jf_X5_lightPlanned_L2 n q (((k + 1 : Nat)) : Int) x' ∧ jp_fr (kc_FQ q) s x' ∧ kc_A (ks_np Z) q (ks_plan1 Z (ks_plan Z a k) k) x'
    generalize ks_plan Z a k = b at *
    have As := A
    obtain ⟨A0, A1, A2, A3, A4⟩ := A
    rw [jf_X5_lightPlanned_L2, W.g, W.gr, W.n4, if_neg (by omega), W.gH, if_pos (by omega), Int.toNat_natCast, hrow.1, jp_let, W.gH, if_pos (by omega), hrow.2.2, jp_let, W.gH, if_pos (by omega), hrow.2.1, A0, ks_plan1]
    by_cases c1 : Z.2.1 8 k = b 0
    · rw [if_pos c1, p1, if_pos (by omega), Int.toNat_natCast, A3 _ (by omega)]
      by_cases c2 : b (8 + ks_pl Z k) = 0
      · rw [if_pos c2, A1]
        by_cases c3 : b 1 < Z.2.1 9 k
        · rw [if_pos c3, jf_X5_lightPlanned_B75, ek, if_neg (by omega)]
          exact ⟨τ, rfl, hf, As⟩
        · obtain ⟨υ, u1, u2, u3⟩ := kc_kindle (l := ks_pl Z k) (v := Z.2.1 9 k) hq As (by omega) (by omega) hV1
          rw [if_neg c3, u1, jp_bd, jf_X5_lightPlanned_B75, ek, if_pos ⟨c1, c2, by omega⟩]
          refine ⟨υ, rfl, hf.tr u2, u3.cg (fun j hj => ?_)⟩
          by_cases e1 : j = 16 + ks_pl Z k
          · subst e1
            rw [ks_ue, ks_un (by omega), ks_un (by omega)]
            exact (hl.2.2.1 c2).symm
          · rw [ks_un e1]
            by_cases e2 : j = 8 + ks_pl Z k
            · subst e2; rw [ks_ue, ks_un (by omega), ks_ue]
            · rw [ks_un e2]
              by_cases e3 : j = 1
              · subst e3; rw [ks_ue, ks_ue]
              · rw [ks_un e3, ks_un e3, ks_un e2]
      · rw [if_neg c2, jf_X5_lightPlanned_B75, ek, if_neg (fun z => c2 z.2.1)]
        exact ⟨τ, rfl, hf, As⟩
    · rw [if_neg c1, jf_X5_lightPlanned_B75, ek, if_neg (fun z => c1 z.1)]
      exact ⟨τ, rfl, hf, As⟩
  · obtain ⟨hf, A⟩ := hI
    have W := hW.frQ hq hf
    show jE (jf_X5_lightPlanned_L2 (n + 1) q ((ks_nr Z : Nat) : Int) τ) 0 (kc_FQ q) s (fun τ => kc_A (ks_np Z) q (ks_plan Z a (ks_nr Z)) τ)
    rw [jf_X5_lightPlanned_L2, W.g, W.gr, W.n4, if_pos (Int.le_refl _)]
    exact jE.fr hf (jE.ret A)
theorem kc_burn {P9 : Nat} {q l : Nat} {a : Nat → Int} {v : Int} {s : jl_Mm} (hq : kc_q q) (hA : kc_A P9 q a s) (hl : l < 8) (hv : kv_b v) (hc : 0 ≤ a (8 + l) ∧ a (8 + l) ≤ 99) (ht : 0 ≤ a (16 + l) ∧ a (16 + l) ≤ 99) : ∃ τ, jf_X7_burn q (l : Int) v s = some (0, τ) ∧ jp_fr (kc_FQ q) s τ ∧ kc_A P9 q (ks_u (ks_u a (8 + l) (a (8 + l) - (if v < 0 then 0 else if a (8 + l) < v then a (8 + l) else v))) (16 + l) (if a (16 + l) < 99 then a (16 + l) + 1 else a (16 + l))) τ := by
  obtain ⟨v1, v2⟩ := hv
  have hb : 0 ≤ (if v < 0 then 0 else if a (8 + l) < v then a (8 + l) else v) ∧ (if v < 0 then 0 else if a (8 + l) < v then a (8 + l) else v) ≤ a (8 + l) := by
    split
    · omega
    · split <;> omega
  have e1 : (if (0 : Int) < (if v < a (8 + l) then v else a (8 + l)) then (if v < a (8 + l) then v else a (8 + l)) else 0) = (if v < 0 then 0 else if a (8 + l) < v then a (8 + l) else v) := by
    by_cases x : v < a (8 + l)
    · rw [if_pos x]
      by_cases y : 0 < v
      · rw [if_pos y, if_neg (by omega), if_neg (by omega)]
      · rw [if_neg y]
        by_cases z : v < 0
        · rw [if_pos z]
        · rw [if_neg z, if_neg (by omega)]; omega
    · rw [if_neg x]
      by_cases y : 0 < a (8 + l)
      · rw [if_pos y, if_neg (by omega)]
        by_cases z : a (8 + l) < v
        · rw [if_pos z]
        · rw [if_neg z]; omega
      · rw [if_neg y]
        by_cases z : v < 0
        · rw [if_pos z]
        · rw [if_neg z]
          by_cases z2 : a (8 + l) < v
          · rw [if_pos z2]; omega
          · rw [if_neg z2]; omega
  have A1 := hA.upc (v := a (8 + l) - (if v < 0 then 0 else if a (8 + l) < v then a (8 + l) else v)) hl ⟨by omega, by omega⟩
  generalize (if v < 0 then 0 else if a (8 + l) < v then a (8 + l) else v) = w at *
  have e2 : jl_sub (a (8 + l)) w = a (8 + l) - w := jp_sub (by omega) (by omega)
  have e4 : jl_add (a (16 + l)) 1 = a (16 + l) + 1 := jp_add (by omega) (by omega)
  have h4 : jl_g (jl_up s (q + 2) l (a (8 + l) - w)) (q + 3) l = a (16 + l) := by rw [jp_g_ne (by omega)]; exact hA.2.2.2.2 l hl
  rw [jf_X7_burn, if_pos (kc_q7 hq), if_pos (by omega), if_pos (by omega), Int.toNat_natCast, hA.2.2.2.1 l hl, ku_min, jp_bd, ku_max, jp_bd, e1, if_pos (by omega), e2, jp_lm, if_pos (by omega), h4, e4, ku_min, jp_bd, if_pos (by omega), jp_lm]
  have e5 : (if a (16 + l) + 1 < 99 then a (16 + l) + 1 else 99) = (if a (16 + l) < 99 then a (16 + l) + 1 else a (16 + l)) := by
    by_cases x : a (16 + l) + 1 < 99
    · rw [if_pos x, if_pos (by omega)]
    · rw [if_neg x]
      by_cases y : a (16 + l) < 99
      · rw [if_pos y]; omega
      · rw [if_neg y]; omega
  rw [e5]
  exact ⟨_, rfl, (jp_fr.rf.up (by simp [jp_in, kc_FQ])).up (by simp [jp_in, kc_FQ]), A1.upt hl (by split <;> exact ⟨by omega, by omega⟩)⟩
def kc_FP (q : Nat) : jp_F := [(q, 0, 2), (q + 2, 0, 0), (q + 3, 0, 0), (191, 0, 0), (192, 0, 0), (193, 0, 0)]
theorem kc_FPn {q c i : Nat} (h1 : c = q → 2 ≤ i) (h2 : c ≠ q + 2) (h3 : c ≠ q + 3) (h4 : c ≠ 191 ∧ c ≠ 192 ∧ c ≠ 193) : jp_in (kc_FP q) c i = false := by simp [jp_in, kc_FP]; omega
theorem kc_W.frP {H q : Nat} {Z : jz_Z} {s τ : jl_Mm} (h : kc_W H Z s) (hq : kc_q q) (f : jp_fr (kc_FP q) s τ) : kc_W H Z τ := by
  have := kc_q8 hq
  exact h.fr f (kc_FPn (by omega) (by omega) (by omega) (by omega)) (kc_FPn (by omega) (by omega) (by omega) (by omega)) (fun c i _ _ => kc_FPn (by omega) (by omega) (by omega) (by omega))
theorem kc_K.frP {H q : Nat} {Z : jz_Z} {Ds : Nat → List Int} {s τ : jl_Mm} (h : kc_K H Z Ds s) (hH : jz_Hq H) (hq : kc_q q) (f : jp_fr (kc_FP q) s τ) : kc_K H Z Ds τ := by
  have := kc_q8 hq
  exact h.fr hH f (fun c i _ _ => kc_FPn (by omega) (by omega) (by omega) (by omega))
/-- what burns, of all that are lit -/
theorem kc_pass7 {H q : Nat} {Z : jz_Z} {Ds : Nat → List Int} {p : Nat → Int} {s : jl_Mm} {r : Int} {F : jp_F} {Q : jl_Mm → Prop} (hq : kc_q q) (hW : kc_W H Z s) (hV : ks_V Z p) (hA : kc_A (ks_np Z) q p s) (hK : kc_K H Z Ds s) (hT : kz_K Z Ds) (hF : ∀ c i, jp_in [(191, 0, 0), (192, 0, 0), (193, 0, 0)] c i = true → jp_in F c i = true)
    (next : ∀ τ, jp_fr [(191, 0, 0), (192, 0, 0), (193, 0, 0)] s τ → (∀ l, l < ks_nl Z → 0 < p (8 + l) → jl_g τ 193 l = ks_val Z Ds p 1 l) → jE (jf_X5_pass_L57 jl_fu q 0 0 τ) r F s Q) : jE (jf_X5_pass_L7 jl_fu q 0 s) r F s Q := by
  have hn := hW.1.l
  have h8 := kc_q8 hq
  have n3 : ∀ {c i : Nat}, c ≠ 191 → c ≠ 192 → c ≠ 193 → jp_in [(191, 0, 0), (192, 0, 0), (193, 0, 0)] c i = false := by intro c i h1 h2 h3; simp [jp_in]; omega
  refine ku_for (α := jl_Mm) (G := fun n k τ => jf_X5_pass_L7 n q ((k : Nat) : Int) τ) (N := ks_nl Z) (P := fun o => jE o r F s Q) (I := fun k τ => jp_fr [(191, 0, 0), (192, 0, 0), (193, 0, 0)] s τ ∧ ∀ l, l < k → 0 < p (8 + l) → jl_g τ 193 l = ks_val Z Ds p 1 l) (fun n k τ hk hI => ?_) (fun n τ hI => ?_) (ks_nl Z) 0 jl_fu s (Nat.zero_add _) (by show ks_nl Z < 4000; omega) ⟨jp_fr.rf, fun l hl => absurd hl (Nat.not_lt_zero _)⟩
  · obtain ⟨hf, hv⟩ := hI
    have W := hW.fr hf (n3 (by decide) (by decide) (by decide)) (n3 (by decide) (by decide) (by decide)) (fun c i _ _ => n3 (by omega) (by omega) (by omega))
    have K := hK.fr hW.2.1 hf (fun c i _ _ => n3 (by omega) (by omega) (by omega))
    have A : kc_A (ks_np Z) q p τ := by
      have z : ∀ i, i < 4 → q + i ≠ 191 ∧ q + i ≠ 192 ∧ q + i ≠ 193 := fun i hi => by have := h8.2.2.2.2.2 i hi; omega
      have z0 := z 0 (by decide)
      exact hA.fr hf (n3 z0.1 z0.2.1 z0.2.2) (n3 z0.1 z0.2.1 z0.2.2) (fun c i x y => by have := z (c - q) (by omega); exact n3 (by omega) (by omega) (by omega))
    have ek : jl_add (k : Int) 1 = ((k + 1 : Nat) : Int) := jp_add (by omega) (by omega)
    refine Or.inr ?_
    show ∃ x', jf_X5_pass_L7 (n + 1) q ((k : Nat) : Int) τ = jf_X5_pass_L7 n q (((k + 1 : Nat)) : Int) x' ∧ jp_fr _ s x' ∧ ∀ l, l < k + 1 → 0 < p (8 + l) → jl_g x' 193 l = ks_val Z Ds p 1 l
    rw [jf_X5_pass_L7, W.g, W.gr, W.n3, if_neg (by omega), if_pos (by omega), Int.toNat_natCast, A.2.2.2.1 k (by omega)]
    by_cases z : 0 < p (8 + k)
    · obtain ⟨υ, u1, u2, -⟩ := kc_reckonS (w := 1) hq W hV A hk K hT (Or.inl rfl)
      have hb := (ks_val_ok hW.1 hV hT hk).2
      rw [if_neg (by omega), W.gH, show (1 : Int) = ((1 : Nat) : Int) from rfl, u1, jp_bd, if_pos (by omega), jp_lm, jf_X5_pass_B47, ek]
      refine ⟨_, rfl, (hf.tr (u2.w (by decide))).up rfl, fun l hl hp => ?_⟩
      by_cases e : l = k
      · subst e
        exact jp_g_eq (by have := hb.1; rw [ks_val] at this; omega) (by have := hb.2; rw [ks_val] at this; omega)
      · rw [jp_g_nei e, u2.g _ _ (kc_FRn (by decide) (by decide))]
        exact hv l (by omega) hp
    · rw [if_pos (by omega), jf_X5_pass_B47, ek]
      refine ⟨τ, rfl, hf, fun l hl hp => ?_⟩
      by_cases e : l = k
      · subst e; exact absurd hp z
      · exact hv l (by omega) hp
  · obtain ⟨hf, hv⟩ := hI
    have W := hW.fr hf (n3 (by decide) (by decide) (by decide)) (n3 (by decide) (by decide) (by decide)) (fun c i _ _ => n3 (by omega) (by omega) (by omega))
    show jE (jf_X5_pass_L7 (n + 1) q ((ks_nl Z : Nat) : Int) τ) r F s Q
    rw [jf_X5_pass_L7, W.g, W.gr, W.n3, if_pos (Int.le_refl _)]
    exact next τ hf hv
theorem kc_pass57 {H q : Nat} {Z : jz_Z} {Ds : Nat → List Int} {p : Nat → Int} {s : jl_Mm} (hq : kc_q q) (hW : kc_W H Z s) (hV : ks_V Z p) (hA : kc_A (ks_np Z) q p s) (hT : kz_K Z Ds) (hv : ∀ l, l < ks_nl Z → 0 < p (8 + l) → jl_g s 193 l = ks_val Z Ds p 1 l) : jE (jf_X5_pass_L57 jl_fu q 0 0 s) (ku_b (ks_goneP Z Ds p) (ks_nl Z)) (kc_FQ q) s (fun τ => kc_A (ks_np Z) q (ks_u (ks_fire Z Ds p (ks_nl Z)) 0 (if p 0 + 1 < 999 then p 0 + 1 else 999)) τ) := by
  have hn := hW.1.l
  have h8 := kc_q8 hq
  have h0 := hV.1
  refine ku_for (α := jl_Mm) (G := fun n k τ => jf_X5_pass_L57 n q (ku_b (ks_goneP Z Ds p) k) ((k : Nat) : Int) τ) (N := ks_nl Z) (P := fun o => jE o (ku_b (ks_goneP Z Ds p) (ks_nl Z)) (kc_FQ q) s (fun τ => kc_A (ks_np Z) q (ks_u (ks_fire Z Ds p (ks_nl Z)) 0 (if p 0 + 1 < 999 then p 0 + 1 else 999)) τ)) (I := fun k τ => jp_fr (kc_FQ q) s τ ∧ kc_A (ks_np Z) q (ks_fire Z Ds p k) τ) (fun n k τ hk hI => ?_) (fun n τ hI => ?_) (ks_nl Z) 0 jl_fu s (Nat.zero_add _) (by show ks_nl Z < 4000; omega) ⟨jp_fr.rf, hA⟩
  · obtain ⟨hf, A⟩ := hI
    have W := hW.frQ hq hf
    have ek : jl_add (k : Int) 1 = ((k + 1 : Nat) : Int) := jp_add (by omega) (by omega)
    have e8 : ks_fire Z Ds p k (8 + k) = p (8 + k) := ks_fire_o k (by omega) (by omega)
    have e16 : ks_fire Z Ds p k (16 + k) = p (16 + k) := ks_fire_o k (by omega) (by omega)
    have hl := hV.2.2.2 k (by omega)
    have h193 : jl_g τ 193 k = jl_g s 193 k := hf.g _ _ (kc_FQn (by intro z; have := h8.2.2.2.2.2 0 (by decide); omega) (by have := h8.2.2.2.2.2 2 (by decide); omega) (by have := h8.2.2.2.2.2 3 (by decide); omega))
    refine Or.inr ?_
    show ∃ x', jf_X5_pass_L57 (n + 1) q (ku_b (ks_goneP Z Ds p) k) ((k : Nat) : Int) τ = jf_X5_pass_L57 n q (ku_b (ks_goneP Z Ds p) (k + 1)) (((k + 1 : Nat)) : Int) x' ∧ jp_fr (kc_FQ q) s x' ∧ kc_A (ks_np Z) q (ks_fire Z Ds p (k + 1)) x'
    rw [jf_X5_pass_L57, W.g, W.gr, W.n3, if_neg (by omega), if_pos (by omega), Int.toNat_natCast, A.2.2.2.1 k (by omega), e8]
    by_cases z : 0 < p (8 + k)
    · have hkb := ks_kb_b (Z := Z) (Ds := Ds) (p := p) (l := k) (by omega)
      obtain ⟨υ, u1, u2, u3⟩ := kc_burn (l := k) (v := ks_val Z Ds p 1 k) hq A (by omega) (ks_val_ok hW.1 hV hT hk).2 (by rw [e8]; exact hl.1) (by rw [e16]; exact hl.2.1)
      rw [e8, e16] at u3
      have e3 : (if ks_val Z Ds p 1 k < 0 then 0 else if p (8 + k) < ks_val Z Ds p 1 k then p (8 + k) else ks_val Z Ds p 1 k) = ks_kb Z Ds p k := rfl
      rw [e3] at u3
      have ec : jl_g υ (q + 2) k = p (8 + k) - ks_kb Z Ds p k := by rw [u3.2.2.2.1 k (by omega), ks_un (by omega), ks_ue]
      rw [if_neg (by omega), if_pos (by omega), h193, hv k hk z, u1, jp_bd, if_pos (by omega), ec, ks_fire, if_pos z]
      by_cases y : p (8 + k) - ks_kb Z Ds p k = 0
      · have hp : ks_goneP Z Ds p k = true := decide_eq_true ⟨z, y⟩
        obtain ⟨ω, o1, o2, o3⟩ := kc_out (l := k) hq u3 (by omega)
        rw [if_pos y, o1, jp_bd, jp_let, jf_X5_pass_B108, ek, ku_bT hp, if_pos y]
        refine ⟨ω, rfl, (hf.tr u2).tr o2, o3.cg (fun j hj => ?_)⟩
        by_cases e1 : j = 16 + k
        · subst e1; rw [ks_ue, ks_ue]
        · rw [ks_un e1, ks_un e1]
          by_cases e2 : j = 8 + k
          · subst e2; rw [ks_ue, ks_ue]
          · rw [ks_un e2, ks_un e2, ks_un e1, ks_un e2]
      · have hp : ks_goneP Z Ds p k = false := decide_eq_false (fun q => y q.2)
        rw [if_neg y, jf_X5_pass_B108, ek, ku_bF hp, if_neg y]
        exact ⟨υ, rfl, hf.tr u2, u3⟩
    · have hp : ks_goneP Z Ds p k = false := decide_eq_false (fun q => z q.1)
      rw [if_pos (by omega), jf_X5_pass_B108, ek, ku_bF hp, ks_fire, if_neg z]
      exact ⟨τ, rfl, hf, A⟩
  · obtain ⟨hf, A⟩ := hI
    have W := hW.frQ hq hf
    have e0 : ks_fire Z Ds p (ks_nl Z) 0 = p 0 := ks_fire_o _ hn.2 (by omega)
    show jE (jf_X5_pass_L57 (n + 1) q (ku_b (ks_goneP Z Ds p) (ks_nl Z)) ((ks_nl Z : Nat) : Int) τ) (ku_b (ks_goneP Z Ds p) (ks_nl Z)) (kc_FQ q) s (fun τ => kc_A (ks_np Z) q (ks_u (ks_fire Z Ds p (ks_nl Z)) 0 (if p 0 + 1 < 999 then p 0 + 1 else 999)) τ)
    rw [jf_X5_pass_L57, W.g, W.gr, W.n3, if_pos (Int.le_refl _), A.1, e0, jp_add (by omega) (by omega), ku_min, jp_bd, jp_lm]
    exact ⟨_, rfl, hf.up (by simp [jp_in, kc_FQ]), A.up0 (by split <;> exact ⟨by omega, by omega⟩)⟩
theorem kc_pass {H q : Nat} {Z : jz_Z} {Ds : Nat → List Int} {a : Nat → Int} {s : jl_Mm} (hq : kc_q q) (hW : kc_W H Z s) (hV : ks_V Z a) (hA : kc_A (ks_np Z) q a s) (hK : kc_K H Z Ds s) (hT : kz_K Z Ds) : jE (jf_X5_pass q s) (ku_b (ks_gone Z Ds a) (ks_nl Z)) (kc_FP q) s (fun τ => kc_A (ks_np Z) q (ks_hourC Z Ds a) τ) := by
  have h8 := kc_q8 hq
  obtain ⟨s2, p1, p2, p3⟩ := kc_plan hq hW hV hA
  obtain ⟨v1, v2, v3⟩ := ks_plan_V hW.1 hV (ks_nr Z) (Nat.le_refl _)
  rw [jf_X5_pass, if_pos (kc_q7 hq), p1, jp_bd]
  have W2 := hW.frQ hq p2
  have K2 := hK.frQ hW.2.1 hq p2
  have sub : ∀ c i, jp_in (kc_FQ q) c i = true → jp_in (kc_FP q) c i = true := by intro c i h; simp [jp_in, kc_FQ, kc_FP] at h ⊢; omega
  refine jE.fr (p2.ws sub) ?_
  refine kc_pass7 hq W2 v1 p3 K2 hT (by intro c i h; simp [jp_in, kc_FP] at h ⊢; omega) (fun τ hf hv => ?_)
  have n3 : ∀ {c i : Nat}, c ≠ 191 → c ≠ 192 → c ≠ 193 → jp_in [(191, 0, 0), (192, 0, 0), (193, 0, 0)] c i = false := by intro c i h1 h2 h3; simp [jp_in]; omega
  have z : ∀ i, i < 4 → q + i ≠ 191 ∧ q + i ≠ 192 ∧ q + i ≠ 193 := fun i hi => by have := h8.2.2.2.2.2 i hi; omega
  have z0 := z 0 (by decide)
  have A : kc_A (ks_np Z) q (ks_plan Z a (ks_nr Z)) τ := p3.fr hf (n3 z0.1 z0.2.1 z0.2.2) (n3 z0.1 z0.2.1 z0.2.2) (fun c i x y => by have := z (c - q) (by omega); exact n3 (by omega) (by omega) (by omega))
  have W := W2.fr hf (n3 (by decide) (by decide) (by decide)) (n3 (by decide) (by decide) (by decide)) (fun c i _ _ => n3 (by omega) (by omega) (by omega))
  obtain ⟨υ, u1, u2, u3⟩ := kc_pass57 hq W v1 A hT hv
  rw [v2] at u3
  exact ⟨υ, u1, (hf.ws (by intro c i h; simp [jp_in, kc_FP] at h ⊢; omega)).tr (u2.ws sub), u3⟩
