/-! PURE, the reference's sums, step by step, second half -/
theorem jy_br_mem {V pd : List Int} {x : Int} (hx : 20 ≤ x ∧ x ≤ 24) (hpd : ∀ y ∈ pd, ¬ (20 ≤ y ∧ y ≤ 24)) : jy_br ((V ++ [x] ++ pd.reverse).reverse) = x := jy_br_top hx hpd
/-- (F) a comma -/
theorem jy_stF {T : Nat → Int} {e kind o p : Nat} {B V pd cs : List Int} {x l1 : Int} {Post : jl_Mm → Prop} (hx : x = 21 ∨ x = 22) (hpd : ∀ y ∈ pd, ¬ (20 ≤ y ∧ y ≤ 24)) (hc : jq_pk T e p = 44) (h : jy_CP T e kind o B.length (jq_sk T e (p + 1)) (B ++ V ++ [x + 2]) (cs ++ pd) l1 Post) : jy_CG T e kind o B.length p (B ++ V ++ [x] ++ pd.reverse) cs l1 Post := by
  intro n m2 s hn hm hQ
  have he := hQ.1.1
  obtain ⟨hlt, hT⟩ := jq_pk_lt hc (by decide)
  have s1 := jy_sk1 (T := T) hlt
  have hQ' : jy_Q T e p kind o B.length p (B ++ (V ++ [x] ++ pd.reverse)) cs s := by simpa using hQ
  have hbr := jy_br_top (V := V) (x := x) (pd := pd) (by omega) hpd
  obtain ⟨τ, t1, t2, t3, t4⟩ := jy_st0 hQ' (m2 := m2) (by omega) (Or.inl (by rw [hc]; decide))
  obtain ⟨υ, u1, u2, u3, u4⟩ := jy_stN (by rw [hc]; decide) t3
  have f326 : jE (jl_bd (jf_X12_qGoesOn_B326 υ) fun r13 s14 => if r13 = 0 then jf_X12_qSums_L15 n l1 0 s14 else jf_X12_qSums_L15 n l1 1 s14) 0 jy_FQ υ Post := by
    obtain ⟨a0, a1, a2, a3, -⟩ := jx12_asksSign (c := 44) (by decide) (by decide) u3.1
    have aL := a3 hc
    have aQ := u3.L aL a2 (by decide)
    have aQ' : jy_Q T e (jq_sk T e (p + 1)) kind o B.length p (B ++ (V ++ [x]) ++ pd.reverse) cs a0 := by simpa using aQ
    have hpl : pd.length < jl_fu := by
      have := hQ.2.2.2.2.2.2.2.2.1
      have hpe := hQ.1.pe.1
      simp at this
      show _ < 4000
      omega
    obtain ⟨c0, c1, c2, c3⟩ := jx12_toBracket (V := V ++ [x]) (Or.inr ⟨V, x, rfl, by omega⟩) pd cs a0 jl_fu hpd hpl aQ'
    have ht := jy_V.top (W := B ++ V) (x := x) (by simpa using c3.2)
    have h8 := c3.2.2.2.2.2.2.2.2.1
    simp only [List.length_append, List.length_singleton] at h8 ht
    rw [jf_X12_qGoesOn_B326, a1, jp_bd, if_pos aL.2.2.2.1, jf_X12_qDropsToBracket, c1, jp_bd, ht.1, jp_sub (by omega) (by omega), if_pos (by omega), if_pos (by omega), show (((B.length + V.length + 1 : Nat) : Int) - 1).toNat = B.length + V.length by omega, ht.2]
    have f3 : jp_fr [(283, 0, 0)] c0 (jl_up c0 283 (B.length + V.length) (jl_add x 2)) := jp_fr.rf.up rfl
    have g3 : jl_g (jl_up c0 283 (B.length + V.length) (jl_add x 2)) 283 (B.length + V.length) = x + 2 := by
      simp (disch := omega) only [if_pos, if_neg, jp_bd, jp_lm, jp_let, jp_zb0, jp_zb1, jp_add, jp_sub, jp_g_eq, jp_g_eqg, jp_g_ne, jp_g_nei, jp_r_ne, jp_r_nei, Int.toNat_natCast]
    have g4 : ∀ i, i ≠ B.length + V.length → jl_g (jl_up c0 283 (B.length + V.length) (jl_add x 2)) 283 i = jl_g c0 283 i := by
      intro i hi
      simp (disch := omega) only [if_pos, if_neg, jp_bd, jp_lm, jp_let, jp_zb0, jp_zb1, jp_add, jp_sub, jp_g_eq, jp_g_eqg, jp_g_ne, jp_g_nei, jp_r_ne, jp_r_nei, Int.toNat_natCast]
    rw [jp_lm, jp_zb1, jp_bd, if_neg (by decide)]
    generalize jl_up c0 283 (B.length + V.length) (jl_add x 2) = d0 at *
    have dQ : jy_Q T e (jq_sk T e (p + 1)) kind o B.length p (B ++ V ++ [x + 2]) (cs ++ pd) d0 := by
      obtain ⟨hL, b1, b2, b3, b4, b5, b6, b7, b8, b9⟩ := c3
      refine ⟨hL.V f3 (by decide), (f3.g _ _ rfl).trans b1, (f3.g _ _ rfl).trans b2, (f3.g _ _ rfl).trans b3, ?_, fun i hi => ?_, (f3.g _ _ rfl).trans b6, fun i hi => (f3.g _ _ rfl).trans (b7 i hi), ?_, b9⟩
      · rw [f3.g _ _ rfl, b4]; simp
      · simp only [List.length_append, List.length_singleton] at hi
        by_cases z : i = B.length + V.length
        · subst z
          rw [g3, List.getElem_append_right (by simp)]
          simp
        · rw [g4 i z, b5 i (by simp; omega)]
          have e1 : (B ++ (V ++ [x]))[i]? = (B ++ V ++ [x + 2])[i]? := by
            have q : i < (B ++ V).length := by simp only [List.length_append]; omega
            rw [show B ++ (V ++ [x]) = (B ++ V) ++ [x] by simp, List.getElem?_append_left q, List.getElem?_append_left q]
          rw [List.getElem?_eq_getElem (by simp; omega), List.getElem?_eq_getElem (by simp; omega)] at e1
          exact Option.some.inj e1
      · simp only [List.length_append, List.length_singleton] at b8 ⊢
        omega
    refine jE.fr ((a2.w (by decide)).tr ((c2).tr (f3.w (by decide)))) ?_
    exact jy_goP h (by omega) (by omega) hn (dQ.w (by omega) (by omega))
  rw [jy_KG, t1, u1]
  refine jE.fr ((t2.w (by decide)).tr (u2.w (by decide))) ?_
  rw [jx12_bracket u3.2, jp_bd, hbr]
  rcases hx with rfl | rfl
  · rw [if_pos rfl]; exact f326
  · rw [if_neg (by decide), jx12_bracket u3.2, jp_bd, hbr, if_pos rfl]; exact f326
/-- (G) no such text behind -/
theorem jy_stG {T : Nat → Int} {e kind o p : Nat} {B V pd cs : List Int} {x l1 : Int} {Post : jl_Mm → Prop} (hx : 20 ≤ x ∧ x ≤ 24) (hpd : ∀ y ∈ pd, ¬ (20 ≤ y ∧ y ≤ 24)) (hc : jq_pk T e p ≠ 42 ∧ jq_pk T e p ≠ 47 ∧ jq_pk T e p ≠ 43 ∧ jq_pk T e p ≠ 45) (hc2 : jq_pk T e p ≠ (if x = 21 ∨ x = 22 then 44 else 41)) (hX : ∀ τ, jy_M 1 p τ → Post τ) : jy_CG T e kind o B.length p (B ++ V ++ [x] ++ pd.reverse) cs l1 Post := by
  intro n m2 s hn hm hQ
  have he := hQ.1.1
  have hpe := hQ.1.pe
  have hQ' : jy_Q T e p kind o B.length p (B ++ (V ++ [x] ++ pd.reverse)) cs s := by simpa using hQ
  have hbr := jy_br_top (V := V) (x := x) (pd := pd) hx hpd
  obtain ⟨τ, t1, t2, t3, t4⟩ := jy_st0 hQ' (m2 := m2) (by omega) (by
    by_cases z : x = 21 ∨ x = 22
    · rw [hbr]; exact Or.inr (by omega)
    · rw [if_neg z] at hc2; exact Or.inl hc2)
  obtain ⟨υ, u1, u2, u3, u4⟩ := jy_stN hc t3
  rw [jy_KG, t1, u1]
  refine jE.fr ((t2.w (by decide)).tr (u2.w (by decide))) ?_
  by_cases z : x = 21 ∨ x = 22
  · rw [if_pos z] at hc2
    have f326 : jE (jl_bd (jf_X12_qGoesOn_B326 υ) fun r13 s14 => if r13 = 0 then jf_X12_qSums_L15 n l1 0 s14 else jf_X12_qSums_L15 n l1 1 s14) 0 jy_FQ υ Post := by
      obtain ⟨a0, a1, a2, -, a3⟩ := jx12_asksSign (c := 44) (by decide) (by decide) u3.1
      have aK := (a3 hc2).m a2 rfl u3.2
      rw [jf_X12_qGoesOn_B326, a1, jp_bd, if_neg (by rw [aK.1.2.1]; decide), jp_zb0, jp_bd, if_pos rfl]
      exact jE.fr (a2.w (by decide)) (jy_exit aK (by omega) hX)
    rw [jx12_bracket u3.2, jp_bd, hbr]
    rcases z with rfl | rfl
    · rw [if_pos rfl]; exact f326
    · rw [if_neg (by decide), jx12_bracket u3.2, jp_bd, hbr, if_pos rfl]; exact f326
  · rw [jx12_bracket u3.2, jp_bd, hbr, if_neg (by omega), jx12_bracket u3.2, jp_bd, hbr, if_neg (by omega), jx12_bracket u3.2, jp_bd, hbr, if_neg (by omega), if_pos u3.1.2.2.2.1, u4]
    obtain ⟨a0, a1, a2, a3⟩ := jx12_fail (k := 1) u3.1 (by decide) (by decide) (a := p) (by omega)
    rw [show ((1 : Nat) : Int) = 1 from rfl] at a1
    rw [a1, jp_bd, jf_X12_qGoesOn_B386, jp_zb0, jp_bd, if_pos rfl]
    exact jE.fr (a2.w (by decide)) (jy_exit (a3.m a2 rfl u3.2) (by omega) hX)
/-- what is left at the end of a sum is told -/
theorem jy_end53 {T : Nat → Int} {e p kind o b base0 : Nat} {B : List Int} {Post : jl_Mm → Prop} : ∀ (pd cs : List Int) (s : jl_Mm) (n : Nat), pd.length < n → jy_Q T e p kind o B.length b (B ++ pd.reverse) cs s → (∀ τ, jy_Q T e p kind o base0 b B (cs ++ pd) τ → Post τ) → base0 ≤ 2000 → jE (jf_X12_qSums_L53 n (base0 : Int) s) 0 jy_FQ s Post := by
  intro pd
  induction pd with
  | nil =>
    intro cs s n hn h hP hb
    cases n with
    | zero => cases hn
    | succ n =>
      simp only [List.reverse_nil, List.append_nil] at h hP
      have h3 := h.2.2.2.1
      have h4 := h.2.2.2.2.1
      rw [jf_X12_qSums_L53, if_pos h.1.2.2.2.1, h3, h4, if_pos (by omega), jf_X12_qSums_B78]
      refine jE.lm (by simp [jy_FQ, jp_in]) (jE.ret (hP _ ?_))
      have f : jp_fr [(206, 104, 105)] s (jl_up s 206 104 (base0 : Int)) := jp_fr.rf.up rfl
      have g : jl_g (jl_up s 206 104 (base0 : Int)) 206 104 = (base0 : Int) := by
        simp (disch := omega) only [if_pos, if_neg, jp_bd, jp_lm, jp_let, jp_zb0, jp_zb1, jp_add, jp_sub, jp_g_eq, jp_g_eqg, jp_g_ne, jp_g_nei, jp_r_ne, jp_r_nei, Int.toNat_natCast]
      generalize jl_up s 206 104 (base0 : Int) = τ at *
      obtain ⟨hL, b1, b2, b3, b4, b5, b6, b7, b8⟩ := h
      exact ⟨hL.V f (by decide), (f.g _ _ rfl).trans b1, (f.g _ _ rfl).trans b2, g, (f.g _ _ rfl).trans b4, fun i hi => (f.g _ _ rfl).trans (b5 i hi), (f.g _ _ rfl).trans b6, fun i hi => (f.g _ _ rfl).trans (b7 i hi), b8⟩
  | cons x pd ih =>
    intro cs s n hn h hP hb
    cases n with
    | zero => cases hn
    | succ n =>
      rw [List.reverse_cons, ← List.append_assoc] at h
      have h3 := h.2.2.2.1
      have ht := h.2.top.1
      simp only [List.length_append, List.length_reverse, List.length_cons] at ht hn
      rw [jf_X12_qSums_L53, if_pos h.1.2.2.2.1, h3, ht, if_neg (by omega)]
      refine jE.bd (jx12_drops h) (by decide) (fun τ f z => ?_)
      refine ih (cs ++ [x]) τ n (by omega) z (fun υ q => hP υ ?_) hb
      simpa using q
/-- (H) the sum has ended -/
theorem jy_stH {T : Nat → Int} {e kind o p base0 : Nat} {B pd cs : List Int} {Post : jl_Mm → Prop} (hpd : ∀ y ∈ pd, ¬ (20 ≤ y ∧ y ≤ 24)) (hc : jq_pk T e p ≠ 42 ∧ jq_pk T e p ≠ 47 ∧ jq_pk T e p ≠ 43 ∧ jq_pk T e p ≠ 45) (hb : base0 ≤ 2000) (hP : ∀ τ, jy_Q T e p kind o base0 p B (cs ++ pd) τ → Post τ) : jy_CG T e kind o B.length p (B ++ pd.reverse) cs (base0 : Int) Post := by
  intro n m2 s hn hm hQ
  have he := hQ.1.1
  have hpe := hQ.1.pe
  have hbr := jy_br_none hpd
  obtain ⟨τ, t1, t2, t3, t4⟩ := jy_st0 hQ (m2 := m2) (by omega) (Or.inr (by rw [List.reverse_reverse, hbr]; decide))
  obtain ⟨υ, u1, u2, u3, u4⟩ := jy_stN hc t3
  have hpl : pd.length < jl_fu := by
    have := hQ.2.2.2.2.2.2.2.2.1
    simp at this
    show _ < 4000
    omega
  have hbu := jx12_bracket u3.2
  rw [List.reverse_reverse, hbr] at hbu
  rw [jy_KG, t1, u1, hbu, jp_bd, if_neg (by decide), hbu, jp_bd, if_neg (by decide), hbu, jp_bd, if_pos rfl, jf_X12_qGoesOn_B386, jp_zb0, jp_bd, if_pos rfl]
  refine jE.fr ((t2.w (by decide)).tr (u2.w (by decide))) ?_
  cases n with
  | zero => omega
  | succ n =>
    rw [jf_X12_qSums_L15, if_pos rfl]
    exact jy_end53 pd cs υ jl_fu hpl u3 hP hb
/-! at a part's place -/
theorem jy_wo_lt {kind : Nat} {w a b : Int} : jy_wo kind w a b = -1 ∨ (a ≤ jy_wo kind w a b ∧ jy_wo kind w a b < b ∧ jy_wo kind w a b = jy_k w ∧ jq_al kind w = true) := by
  rw [jy_wo]
  split
  · rename_i h; exact Or.inr ⟨h.1, h.2.1, rfl, h.2.2⟩
  · exact Or.inl rfl
theorem jq_wn_bg {T : Nat → Int} {e p : Nat} (h : jq_wn T e p ≠ -1) : jq_bg T e p := by
  apply Classical.byContradiction
  intro q
  exact h (by rw [jq_wn, if_neg q])
theorem jq_wn_pk {T : Nat → Int} {e p : Nat} (h : ¬ jq_lt (jq_pk T e p)) : jq_wn T e p = -1 := by
  apply Classical.byContradiction
  intro q
  have := jq_wn_bg q
  rw [jq_pk_in this.1] at h
  exact h this.2.1
/-- (P1) a round bracket opens -/
theorem jy_stP1 {T : Nat → Int} {e kind o p : Nat} {base : Nat} {W cs : List Int} {l1 : Int} {Post : jl_Mm → Prop} (hk : kind < 4) (hc : jq_pk T e p = 40) (hX : ¬ o < 6 → ∀ τ, jy_M 4 p τ → Post τ) (h : o < 6 → jy_CP T e kind (o + 1) base (jq_sk T e (p + 1)) (W ++ [20]) cs l1 Post) : jy_CP T e kind o base p W cs l1 Post := by
  intro n m s hn hm hQ
  have he := hQ.1.1
  obtain ⟨hlt, hT⟩ := jq_pk_lt hc (by decide)
  have s1 := jy_sk1 (T := T) hlt
  cases m with
  | zero => omega
  | succ m =>
    obtain ⟨a0, a1, a2, a3, a4, a5⟩ := jx12_look hQ.1
    have aQ := hQ.L a3 a2 (by decide)
    obtain ⟨b0, b1, b2, b3, b4, b5⟩ := jx12_wordOf (lo := 10) (hi := 12) a3 aQ.2.1 hk (by decide) (by decide)
    have bQ := aQ.L b3 b2 (by decide)
    rw [jy_KP, jf_X12_qPartTold_L2, if_neg (by decide), if_pos hQ.1.2.2.2.1, a1, jp_bd, b1, jp_bd, if_pos hc, b4]
    refine jE.fr ((a2.w (by decide)).tr (b2.w (by decide))) ?_
    have op := jx12_opens bQ (v := 20) (a := p) ⟨by decide, by decide⟩ (by omega) (by omega)
    by_cases ho : o < 6
    · obtain ⟨c0, c1, c2, c3, c4, c5⟩ := op.1 ho
      rw [c1, jp_bd, c4, b4, jp_lm]
      have f0 : jp_fr [(206, 2, 3)] c0 (jl_up c0 206 2 (jl_add (p : Int) 1)) := jp_fr.rf.up rfl
      have g0 : jl_g (jl_up c0 206 2 (jl_add (p : Int) 1)) 206 2 = ((p + 1 : Nat) : Int) := by
        simp (disch := omega) only [if_pos, if_neg, jp_bd, jp_lm, jp_let, jp_zb0, jp_zb1, jp_add, jp_sub, jp_g_eq, jp_g_eqg, jp_g_ne, jp_g_nei, jp_r_ne, jp_r_nei, Int.toNat_natCast]
        omega
      generalize jl_up c0 206 2 (jl_add (p : Int) 1) = d0 at *
      have hL0 : jy_L T e (jq_sk T e (p + 1)) d0 := c3.1.mv f0 jy_in2 g0 (by omega) (by rw [f0.g _ _ rfl, c5]; exact b5.step (by rw [hT]; decide))
      refine jE.fr (c2.tr (f0.w (by decide))) ?_
      exact h ho n m d0 (by omega) (by omega) ((c3.L hL0 f0 (by decide)).w (by omega) (by omega))
    · obtain ⟨c0, c1, c2, c3⟩ := op.2 ho
      have c3m := c3.m c2 rfl bQ.2
      have c3b : ∀ v, jy_M 4 p (jl_up c0 206 2 v) := by
        intro v
        have hr : jl_g (jl_up c0 206 2 v) 206 100 = jl_g c0 206 100 := by
          simp (disch := omega) only [if_pos, if_neg, jp_bd, jp_lm, jp_let, jp_zb0, jp_zb1, jp_add, jp_sub, jp_g_eq, jp_g_eqg, jp_g_ne, jp_g_nei, jp_r_ne, jp_r_nei, Int.toNat_natCast]
        refine ⟨⟨c3.1, ?_, ?_⟩, by rw [hr]; exact c3m.2⟩
        · simp (disch := omega) only [if_pos, if_neg, jp_bd, jp_lm, jp_let, jp_zb0, jp_zb1, jp_add, jp_sub, jp_g_eq, jp_g_eqg, jp_g_ne, jp_g_nei, jp_r_ne, jp_r_nei, Int.toNat_natCast, c3.2.1]
        · simp (disch := omega) only [if_pos, if_neg, jp_bd, jp_lm, jp_let, jp_zb0, jp_zb1, jp_add, jp_sub, jp_g_eq, jp_g_eqg, jp_g_ne, jp_g_nei, jp_r_ne, jp_r_nei, Int.toNat_natCast, c3.2.2]
      rw [c1, jp_bd, jp_lm, jf_X12_qPartTold_B183]
      refine jE.fr ((c2.w (by decide)).tr ((jp_fr.rf.up (c := 206) (i := 2) (v := jl_add (jl_g c0 206 2) 1) (by simp [jy_FQ, jp_in])))) ?_
      have c4 := c3b (jl_add (jl_g c0 206 2) 1)
      generalize jl_up c0 206 2 (jl_add (jl_g c0 206 2) 1) = d0 at *
      have hb : ¬ jl_g d0 206 5 = 0 := by rw [c4.1.2.1]; decide
      cases m with
      | zero => omega
      | succ m =>
        rw [jf_X12_qPartTold_L2, if_neg (by decide), if_neg hb, jf_X12_qPartTold_B186, if_neg hb, jp_bd, jy_KA, if_neg hb]
        exact jy_exit c4 (by omega) (hX ho)
/-- (Px) the faulty rest of a part -/
theorem jy_partX {n m k p : Nat} {l1 : Int} {s : jl_Mm} {Post : jl_Mm → Prop} (h : jy_M k p s) (hn : 0 < n) (hm : 0 < m) (hX : ∀ τ, jy_M k p τ → Post τ) : jE (jl_bd (jf_X12_qPartTold_L2 m 1 s) fun _ s11 => jy_KA n l1 s11) 0 jy_FQ s Post := by
  have hb : ¬ jl_g s 206 5 = 0 := by rw [h.1.2.1]; have := h.1.1; omega
  cases m with
  | zero => cases hm
  | succ m =>
    rw [jf_X12_qPartTold_L2, if_neg (by decide), if_neg hb, jf_X12_qPartTold_B186, if_neg hb, jp_bd, jy_KA, if_neg hb]
    exact jy_exit h hn hX
/-- (P0) no sign that opens: the words are looked at -/
theorem jy_stP0 {T : Nat → Int} {e kind o p : Nat} {base : Nat} {W cs : List Int} {l1 : Int} (hk : kind < 4) (hc : jq_pk T e p ≠ 40) {n m : Nat} {s : jl_Mm} (hQ : jy_Q T e p kind o base p W cs s) : ∃ τ, jy_KP n (m + 1) l1 s = (jl_bd (if jq_wn T e p = 30 ∨ jq_wn T e p = 31 then jf_X12_qPartTold_B78 (jf_X12_qPartTold_L2 m) 1 τ else if jy_wo kind (jq_wn T e p) 10 12 = -1 then jf_X12_qPartTold_L2 m 0 τ else jl_bd (jf_X12_qOpens (jl_sub (jl_add 60 (jy_wo kind (jq_wn T e p) 10 12)) 10) (p : Int) τ) fun _ s43 => jl_bd (jf_X12_qAsksWord (jy_wo kind (jq_wn T e p) 10 12) s43) fun _ s45 => jf_X12_qPartTold_L2 m 1 s45) fun _ s11 => jy_KA n l1 s11) ∧ jp_fr [(206, 2, 3)] s τ ∧ jy_Q T e p kind o base p W cs τ ∧ jl_g τ 206 2 = (p : Int) ∧ jy_E T p (jl_g τ 206 4) := by
  obtain ⟨a0, a1, a2, a3, a4, a5⟩ := jx12_look hQ.1
  have aQ := hQ.L a3 a2 (by decide)
  obtain ⟨b0, b1, b2, b3, b4, b5⟩ := jx12_wordOf (lo := 10) (hi := 12) a3 aQ.2.1 hk (by decide) (by decide)
  have bQ := aQ.L b3 b2 (by decide)
  obtain ⟨c0, c1, c2, c3, c4, c5⟩ := jx12_isHere (c := 268) (Or.inr (by omega)) b3
  have cQ := bQ.L c3 c2 (by decide)
  have e1 : (jy_wn 268 : Int) = 30 := rfl
  rw [e1] at c1
  by_cases w30 : jq_wn T e p = 30
  · rw [if_pos w30] at c1
    refine ⟨c0, ?_, (a2.tr b2).tr c2, cQ, c4, c5⟩
    rw [jy_KP, jf_X12_qPartTold_L2, if_neg (by decide), if_pos hQ.1.2.2.2.1, a1, jp_bd, b1, jp_bd, if_neg hc, c1, jp_bd, if_neg (by decide), if_pos (Or.inl w30)]
  · rw [if_neg w30] at c1
    obtain ⟨d0, d1, d2, d3, d4, d5⟩ := jx12_isHere (c := 269) (Or.inr (by omega)) c3
    have dQ := cQ.L d3 d2 (by decide)
    have e2 : (jy_wn 269 : Int) = 31 := rfl
    rw [e2] at d1
    refine ⟨d0, ?_, ((a2.tr b2).tr c2).tr d2, dQ, d4, d5⟩
    by_cases w31 : jq_wn T e p = 31
    · rw [if_pos w31] at d1
      rw [jy_KP, jf_X12_qPartTold_L2, if_neg (by decide), if_pos hQ.1.2.2.2.1, a1, jp_bd, b1, jp_bd, if_neg hc, c1, jp_bd, if_pos rfl, d1, jp_bd, if_neg (by decide), if_pos (Or.inr w31)]
    · rw [if_neg w31] at d1
      rw [jy_KP, jf_X12_qPartTold_L2, if_neg (by decide), if_pos hQ.1.2.2.2.1, a1, jp_bd, b1, jp_bd, if_neg hc, c1, jp_bd, if_pos rfl, d1, jp_bd, if_pos rfl, if_neg (c := jq_wn T e p = 30 ∨ jq_wn T e p = 31) (by omega), d4]
      rfl
/-- (P2) wax, glow -/
theorem jy_stP2 {T : Nat → Int} {e kind o p : Nat} {base : Nat} {W cs : List Int} {l1 : Int} {Post : jl_Mm → Prop} (hk : kind < 4) (hw : jq_wn T e p = 24 ∨ jq_wn T e p = 25) (hal : jq_al kind (jq_wn T e p) = true) (hX : ¬ o < 6 → ∀ τ, jy_M 4 p τ → Post τ) (h : o < 6 → jy_CP T e kind (o + 1) base (jq_sk T e (jq_we T e p)) (W ++ [jq_cd (jq_wn T e p)]) cs l1 Post) : jy_CP T e kind o base p W cs l1 Post := by
  intro n m s hn hm hQ
  have he := hQ.1.1
  have hpe := hQ.1.pe
  have hbg : jq_bg T e p := jq_wn_bg (by omega)
  have hc : jq_pk T e p ≠ 40 := by
    rw [jq_pk_in hbg.1]
    have := hbg.2.1
    omega
  have s1 : p + 1 ≤ jq_sk T e (jq_we T e p) ∧ jq_sk T e (jq_we T e p) ≤ e := by
    have h5 := jq_we_ge (T := T) (e := e) (a := p + 1)
    rw [← jq_we_step hbg.1 hbg.2.1] at h5
    exact ⟨Nat.le_trans h5 jq_sk_ge, jq_sk_ub (jq_we_ub hpe.1)⟩
  cases m with
  | zero => omega
  | succ m =>
    obtain ⟨a0, a1, a2, a3, a4, a5⟩ := jy_stP0 (n := n) (m := m) (l1 := l1) hk hc hQ
    have ek : jy_wo kind (jq_wn T e p) 10 12 = jy_k (jq_wn T e p) ∧ jy_k (jq_wn T e p) ≠ -1 ∧ jl_sub (jl_add 60 (jy_k (jq_wn T e p))) 10 = jq_cd (jq_wn T e p) ∧ jl_n3 (jq_cd (jq_wn T e p)) := by
      rw [jy_wo, hal]
      rcases hw with q | q <;> rw [q] <;> exact ⟨by decide, by decide, by decide, by decide, by decide⟩
    rw [a1, if_neg (by omega), ek.1, if_neg ek.2.1, ek.2.2.1]
    refine jE.fr (a2.w (by decide)) ?_
    have op := jx12_opens a3 (v := jq_cd (jq_wn T e p)) (a := p) ek.2.2.2 (by omega) (by omega)
    by_cases ho : o < 6
    · obtain ⟨c0, c1, c2, c3, c4, c5⟩ := op.1 ho
      obtain ⟨d0, d1, d2, d3⟩ := jx12_asksWord c3.1 ek.2.1
      rw [c1, jp_bd, d1, jp_bd]
      refine jE.fr (c2.tr (d2.w (by decide))) ?_
      exact h ho n m d0 (by omega) (by omega) ((c3.L d3 d2 (by decide)).w (by omega) (by omega))
    · obtain ⟨c0, c1, c2, c3⟩ := op.2 ho
      have hb : ¬ jl_g c0 206 5 = 0 := by rw [c3.2.1]; decide
      have hq : jf_X12_qAsksWord (jy_k (jq_wn T e p)) c0 = some (0, c0) := by
        have as : ∀ c, jy_is c → jf_X12_asks c c0 = some (0, c0) := by
          intro c hcc
          rw [jf_X12_asks, if_pos (by rw [jy_kd hcc]), if_neg hb, jf_X12_asks_B24]
        rw [jf_X12_qAsksWord]
        simp only [jf_X12_qAsksWord_B189]
        rcases hw with q | q <;> rw [q]
        · show jl_bd (jf_X12_asks 280 c0) _ = _
          rw [as 280 (Or.inr (by omega)), jp_bd]
        · show jl_bd (jf_X12_asks 281 c0) _ = _
          rw [as 281 (Or.inr (by omega)), jp_bd]
      rw [c1, jp_bd, hq, jp_bd]
      exact jE.fr (c2.w (by decide)) (jy_partX (c3.m c2 rfl a3.2) (by omega) (by omega) (hX ho))
/-- (P3) min, max -/
theorem jy_stP3 {T : Nat → Int} {e kind o p : Nat} {base : Nat} {W cs : List Int} {l1 : Int} {Post : jl_Mm → Prop} (hk : kind < 4) (hw : jq_wn T e p = 30 ∨ jq_wn T e p = 31) (hX1 : jq_pk T e (jq_sk T e (jq_we T e p)) ≠ 40 → ∀ τ, jy_M 1 (jq_sk T e (jq_we T e p)) τ → Post τ) (hX4 : jq_pk T e (jq_sk T e (jq_we T e p)) = 40 → ¬ o < 6 → ∀ τ, jy_M 4 (jq_sk T e (jq_we T e p)) τ → Post τ) (h : jq_pk T e (jq_sk T e (jq_we T e p)) = 40 → o < 6 → jy_CP T e kind (o + 1) base (jq_sk T e (jq_sk T e (jq_we T e p) + 1)) (W ++ [if jq_wn T e p = 30 then 21 else 22]) cs l1 Post) : jy_CP T e kind o base p W cs l1 Post := by
  intro n m s hn hm hQ
  have he := hQ.1.1
  have hpe := hQ.1.pe
  have hbg : jq_bg T e p := jq_wn_bg (by omega)
  have hc : jq_pk T e p ≠ 40 := by
    rw [jq_pk_in hbg.1]
    have := hbg.2.1
    omega
  have s1 : p + 1 ≤ jq_sk T e (jq_we T e p) ∧ jq_sk T e (jq_we T e p) ≤ e := by
    have h5 := jq_we_ge (T := T) (e := e) (a := p + 1)
    rw [← jq_we_step hbg.1 hbg.2.1] at h5
    exact ⟨Nat.le_trans h5 jq_sk_ge, jq_sk_ub (jq_we_ub hpe.1)⟩
  cases m with
  | zero => omega
  | succ m =>
    obtain ⟨a0, a1, a2, a3, a4, a5⟩ := jy_stP0 (n := n) (m := m) (l1 := l1) hk hc hQ
    rw [a1, if_pos hw]
    refine jE.fr (a2.w (by decide)) ?_
    have b101 : ∀ (l4 : Int) (u : jl_Mm), (l4 = 0 ↔ jq_wn T e p ≠ 30) → jy_Q T e (jq_sk T e (jq_we T e p)) kind o base p W cs u → jE (jl_bd (jf_X12_qPartTold_B101 (jf_X12_qPartTold_L2 m) 1 l4 u) fun _ s11 => jy_KA n l1 s11) 0 jy_FQ u Post := by
      intro l4 u hl4 uQ
      generalize jq_sk T e (jq_we T e p) = q at *
      have hqs := uQ.1.pe
      obtain ⟨b0, b1, b2, b3, b4, b5⟩ := jx12_look uQ.1
      have bQ := uQ.L b3 b2 (by decide)
      rw [jf_X12_qPartTold_B101, b1, jp_bd]
      refine jE.fr (b2.w (by decide)) ?_
      by_cases q40 : jq_pk T e q = 40
      · obtain ⟨hlt, hT⟩ := jq_pk_lt q40 (by decide)
        have s2 := jy_sk1 (T := T) hlt
        rw [if_pos q40, jf_X12_qPartTold_B118, b4, if_neg (by omega)]
        have b139 : ∀ x : Int, x = (if jq_wn T e p = 30 then 21 else 22) → jE (jl_bd (jf_X12_qPartTold_B139 (jf_X12_qPartTold_L2 m) 1 (q : Int) x b0) fun _ s11 => jy_KA n l1 s11) 0 jy_FQ b0 Post := by
          intro x hx
          have op := jx12_opens bQ (v := x) (a := q) (by rw [hx]; split <;> exact ⟨by decide, by decide⟩) (by omega) (by omega)
          rw [jf_X12_qPartTold_B139]
          by_cases ho : o < 6
          · obtain ⟨c0, c1, c2, c3, c4, c5⟩ := op.1 ho
            obtain ⟨d0, d1, d2, d3, -⟩ := jx12_asksSign (c := 40) (by decide) (by decide) c3.1
            rw [c1, jp_bd, jf_X12_qPartTold_B144, d1, jp_bd, jf_X12_qPartTold_B183]
            refine jE.fr (c2.tr (d2.w (by decide))) ?_
            have hC := h q40 ho
            rw [← hx] at hC
            exact hC n m d0 (by omega) (by omega) ((c3.L (d3 q40) d2 (by decide)).w (by omega) (by omega))
          · obtain ⟨c0, c1, c2, c3⟩ := op.2 ho
            have hb : ¬ jl_g c0 206 5 = 0 := by rw [c3.2.1]; decide
            rw [c1, jp_bd, jf_X12_qPartTold_B144, jf_X12_asksSign, if_neg hb, jf_X12_asksSign_B24, jp_bd, jf_X12_qPartTold_B183]
            exact jE.fr (c2.w (by decide)) (jy_partX (c3.m c2 rfl bQ.2) (by omega) (by omega) (hX4 q40 ho))
        by_cases hl : l4 = 0
        · rw [if_pos hl]
          exact b139 22 (by rw [if_neg (hl4.mp hl)])
        · rw [if_neg hl]
          exact b139 21 (by rw [if_pos (Classical.byContradiction (fun z => hl (hl4.mpr z)))])
      · rw [if_neg q40, jf_X12_qPartTold_B118, if_pos rfl]
        obtain ⟨d0, d1, d2, -, d3⟩ := jx12_asksSign (c := 40) (by decide) (by decide) bQ.1
        rw [jf_X12_qPartTold_B144, d1, jp_bd, jf_X12_qPartTold_B183]
        exact jE.fr (d2.w (by decide)) (jy_partX ((d3 q40).m d2 rfl bQ.2) (by omega) (by omega) (hX1 q40))
    obtain ⟨c0, c1, c2, c3, c4⟩ := jx12_takes (c := 268) (Or.inr (by omega)) a3.1
    have e1 : (jy_wn 268 : Int) = 30 := rfl
    rw [e1] at c1 c3
    rw [jf_X12_qPartTold_B78, c1, jp_bd]
    by_cases w30 : jq_wn T e p = 30
    · rw [if_pos w30] at c3
      rw [if_pos w30, if_neg (by decide)]
      refine jE.fr (c2.w (by decide)) ?_
      exact b101 1 c0 ⟨fun z => absurd z (by decide), fun z => absurd w30 z⟩ (a3.L c3 c2 (by decide))
    · rw [if_neg w30] at c3
      obtain ⟨d0, d1, d2, d3, -⟩ := jx12_asks (c := 269) (Or.inr (by omega)) c3
      rw [if_neg w30, if_pos rfl, d1, jp_bd]
      refine jE.fr ((c2.w (by decide)).tr (d2.w (by decide))) ?_
      exact b101 0 d0 ⟨fun _ => w30, fun _ => rfl⟩ ((a3.L c3 c2 (by decide)).L (d3 (by rcases hw with z | z; exact absurd z w30; rw [z]; rfl)) d2 (by decide))
/-- what comes behind a part's code -/
theorem jy_stPc {T : Nat → Int} {e kind o p p' : Nat} {base : Nat} {W cs : List Int} {l1 v : Int} {Post : jl_Mm → Prop} (h : jy_CE T e kind o base p' W (cs ++ [v]) l1 Post) (hp : p < p') (hpe : p' ≤ e) {n : Nat} {s : jl_Mm} (hn : e - p < n) (hv : jl_n3 v) (hQ : jy_Q T e p' kind o base p W cs s) : jE (jl_bd (jf_X12_qPartTold_B237 v s) fun _ s11 => jy_KA n l1 s11) 0 jy_FQ s Post := by
  have he := hQ.1.1
  have h8 := hQ.2.2.2.2.2.2.2.2.1
  obtain ⟨a0, a1, a2, a3⟩ := jx12_code hQ hv (by omega)
  rw [jf_X12_qPartTold_B237, a1, jp_bd]
  refine jE.fr (a2.w (by decide)) ?_
  have z := h n jl_fu jl_fu (jy_KA n l1) a0 (by omega) (by show _ < 4000; omega) (by show _ < 4000; omega) (fun u hu => by rw [jy_KA, if_pos hu]) (a3.w (by omega) (by omega))
  refine jE.eq ?_ z
  rw [jf_X12_qEndsPart]
  cases jf_X12_qEndsPart_L0 jl_fu a0 with
  | none => rfl
  | some q => rfl
/-- (P4) a word that is a part -/
theorem jy_stP4 {T : Nat → Int} {e kind o p : Nat} {base : Nat} {W cs : List Int} {l1 : Int} {Post : jl_Mm → Prop} (hk : kind < 4) (hw : 0 ≤ jy_k (jq_wn T e p) ∧ jy_k (jq_wn T e p) < 10) (hal : jq_al kind (jq_wn T e p) = true) (h : jy_CE T e kind o base (jq_sk T e (jq_we T e p)) W (cs ++ [jq_cd (jq_wn T e p)]) l1 Post) : jy_CP T e kind o base p W cs l1 Post := by
  intro n m s hn hm hQ
  have he := hQ.1.1
  have hpe := hQ.1.pe
  have hcas := jy_k_cases (jq_wn T e p)
  have hw2 : jq_wn T e p ≠ 24 ∧ jq_wn T e p ≠ 25 := by
    constructor
    · intro z; rw [z] at hw; exact absurd hw.2 (by decide)
    · intro z; rw [z] at hw; exact absurd hw.2 (by decide)
  have hbg : jq_bg T e p := jq_wn_bg (by omega)
  have hc : jq_pk T e p ≠ 40 := by
    rw [jq_pk_in hbg.1]
    have := hbg.2.1
    omega
  have s1 : p + 1 ≤ jq_sk T e (jq_we T e p) ∧ jq_sk T e (jq_we T e p) ≤ e := by
    have h5 := jq_we_ge (T := T) (e := e) (a := p + 1)
    rw [← jq_we_step hbg.1 hbg.2.1] at h5
    exact ⟨Nat.le_trans h5 jq_sk_ge, jq_sk_ub (jq_we_ub hpe.1)⟩
  cases m with
  | zero => omega
  | succ m =>
    cases m with
    | zero => omega
    | succ m =>
      obtain ⟨a0, a1, a2, a3, a4, a5⟩ := jy_stP0 (n := n) (m := m + 1) (l1 := l1) hk hc hQ
      have ek : jl_add 40 (jy_k (jq_wn T e p)) = jq_cd (jq_wn T e p) ∧ jl_n3 (jq_cd (jq_wn T e p)) := by
        rcases hcas with q | q | q | q | q | q | q | q | q | q | q | q | q
        · omega
        all_goals first | exact absurd q hw2.1 | exact absurd q hw2.2 | (rw [q]; exact ⟨by decide, by decide, by decide⟩)
      rw [a1, if_neg (by omega), if_pos (by rw [jy_wo, if_neg (by omega)]), jf_X12_qPartTold_L2, if_pos rfl, jf_X12_qPartTold_B186, if_pos a3.1.2.2.2.1]
      obtain ⟨b0, b1, b2, b3, b4, b5⟩ := jx12_wordOf (lo := 0) (hi := 10) a3.1 a3.2.1 hk (by decide) (by decide)
      have bQ := a3.L b3 b2 (by decide)
      have ew : jy_wo kind (jq_wn T e p) 0 10 = jy_k (jq_wn T e p) := by rw [jy_wo, if_pos ⟨hw.1, hw.2, hal⟩]
      rw [ew] at b1
      obtain ⟨c0, c1, c2, c3⟩ := jx12_asksWord b3 (by omega)
      rw [b1, jp_bd, if_neg (by omega), c1, jp_bd, jf_X12_qPartTold_B212, if_neg (by omega), ek.1]
      refine jE.fr ((a2.w (by decide)).tr ((b2.w (by decide)).tr (c2.w (by decide)))) ?_
      exact jy_stPc h (by omega) s1.2 hn ek.2 (bQ.L c3 c2 (by decide))
/-- (P5) a number, or none of all these -/
theorem jy_stP5 {T : Nat → Int} {e kind o p : Nat} {base : Nat} {W cs : List Int} {l1 : Int} {Post : jl_Mm → Prop} (hk : kind < 4) (hc : jq_pk T e p ≠ 40) (hw : jq_wn T e p ≠ 30 ∧ jq_wn T e p ≠ 31 ∧ (jy_k (jq_wn T e p) = -1 ∨ jq_al kind (jq_wn T e p) = false)) (hX : (jq_nm T e 0 9999 p).1 ≠ 0 → ∀ τ, jy_M (jq_nm T e 0 9999 p).1 (jq_nm T e 0 9999 p).2.1 τ → Post τ) (h : (jq_nm T e 0 9999 p).1 = 0 → jy_CE T e kind o base (jq_sk T e (jq_nm T e 0 9999 p).2.1) W (cs ++ [1000 + (jq_nm T e 0 9999 p).2.2]) l1 Post) : jy_CP T e kind o base p W cs l1 Post := by
  intro n m s hn hm hQ
  have he := hQ.1.1
  have hpe := hQ.1.pe
  cases m with
  | zero => omega
  | succ m =>
    cases m with
    | zero => omega
    | succ m =>
      obtain ⟨a0, a1, a2, a3, a4, a5⟩ := jy_stP0 (n := n) (m := m + 1) (l1 := l1) hk hc hQ
      have w1 : ∀ a b, 0 ≤ a → jy_wo kind (jq_wn T e p) a b = -1 := by
        intro a b ha
        rw [jy_wo, if_neg]
        intro z
        rcases hw.2.2 with q | q
        · omega
        · rw [q] at z; exact absurd z.2.2 (by decide)
      rw [a1, if_neg (by omega), if_pos (w1 10 12 (by decide)), jf_X12_qPartTold_L2, if_pos rfl, jf_X12_qPartTold_B186, if_pos a3.1.2.2.2.1]
      obtain ⟨b0, b1, b2, b3, b4, b5⟩ := jx12_wordOf (lo := 0) (hi := 10) a3.1 a3.2.1 hk (by decide) (by decide)
      have bQ := a3.L b3 b2 (by decide)
      rw [w1 0 10 (by decide)] at b1
      rw [b1, jp_bd, if_pos rfl, jf_X12_qPartTold_B212, if_pos rfl]
      refine jE.fr ((a2.w (by decide)).tr (b2.w (by decide))) ?_
      have nm := jx12_number (lo := 0) (hi := 9999) ⟨by decide, by decide⟩ ⟨by decide, by decide⟩ b3
      have nmo := jq_nm_ok (T := T) (lo := 0) (hi := 9999) hpe.1
      by_cases k0 : (jq_nm T e 0 9999 p).1 = 0
      · obtain ⟨c0, c1, c2, c3⟩ := nm.1 k0
        obtain ⟨n1, n2, n3⟩ := nmo.2 k0
        rw [c1, jp_bd, jp_add (by omega) (by omega)]
        refine jE.fr (c2.w (by decide)) ?_
        exact jy_stPc (h k0) (Nat.lt_of_lt_of_le n1 jq_sk_ge) (jq_sk_ub nmo.1) hn ⟨by omega, by omega⟩ (bQ.L c3 c2 (by decide))
      · obtain ⟨r, c0, c1, c2, c3⟩ := nm.2 k0
        have hb : ¬ jl_g c0 206 5 = 0 := by rw [c3.2.1]; omega
        have cV := bQ.2.L c2 (by decide)
        have h6 := cV.2.2.2.2.2.1
        have h8 := cV.2.2.2.2.2.2.2.1
        rw [c1, jp_bd, jf_X12_qPartTold_B237, jf_X12_qCode, h6, if_pos (by omega), Int.toNat_natCast, jp_lm, jp_lm, jp_bd, jf_X12_qEndsPart, show jl_fu = 3999 + 1 from rfl, jf_X12_qEndsPart_L0]
        have f : jp_fr jy_FQ c0 (jl_up (jl_up c0 282 cs.length (jl_add 1000 r)) 206 100 (jl_add (jl_g (jl_up c0 282 cs.length (jl_add 1000 r)) 206 100) 1)) := (jp_fr.rf.up (by simp [jy_FQ, jp_in])).up (by simp [jy_FQ, jp_in])
        have hr : jl_g (jl_up (jl_up c0 282 cs.length (jl_add 1000 r)) 206 100 (jl_add (jl_g (jl_up c0 282 cs.length (jl_add 1000 r)) 206 100) 1)) 206 100 = (cs.length : Int) + 1 := by
          simp (disch := omega) only [if_pos, if_neg, jp_bd, jp_lm, jp_let, jp_zb0, jp_zb1, jp_add, jp_sub, jp_g_eq, jp_g_eqg, jp_g_ne, jp_g_nei, jp_r_ne, jp_r_nei, Int.toNat_natCast, h6]
        have dK : jy_M (jq_nm T e 0 9999 p).1 (jq_nm T e 0 9999 p).2.1 (jl_up (jl_up c0 282 cs.length (jl_add 1000 r)) 206 100 (jl_add (jl_g (jl_up c0 282 cs.length (jl_add 1000 r)) 206 100) 1)) := by
          refine ⟨⟨k0, ?_, ?_⟩, by rw [hr]; omega, by rw [hr]; omega⟩
          · simp (disch := omega) only [if_pos, if_neg, jp_bd, jp_lm, jp_let, jp_zb0, jp_zb1, jp_add, jp_sub, jp_g_eq, jp_g_eqg, jp_g_ne, jp_g_nei, jp_r_ne, jp_r_nei, Int.toNat_natCast, c3.2.1]
          · simp (disch := omega) only [if_pos, if_neg, jp_bd, jp_lm, jp_let, jp_zb0, jp_zb1, jp_add, jp_sub, jp_g_eq, jp_g_eqg, jp_g_ne, jp_g_nei, jp_r_ne, jp_r_nei, Int.toNat_natCast, c3.2.2]
        generalize jl_up (jl_up c0 282 cs.length (jl_add 1000 r)) 206 100 (jl_add (jl_g (jl_up c0 282 cs.length (jl_add 1000 r)) 206 100) 1) = d0 at *
        have hb2 : ¬ jl_g d0 206 5 = 0 := by rw [dK.1.2.1]; omega
        rw [if_neg hb2, jf_X12_qEndsPart_B51, jp_bd, jp_bd, jy_KA, if_neg hb2]
        exact jE.fr ((c2.w (by decide)).tr f) (jy_exit dK (by omega) (hX k0))
