/-! PURE, the reference's tests, step by step -/
def jy_KT (n m2 : Nat) (s : jl_Mm) : jl_O := jl_bd (jf_X12_qGoesOnTest_L0 m2 s) fun r18 s19 => if r18 = 0 then jf_X12_qTest_L2 n 0 s19 else jf_X12_qTest_L2 n 1 s19
def jy_CN (T : Nat → Int) (e kind o base p : Nat) (W cs : List Int) (Post : jl_Mm → Prop) : Prop := ∀ (n m m2 : Nat) (κ : jl_Mm → jl_O) (s : jl_Mm), e - p < n → W.length < m → e - p + 1 < m2 → (∀ u, jl_g u 206 5 = 0 → κ u = jy_KT n m2 u) → jy_Q T e p kind o base p W cs s → jE (jl_bd (jf_X12_qDropsNots_L0 m s) fun _ u => κ u) 0 jy_FQ s Post
def jy_CH (T : Nat → Int) (e kind o base p : Nat) (W cs : List Int) (Post : jl_Mm → Prop) : Prop := ∀ (n m2 : Nat) (s : jl_Mm), e - p < n → e - p + 1 < m2 → jy_Q T e p kind o base p W cs s → jE (jy_KT n m2 s) 0 jy_FQ s Post
def jy_CT (T : Nat → Int) (e kind o base p : Nat) (W cs : List Int) (Post : jl_Mm → Prop) : Prop := ∀ (n : Nat) (s : jl_Mm), e - p + 1 < n → jy_Q T e p kind o base p W cs s → jE (jf_X12_qTest_L2 n 1 s) 0 jy_FQ s Post
theorem jy_exitT {n k p : Nat} {s : jl_Mm} {Post : jl_Mm → Prop} (h : jy_K k p s) (hn : 0 < n) (hX : ∀ τ, jy_K k p τ → Post τ) : jE (jf_X12_qTest_L2 n 0 s) 0 jy_FQ s Post := by
  cases n with
  | zero => cases hn
  | succ n =>
    have hb : ¬ jl_g s 206 5 = 0 := by rw [h.2.1]; have := h.1; omega
    rw [jf_X12_qTest_L2, if_pos rfl, show jl_fu = 3999 + 1 from rfl, jf_X12_qTest_L110, if_neg hb, jf_X12_qTest_B131]
    exact jE.ret (hX _ h)
theorem jy_exitT1 {n k p : Nat} {s : jl_Mm} {Post : jl_Mm → Prop} (h : jy_K k p s) (hn : 0 < n) (hX : ∀ τ, jy_K k p τ → Post τ) : jE (jf_X12_qTest_L2 n 1 s) 0 jy_FQ s Post := by
  cases n with
  | zero => cases hn
  | succ n =>
    have hb : ¬ jl_g s 206 5 = 0 := by rw [h.2.1]; have := h.1; omega
    rw [jf_X12_qTest_L2, if_neg (by decide), if_neg hb, show jl_fu = 3999 + 1 from rfl, jf_X12_qTest_L110, if_neg hb, jf_X12_qTest_B131]
    exact jE.ret (hX _ h)
def jy_tk (r : jq_S) (Post : jl_Mm → Prop) (C : Nat → List Int → Prop) : Prop := (r.1 ≠ 0 → ∀ τ, jy_K r.1 r.2.1 τ → Post τ) ∧ (r.1 = 0 → C r.2.1 r.2.2)
/-- (tA) no not waits -/
theorem jy_ttA {T : Nat → Int} {e kind o base p : Nat} {W cs : List Int} {Post : jl_Mm → Prop} (hW : W.getLast? ≠ some 12) (h : jy_CH T e kind o base p W cs Post) : jy_CN T e kind o base p W cs Post := by
  intro n m m2 κ s hn hm hm2 hκ hQ
  cases m with
  | zero => omega
  | succ m =>
    have hbad := hQ.1.2.2.2.1
    rw [jf_X12_qDropsNots_L0, if_pos hbad, jx12_isOnN hQ.2 hW, jp_bd, if_pos rfl, jf_X12_qDropsNots_B33, jp_bd, hκ s hbad]
    exact h n m2 s hn hm2 hQ
/-- (tB) a not -/
theorem jy_ttB {T : Nat → Int} {e kind o base p : Nat} {W cs : List Int} {Post : jl_Mm → Prop} (ho : o < 6) (h : jy_CN T e kind o base p W (cs ++ [12]) Post) : jy_CN T e kind (o + 1) base p (W ++ [12]) cs Post := by
  intro n m m2 κ s hn hm hm2 hκ hQ
  simp only [List.length_append, List.length_singleton] at hm
  cases m with
  | zero => omega
  | succ m =>
    have hbad := hQ.1.2.2.2.1
    have h2 := hQ.2.2.1
    rw [jf_X12_qDropsNots_L0, if_pos hbad, jx12_isOnY hQ.2 (jy_lsy rfl), jp_bd, if_neg (by decide), h2, jp_lm]
    have f : jp_fr [(206, 103, 104)] s (jl_up s 206 103 (jl_sub ((o + 1 : Nat) : Int) 1)) := jp_fr.rf.up rfl
    have e1 : jl_g (jl_up s 206 103 (jl_sub ((o + 1 : Nat) : Int) 1)) 206 103 = (o : Int) := by
      simp (disch := omega) only [if_pos, if_neg, jp_bd, jp_lm, jp_let, jp_zb0, jp_zb1, jp_add, jp_sub, jp_g_eq, jp_g_eqg, jp_g_ne, jp_g_nei, jp_r_ne, jp_r_nei, Int.toNat_natCast]
      omega
    generalize jl_up s 206 103 (jl_sub ((o + 1 : Nat) : Int) 1) = τ at *
    have hQ2 : jy_Q T e p kind o base p (W ++ [12]) cs τ := by
      obtain ⟨hL, a1, a2, a3, a4, a5, a6, a7, a8, a9, a10⟩ := hQ
      exact ⟨hL.V f (by decide), (f.g _ _ rfl).trans a1, e1, (f.g _ _ rfl).trans a3, (f.g _ _ rfl).trans a4, fun i hi => (f.g _ _ rfl).trans (a5 i hi), (f.g _ _ rfl).trans a6, fun i hi => (f.g _ _ rfl).trans (a7 i hi), a8, a9, by omega⟩
    obtain ⟨υ, u1, u2, u3⟩ := jx12_drops hQ2
    rw [u1, jp_bd]
    refine jE.fr ((f.w (by decide)).tr (u2.w (by decide))) ?_
    exact h n m m2 κ υ hn (by omega) hm2 hκ u3
theorem jx12_sqL {kind o base b : Nat} {W cs : List Int} {s : jl_Mm} (h : jy_V kind o base b W cs s) : ∀ (n i : Nat), W.length - i < n → i ≤ W.length → jf_X12_qHasSquare_L2 n (i : Int) s = some (if 25 ∈ W.drop i then 1 else 0, s) := by
  have h4 := h.2.2.2.1
  have h8 := h.2.2.2.2.2.2.2.1
  have h9 := h.2.2.2.2.2.2.2.2.1
  intro n
  induction n with
  | zero => intro i h; omega
  | succ n ih =>
    intro i hn hi
    rw [jf_X12_qHasSquare_L2, h4]
    by_cases q : i < W.length
    · have i1 : jl_add (i : Int) 1 = ((i + 1 : Nat) : Int) := by rw [jp_add (by omega) (by omega)]; omega
      rw [if_neg (by omega), if_pos (by omega), Int.toNat_natCast, h.2.2.2.2.1 i q, i1, ih (i + 1) (by omega) (by omega), List.drop_eq_getElem_cons q]
      by_cases z : W[i] = 25
      · rw [if_pos z, jp_zb1, if_pos (by rw [z]; exact List.mem_cons_self)]
      · rw [if_neg z]
        by_cases y : 25 ∈ W.drop (i + 1)
        · rw [if_pos y, if_pos (List.mem_cons_of_mem _ y)]
        · rw [if_neg y, if_neg]
          intro x
          rcases List.mem_cons.mp x with x | x
          · exact z x.symm
          · exact y x
    · rw [if_pos (by omega), jp_zb0, if_neg]
      rw [List.drop_eq_nil_of_le (by omega)]
      simp
theorem jx12_sq {kind o base b : Nat} {W cs : List Int} {s : jl_Mm} (h : jy_V kind o base b W cs s) : jf_X12_qHasSquare s = some (if 25 ∈ W then 1 else 0, s) := by
  have h8 := h.2.2.2.2.2.2.2.1
  have h9 := h.2.2.2.2.2.2.2.2.1
  have z := jx12_sqL h jl_fu 0 (by show _ < 4000; omega) (Nat.zero_le _)
  rw [List.drop_zero] at z
  exact z
theorem jy_dropA {T : Nat → Int} {e p kind o base b : Nat} {W : List Int} (hW : W.getLast? ≠ some 10) : ∀ (pd : List Int) (cs : List Int) (s : jl_Mm) (n : Nat), (∀ x ∈ pd, x = 10) → pd.length < n → b < 1690 → jy_Q T e p kind o base b (W ++ pd.reverse) cs s → jE (jf_X12_qGoesOnTest_L87 n s) 1 jy_FQ s (fun τ => jy_Q T e p kind o base (b + 1) (W ++ [10]) (cs ++ pd) τ) := by
  intro pd
  induction pd with
  | nil =>
    intro cs s n _ hn hb h
    cases n with
    | zero => cases hn
    | succ n =>
      simp only [List.reverse_nil, List.append_nil] at h ⊢
      have h4 := h.2.2.2.2.1
      have h8 := h.2.2.2.2.2.2.2.2.1
      have h9 := h.2.2.2.2.2.2.2.2.2
      rw [jf_X12_qGoesOnTest_L87, jx12_isOnN h.2 hW, jp_bd, if_pos rfl, h4, if_pos (by omega), Int.toNat_natCast]
      simp only [jp_zb1]
      refine jE.lm rfl (jE.lm rfl (jE.ret ?_))
      refine jy_push (F := [(283, 0, 0), (206, 102, 103)]) (v := 10) (w := 10) h ⟨by decide, by decide⟩ hb h9.2 ((jp_fr.rf.up rfl).up rfl) (by decide) ?_ ?_ ?_ ?_ ?_ ?_ ?_
      · simp (disch := omega) only [if_pos, if_neg, jp_bd, jp_lm, jp_let, jp_zb0, jp_zb1, jp_add, jp_sub, jp_g_eq, jp_g_eqg, jp_g_ne, jp_g_nei, jp_r_ne, jp_r_nei, Int.toNat_natCast]
      · intro i
        simp (disch := omega) only [if_pos, if_neg, jp_bd, jp_lm, jp_let, jp_zb0, jp_zb1, jp_add, jp_sub, jp_g_eq, jp_g_eqg, jp_g_ne, jp_g_nei, jp_r_ne, jp_r_nei, Int.toNat_natCast]
      · simp (disch := omega) only [if_pos, if_neg, jp_bd, jp_lm, jp_let, jp_zb0, jp_zb1, jp_add, jp_sub, jp_g_eq, jp_g_eqg, jp_g_ne, jp_g_nei, jp_r_ne, jp_r_nei, Int.toNat_natCast]
      · simp (disch := omega) only [if_pos, if_neg, jp_bd, jp_lm, jp_let, jp_zb0, jp_zb1, jp_add, jp_sub, jp_g_eq, jp_g_eqg, jp_g_ne, jp_g_nei, jp_r_ne, jp_r_nei, Int.toNat_natCast, h4]
        omega
      · simp (disch := omega) only [if_pos, if_neg, jp_bd, jp_lm, jp_let, jp_zb0, jp_zb1, jp_add, jp_sub, jp_g_eq, jp_g_eqg, jp_g_ne, jp_g_nei, jp_r_ne, jp_r_nei, Int.toNat_natCast]
      · intro i hi
        simp (disch := omega) only [if_pos, if_neg, jp_bd, jp_lm, jp_let, jp_zb0, jp_zb1, jp_add, jp_sub, jp_g_eq, jp_g_eqg, jp_g_ne, jp_g_nei, jp_r_ne, jp_r_nei, Int.toNat_natCast]
      · simp (disch := omega) only [if_pos, if_neg, jp_bd, jp_lm, jp_let, jp_zb0, jp_zb1, jp_add, jp_sub, jp_g_eq, jp_g_eqg, jp_g_ne, jp_g_nei, jp_r_ne, jp_r_nei, Int.toNat_natCast]
        exact h.2.2.1
  | cons x pd ih =>
    intro cs s n hpd hn hb h
    cases n with
    | zero => cases hn
    | succ n =>
      rw [List.reverse_cons, ← List.append_assoc] at h
      simp only [List.length_cons] at hn
      rw [jf_X12_qGoesOnTest_L87, jx12_isOnY h.2 (jy_lsy (hpd x List.mem_cons_self)), jp_bd, if_neg (by decide)]
      refine jE.bd (jx12_drops h) (by decide) (fun τ f z => ?_)
      refine jE.mono (ih (cs ++ [x]) τ n (fun y hy => hpd y (List.mem_cons_of_mem _ hy)) (by omega) hb z) (by decide) (fun υ _ q => ?_)
      simpa using q
theorem jy_dropO {T : Nat → Int} {e p kind o base b : Nat} {W : List Int} (hW : W.getLast? ≠ some 10 ∧ W.getLast? ≠ some 11) : ∀ (pd : List Int) (cs : List Int) (s : jl_Mm) (n : Nat), (∀ x ∈ pd, x = 10 ∨ x = 11) → pd.length < n → b < 1690 → jy_Q T e p kind o base b (W ++ pd.reverse) cs s → jE (jf_X12_qGoesOnTest_L137 n s) 1 jy_FQ s (fun τ => jy_Q T e p kind o base (b + 1) (W ++ [11]) (cs ++ pd) τ) := by
  intro pd
  induction pd with
  | nil =>
    intro cs s n _ hn hb h
    cases n with
    | zero => cases hn
    | succ n =>
      simp only [List.reverse_nil, List.append_nil] at h ⊢
      have h4 := h.2.2.2.2.1
      have h8 := h.2.2.2.2.2.2.2.2.1
      have h9 := h.2.2.2.2.2.2.2.2.2
      rw [jf_X12_qGoesOnTest_L137, jx12_isOnN h.2 hW.1, jp_bd, if_pos rfl, jx12_isOnN h.2 hW.2, jp_bd, if_pos rfl, h4, if_pos (by omega), Int.toNat_natCast]
      simp only [jp_zb1]
      refine jE.lm rfl (jE.lm rfl (jE.ret ?_))
      refine jy_push (F := [(283, 0, 0), (206, 102, 103)]) (v := 11) (w := 11) h ⟨by decide, by decide⟩ hb h9.2 ((jp_fr.rf.up rfl).up rfl) (by decide) ?_ ?_ ?_ ?_ ?_ ?_ ?_
      · simp (disch := omega) only [if_pos, if_neg, jp_bd, jp_lm, jp_let, jp_zb0, jp_zb1, jp_add, jp_sub, jp_g_eq, jp_g_eqg, jp_g_ne, jp_g_nei, jp_r_ne, jp_r_nei, Int.toNat_natCast]
      · intro i
        simp (disch := omega) only [if_pos, if_neg, jp_bd, jp_lm, jp_let, jp_zb0, jp_zb1, jp_add, jp_sub, jp_g_eq, jp_g_eqg, jp_g_ne, jp_g_nei, jp_r_ne, jp_r_nei, Int.toNat_natCast]
      · simp (disch := omega) only [if_pos, if_neg, jp_bd, jp_lm, jp_let, jp_zb0, jp_zb1, jp_add, jp_sub, jp_g_eq, jp_g_eqg, jp_g_ne, jp_g_nei, jp_r_ne, jp_r_nei, Int.toNat_natCast]
      · simp (disch := omega) only [if_pos, if_neg, jp_bd, jp_lm, jp_let, jp_zb0, jp_zb1, jp_add, jp_sub, jp_g_eq, jp_g_eqg, jp_g_ne, jp_g_nei, jp_r_ne, jp_r_nei, Int.toNat_natCast, h4]
        omega
      · simp (disch := omega) only [if_pos, if_neg, jp_bd, jp_lm, jp_let, jp_zb0, jp_zb1, jp_add, jp_sub, jp_g_eq, jp_g_eqg, jp_g_ne, jp_g_nei, jp_r_ne, jp_r_nei, Int.toNat_natCast]
      · intro i hi
        simp (disch := omega) only [if_pos, if_neg, jp_bd, jp_lm, jp_let, jp_zb0, jp_zb1, jp_add, jp_sub, jp_g_eq, jp_g_eqg, jp_g_ne, jp_g_nei, jp_r_ne, jp_r_nei, Int.toNat_natCast]
      · simp (disch := omega) only [if_pos, if_neg, jp_bd, jp_lm, jp_let, jp_zb0, jp_zb1, jp_add, jp_sub, jp_g_eq, jp_g_eqg, jp_g_ne, jp_g_nei, jp_r_ne, jp_r_nei, Int.toNat_natCast]
        exact h.2.2.1
  | cons x pd ih =>
    intro cs s n hpd hn hb h
    cases n with
    | zero => cases hn
    | succ n =>
      rw [List.reverse_cons, ← List.append_assoc] at h
      simp only [List.length_cons] at hn
      have next : jE (jf_X12_qGoesOnTest_B155 (jf_X12_qGoesOnTest_L137 n) s) 1 jy_FQ s (fun τ => jy_Q T e p kind o base (b + 1) (W ++ [11]) (cs ++ (x :: pd)) τ) := by
        rw [jf_X12_qGoesOnTest_B155]
        refine jE.bd (jx12_drops h) (by decide) (fun τ f z => ?_)
        refine jE.mono (ih (cs ++ [x]) τ n (fun y hy => hpd y (List.mem_cons_of_mem _ hy)) (by omega) hb z) (by decide) (fun υ _ q => ?_)
        simpa using q
      rw [jf_X12_qGoesOnTest_L137]
      by_cases q : x = 10
      · rw [jx12_isOnY h.2 (jy_lsy q), jp_bd, if_neg (by decide)]; exact next
      · rw [jx12_isOnN h.2 (jy_lst q), jp_bd, if_pos rfl, jx12_isOnY h.2 (jy_lsy (by rcases hpd x List.mem_cons_self with z | z; exact absurd z q; exact z)), jp_bd, if_neg (by decide)]
        exact next
theorem jy_wsk {T : Nat → Int} {e p : Nat} (h : jq_wn T e p ≠ -1) (hpe : p ≤ e) : p + 1 ≤ jq_sk T e (jq_we T e p) ∧ jq_sk T e (jq_we T e p) ≤ e ∧ jq_pk T e p ≠ 93 ∧ jq_pk T e p ≠ 91 := by
  have hbg := jq_wn_bg h
  have h5 := jq_we_ge (T := T) (e := e) (a := p + 1)
  rw [← jq_we_step hbg.1 hbg.2.1] at h5
  have h6 := hbg.2.1
  refine ⟨Nat.le_trans h5 jq_sk_ge, jq_sk_ub (jq_we_ub hpe), ?_, ?_⟩ <;> rw [jq_pk_in hbg.1] <;> omega
/-- (t0) no closing sign, or none that it closes -/
theorem jy_tt0 {T : Nat → Int} {e kind o base p b m2 : Nat} {W cs : List Int} {s : jl_Mm} (hQ : jy_Q T e p kind o base b W cs s) (hm : 0 < m2) (hc : jq_pk T e p ≠ 93 ∨ 25 ∉ W) : ∃ τ, jf_X12_qGoesOnTest_L0 m2 s = jf_X12_qGoesOnTest_B76 τ ∧ jp_fr [(206, 2, 3)] s τ ∧ jy_Q T e p kind o base b W cs τ ∧ jl_g τ 206 2 = (p : Int) := by
  cases m2 with
  | zero => cases hm
  | succ m2 =>
    obtain ⟨τ, t1, t2, t3, t4, t5⟩ := jx12_look hQ.1
    have hQ2 := hQ.L t3 t2 (by decide)
    refine ⟨τ, ?_, t2, hQ2, t4⟩
    rw [jf_X12_qGoesOnTest_L0, if_pos hQ.1.2.2.2.1, t1, jp_bd]
    by_cases q : jq_pk T e p = 93
    · rw [if_pos q]
      rcases hc with z | z
      · exact absurd q z
      · rw [jx12_sq hQ2.2, if_neg z, jp_bd, if_pos rfl]
    · rw [if_neg q]
theorem jy_goT {T : Nat → Int} {e kind o base p p' : Nat} {W cs : List Int} {Post : jl_Mm → Prop} {n : Nat} {s : jl_Mm} (h : jy_CT T e kind o base p' W cs Post) (hp : p < p') (hpe : p' ≤ e) (hn : e - p + 1 < n + 1) (hQ : jy_Q T e p' kind o base (p + 1) W cs s) : jE (jf_X12_qTest_L2 n 1 s) 0 jy_FQ s Post := by
  have he := hQ.1.1
  exact h n s (by omega) (hQ.w (by omega) (by omega))
theorem jy_tpl {T : Nat → Int} {e kind o base p : Nat} {V pd cs : List Int} {s : jl_Mm} (hQ : jy_Q T e p kind o base p (V ++ pd.reverse) cs s) : pd.length < jl_fu := by
  have := hQ.2.2.2.2.2.2.2.2.1
  have h2 := hQ.1.pe.1
  have h3 := hQ.1.1
  simp at this
  show _ < 4000
  omega
/-- (tC) and -/
theorem jy_ttC {T : Nat → Int} {e kind o base p : Nat} {V pd cs : List Int} {Post : jl_Mm → Prop} (hpd : ∀ x ∈ pd, x = 10) (hW : V.getLast? ≠ some 10) (hw : jq_wn T e p = 27) (h : jy_CT T e kind o base (jq_sk T e (jq_we T e p)) (V ++ [10]) (cs ++ pd) Post) : jy_CH T e kind o base p (V ++ pd.reverse) cs Post := by
  intro n m2 s hn hm hQ
  have he := hQ.1.1
  have hpe := hQ.1.pe
  have s1 := jy_wsk (T := T) (e := e) (p := p) (by omega) hpe.1
  obtain ⟨τ, t1, t2, t3, t4⟩ := jy_tt0 hQ (m2 := m2) (by omega) (Or.inl s1.2.2.1)
  obtain ⟨a0, a1, a2, a3, -⟩ := jx12_takes (c := 265) (Or.inr (by omega)) t3.1
  have e1 : (jy_wn 265 : Int) = 27 := rfl
  rw [e1, hw, if_pos rfl] at a1
  rw [e1, if_pos hw] at a3
  obtain ⟨b0, b1, b2, b3⟩ := jy_dropA (b := p) hW pd cs a0 jl_fu hpd (jy_tpl hQ) (by omega) (t3.L a3 a2 (by decide))
  rw [jy_KT, t1, jf_X12_qGoesOnTest_B76, a1, jp_bd, if_neg (by decide), b1, jp_bd, if_neg (by decide)]
  refine jE.fr ((t2.w (by decide)).tr ((a2.w (by decide)).tr b2)) ?_
  exact jy_goT h (by omega) s1.2.1 (by omega) b3
/-- (tD) or -/
theorem jy_ttD {T : Nat → Int} {e kind o base p : Nat} {V pd cs : List Int} {Post : jl_Mm → Prop} (hpd : ∀ x ∈ pd, x = 10 ∨ x = 11) (hW : V.getLast? ≠ some 10 ∧ V.getLast? ≠ some 11) (hw : jq_wn T e p = 26) (h : jy_CT T e kind o base (jq_sk T e (jq_we T e p)) (V ++ [11]) (cs ++ pd) Post) : jy_CH T e kind o base p (V ++ pd.reverse) cs Post := by
  intro n m2 s hn hm hQ
  have he := hQ.1.1
  have hpe := hQ.1.pe
  have s1 := jy_wsk (T := T) (e := e) (p := p) (by omega) hpe.1
  obtain ⟨τ, t1, t2, t3, t4⟩ := jy_tt0 hQ (m2 := m2) (by omega) (Or.inl s1.2.2.1)
  obtain ⟨a0, a1, a2, a3, -⟩ := jx12_takes (c := 265) (Or.inr (by omega)) t3.1
  have e1 : (jy_wn 265 : Int) = 27 := rfl
  rw [e1, hw, if_neg (by decide)] at a1
  rw [e1, if_neg (by omega)] at a3
  have aQ := t3.L a3 a2 (by decide)
  obtain ⟨c0, c1, c2, c3, -⟩ := jx12_takes (c := 266) (Or.inr (by omega)) a3
  have e2 : (jy_wn 266 : Int) = 26 := rfl
  rw [e2, hw, if_pos rfl] at c1
  rw [e2, if_pos hw] at c3
  obtain ⟨b0, b1, b2, b3⟩ := jy_dropO (b := p) hW pd cs c0 jl_fu hpd (jy_tpl hQ) (by omega) (aQ.L c3 c2 (by decide))
  rw [jy_KT, t1, jf_X12_qGoesOnTest_B76, a1, jp_bd, if_pos rfl, c1, jp_bd, if_neg (by decide), b1, jp_bd, if_neg (by decide)]
  refine jE.fr ((t2.w (by decide)).tr ((a2.w (by decide)).tr ((c2.w (by decide)).tr b2))) ?_
  exact jy_goT h (by omega) s1.2.1 (by omega) b3
/-- neither and nor or -/
theorem jy_ttN {T : Nat → Int} {e kind o base p b : Nat} {W cs : List Int} {s : jl_Mm} (hw : jq_wn T e p ≠ 27 ∧ jq_wn T e p ≠ 26) (hQ : jy_Q T e p kind o base b W cs s) : ∃ τ, jf_X12_qGoesOnTest_B76 s = (if 25 ∈ W then jl_bd (jf_X12_fail 1 (p : Int) τ) fun _ s13 => jf_X12_qGoesOnTest_B208 s13 else jf_X12_qGoesOnTest_B208 τ) ∧ jp_fr [(206, 2, 3), (206, 4, 5)] s τ ∧ jy_Q T e p kind o base b W cs τ := by
  obtain ⟨a0, a1, a2, a3, -⟩ := jx12_takes (c := 265) (Or.inr (by omega)) hQ.1
  have e1 : (jy_wn 265 : Int) = 27 := rfl
  rw [e1, if_neg hw.1] at a1
  rw [e1, if_neg hw.1] at a3
  have aQ := hQ.L a3 a2 (by decide)
  obtain ⟨c0, c1, c2, c3, c4⟩ := jx12_takes (c := 266) (Or.inr (by omega)) a3
  have e2 : (jy_wn 266 : Int) = 26 := rfl
  rw [e2, if_neg hw.2] at c1
  rw [e2, if_neg hw.2] at c3
  have cQ := aQ.L c3 c2 (by decide)
  refine ⟨c0, ?_, a2.tr c2, cQ⟩
  rw [jf_X12_qGoesOnTest_B76, a1, jp_bd, if_pos rfl, c1, jp_bd, if_pos rfl, if_pos c3.2.2.2.1, jx12_sq cQ.2, jp_bd]
  by_cases q : 25 ∈ W
  · rw [if_pos q, if_pos q, if_neg (by decide), c4 hw.2]
  · rw [if_neg q, if_neg q, if_pos rfl]
/-- (tG) a bracket is open, and nothing goes on -/
theorem jy_ttG {T : Nat → Int} {e kind o base p : Nat} {W cs : List Int} {Post : jl_Mm → Prop} (h25 : 25 ∈ W) (hc : jq_pk T e p ≠ 93) (hw : jq_wn T e p ≠ 27 ∧ jq_wn T e p ≠ 26) (hX : ∀ τ, jy_K 1 p τ → Post τ) : jy_CH T e kind o base p W cs Post := by
  intro n m2 s hn hm hQ
  have he := hQ.1.1
  have hpe := hQ.1.pe
  obtain ⟨τ, t1, t2, t3, t4⟩ := jy_tt0 hQ (m2 := m2) (by omega) (Or.inl hc)
  obtain ⟨a0, a1, a2, a3⟩ := jy_ttN hw t3
  obtain ⟨b0, b1, b2, b3⟩ := jx12_fail (k := 1) a3.1 (by decide) (by decide) (a := p) (by omega)
  rw [show ((1 : Nat) : Int) = 1 from rfl] at b1
  rw [jy_KT, t1, a1, if_pos h25, b1, jp_bd, jf_X12_qGoesOnTest_B208, jp_zb0, jp_bd, if_pos rfl]
  exact jE.fr ((t2.w (by decide)).tr ((a2.w (by decide)).tr (b2.w (by decide)))) (jy_exitT b3 (by omega) hX)
theorem jy_end110 {T : Nat → Int} {e p kind o base b : Nat} {Post : jl_Mm → Prop} : ∀ (pd cs : List Int) (s : jl_Mm) (n : Nat), pd.length < n → jy_Q T e p kind o base b pd.reverse cs s → (∀ τ, jy_Q T e p kind o base b [] (cs ++ pd) τ → Post τ) → jE (jf_X12_qTest_L110 n s) 0 jy_FQ s Post := by
  intro pd
  induction pd with
  | nil =>
    intro cs s n hn h hP
    cases n with
    | zero => cases hn
    | succ n =>
      simp only [List.reverse_nil, List.append_nil] at h hP
      have h4 := h.2.2.2.2.1
      rw [jf_X12_qTest_L110, if_pos h.1.2.2.2.1, h4, if_pos (by simp), jf_X12_qTest_B131]
      exact jE.ret (hP _ h)
  | cons x pd ih =>
    intro cs s n hn h hP
    cases n with
    | zero => cases hn
    | succ n =>
      rw [List.reverse_cons] at h
      have ht := h.2.top.1
      simp only [List.length_reverse, List.length_cons] at ht hn
      rw [jf_X12_qTest_L110, if_pos h.1.2.2.2.1, ht, if_neg (by omega)]
      refine jE.bd (jx12_drops h) (by decide) (fun τ f z => ?_)
      refine ih (cs ++ [x]) τ n (by omega) z (fun υ q => hP υ ?_)
      simpa using q
/-- (tH) the test has ended -/
theorem jy_ttH {T : Nat → Int} {e kind o base p : Nat} {pd cs : List Int} {Post : jl_Mm → Prop} (h25 : 25 ∉ pd) (hw : jq_wn T e p ≠ 27 ∧ jq_wn T e p ≠ 26) (hP : ∀ τ, jy_Q T e p kind o base p [] (cs ++ pd) τ → Post τ) : jy_CH T e kind o base p pd.reverse cs Post := by
  intro n m2 s hn hm hQ
  have he := hQ.1.1
  have h25' : 25 ∉ pd.reverse := by simpa using h25
  obtain ⟨τ, t1, t2, t3, t4⟩ := jy_tt0 hQ (m2 := m2) (by omega) (Or.inr h25')
  obtain ⟨a0, a1, a2, a3⟩ := jy_ttN hw t3
  rw [jy_KT, t1, a1, if_neg h25', jf_X12_qGoesOnTest_B208, jp_zb0, jp_bd, if_pos rfl]
  refine jE.fr ((t2.w (by decide)).tr (a2.w (by decide))) ?_
  cases n with
  | zero => omega
  | succ n =>
    rw [jf_X12_qTest_L2, if_pos rfl]
    exact jy_end110 pd cs a0 jl_fu (jy_tpl (V := []) (by simpa using hQ)) a3 hP
theorem jy_L33 {T : Nat → Int} {e p kind o base : Nat} {V : List Int} {R : jl_Mm → jl_O} {κ : Int → jl_Mm → jl_O} {Post : jl_Mm → Prop} (ho : o < 6) (hK : ∀ u cs', jy_Q T e p kind o base (p - 1) V cs' u → True) : ∀ (pd cs : List Int) (s : jl_Mm) (n b : Nat), (∀ x ∈ pd, x ≠ 25) → pd.length < n → jy_Q T e p kind (o + 1) base b (V ++ [25] ++ pd.reverse) cs s → (∀ u, jy_Q T e p kind o base b V (cs ++ pd) u → jE (jl_bd (jl_bd (jf_X12_qDropsNots u) fun _ s46 => R s46) κ) 0 jy_FQ u Post) → jE (jl_bd (jf_X12_qGoesOnTest_L33 R n s) κ) 0 jy_FQ s Post := by
  intro pd
  induction pd with
  | nil =>
    intro cs s n b _ hn h hP
    cases n with
    | zero => cases hn
    | succ n =>
      simp only [List.reverse_nil, List.append_nil] at h hP
      have ht := h.2.top.1
      have h2 := h.2.2.1
      have h8 := h.2.2.2.2.2.2.2.2.1
      have h9 := h.2.2.2.2.2.2.2.2.2.1
      simp only [List.length_append, List.length_singleton] at h8
      rw [jf_X12_qGoesOnTest_L33, jx12_isOnY h.2 (jy_lsy rfl), jp_bd, if_neg (by decide), ht, jp_lm]
      have f1 : jp_fr [(206, 102, 103), (206, 103, 104)] s (jl_up (jl_up s 206 102 (jl_sub ((V.length + 1 : Nat) : Int) 1)) 206 103 (jl_sub (jl_g (jl_up s 206 102 (jl_sub ((V.length + 1 : Nat) : Int) 1)) 206 103) 1)) := (jp_fr.rf.up rfl).up rfl
      have g1 : jl_g (jl_up (jl_up s 206 102 (jl_sub ((V.length + 1 : Nat) : Int) 1)) 206 103 (jl_sub (jl_g (jl_up s 206 102 (jl_sub ((V.length + 1 : Nat) : Int) 1)) 206 103) 1)) 206 102 = (V.length : Int) := by
        simp (disch := omega) only [if_pos, if_neg, jp_bd, jp_lm, jp_let, jp_zb0, jp_zb1, jp_add, jp_sub, jp_g_eq, jp_g_eqg, jp_g_ne, jp_g_nei, jp_r_ne, jp_r_nei, Int.toNat_natCast]
        omega
      have g2 : jl_g (jl_up (jl_up s 206 102 (jl_sub ((V.length + 1 : Nat) : Int) 1)) 206 103 (jl_sub (jl_g (jl_up s 206 102 (jl_sub ((V.length + 1 : Nat) : Int) 1)) 206 103) 1)) 206 103 = (o : Int) := by
        simp (disch := omega) only [if_pos, if_neg, jp_bd, jp_lm, jp_let, jp_zb0, jp_zb1, jp_add, jp_sub, jp_g_eq, jp_g_eqg, jp_g_ne, jp_g_nei, jp_r_ne, jp_r_nei, Int.toNat_natCast, h2]
        omega
      rw [jp_lm]
      generalize jl_up (jl_up s 206 102 (jl_sub ((V.length + 1 : Nat) : Int) 1)) 206 103 (jl_sub (jl_g (jl_up s 206 102 (jl_sub ((V.length + 1 : Nat) : Int) 1)) 206 103) 1) = ω at *
      have hQ3 : jy_Q T e p kind o base (b - 1) V cs ω := jy_set (W' := [25]) h f1 (by decide) g1 g2 (by omega) rfl
      exact jE.fr (f1.w (by decide)) (hP ω (hQ3.w (by omega) (by omega)))
  | cons x pd ih =>
    intro cs s n b hpd hn h hP
    cases n with
    | zero => cases hn
    | succ n =>
      rw [List.reverse_cons, ← List.append_assoc] at h
      simp only [List.length_cons] at hn
      rw [jf_X12_qGoesOnTest_L33, jx12_isOnN h.2 (jy_lst (hpd x List.mem_cons_self)), jp_bd, if_pos rfl]
      obtain ⟨a0, a1, a2, a3⟩ := jx12_drops h
      rw [a1, jp_bd]
      refine jE.fr (a2.w (by decide)) ?_
      exact ih (cs ++ [x]) a0 n b (fun y hy => hpd y (List.mem_cons_of_mem _ hy)) (by omega) a3 (by simpa using hP)
/-- (tE) a bracket is closed -/
theorem jy_ttE {T : Nat → Int} {e kind o base p : Nat} {V pd cs : List Int} {Post : jl_Mm → Prop} (hpd : ∀ y ∈ pd, y ≠ 25) (ho : o < 6) (hc : jq_pk T e p = 93) (h : jy_CN T e kind o base (jq_sk T e (p + 1)) V (cs ++ pd) Post) : jy_CH T e kind (o + 1) base p (V ++ [25] ++ pd.reverse) cs Post := by
  intro n m2 s hn hm hQ
  have he := hQ.1.1
  obtain ⟨hlt, hT⟩ := jq_pk_lt hc (by decide)
  have s1 := jy_sk1 (T := T) hlt
  cases m2 with
  | zero => omega
  | succ m2 =>
    obtain ⟨τ, t1, t2, t3, t4, t5⟩ := jx12_look hQ.1
    have hQ2 := hQ.L t3 t2 (by decide)
    have f0 : jp_fr [(206, 2, 3)] τ (jl_up τ 206 2 (jl_add (p : Int) 1)) := jp_fr.rf.up rfl
    have g0 : jl_g (jl_up τ 206 2 (jl_add (p : Int) 1)) 206 2 = ((p + 1 : Nat) : Int) := by
      simp (disch := omega) only [if_pos, if_neg, jp_bd, jp_lm, jp_let, jp_zb0, jp_zb1, jp_add, jp_sub, jp_g_eq, jp_g_eqg, jp_g_ne, jp_g_nei, jp_r_ne, jp_r_nei, Int.toNat_natCast]
      omega
    rw [jy_KT, jf_X12_qGoesOnTest_L0, if_pos hQ.1.2.2.2.1, t1, jp_bd, if_pos hc, jx12_sq hQ2.2, if_pos (by simp), jp_bd, if_neg (by decide), t4, jp_lm]
    generalize jl_up τ 206 2 (jl_add (p : Int) 1) = τ0 at *
    have hL0 : jy_L T e (jq_sk T e (p + 1)) τ0 := t3.mv f0 jy_in2 g0 (by omega) (by rw [f0.g _ _ rfl]; exact t5.step (by rw [hT]; decide))
    refine jE.fr ((t2.w (by decide)).tr (f0.w (by decide))) ?_
    refine jy_L33 (V := V) ho (fun _ _ _ => trivial) pd cs τ0 jl_fu p hpd (jy_tpl (V := V ++ [25]) hQ) (hQ2.L hL0 f0 (by decide)) (fun u hu => ?_)
    have hV := hu.2.2.2.2.2.2.2.2.1
    have z := h n jl_fu m2 (fun v => jy_KT n m2 v) u (by omega) (by show _ < 4000; omega) (by omega) (fun _ _ => rfl) (hu.w (by omega) (by omega))
    refine jE.eq ?_ z
    rw [jf_X12_qDropsNots]
    cases jf_X12_qDropsNots_L0 jl_fu u with
    | none => rfl
    | some q => rfl
/-- (tP1) a square bracket opens -/
theorem jy_ttP1 {T : Nat → Int} {e kind o p base : Nat} {W cs : List Int} {Post : jl_Mm → Prop} (hc : jq_pk T e p = 91) (hX : ¬ o < 6 → ∀ τ, jy_K 4 p τ → Post τ) (h : o < 6 → jy_CT T e kind (o + 1) base (jq_sk T e (p + 1)) (W ++ [25]) cs Post) : jy_CT T e kind o base p W cs Post := by
  intro n s hn hQ
  have he := hQ.1.1
  obtain ⟨hlt, hT⟩ := jq_pk_lt hc (by decide)
  have s1 := jy_sk1 (T := T) hlt
  cases n with
  | zero => omega
  | succ n =>
    obtain ⟨a0, a1, a2, a3, a4, a5⟩ := jx12_look hQ.1
    have aQ := hQ.L a3 a2 (by decide)
    rw [jf_X12_qTest_L2, if_neg (by decide), if_pos hQ.1.2.2.2.1, a1, jp_bd, if_pos hc, a4]
    refine jE.fr (a2.w (by decide)) ?_
    have op := jx12_opens aQ (v := 25) (a := p) ⟨by decide, by decide⟩ (by omega) (by omega)
    by_cases ho : o < 6
    · obtain ⟨c0, c1, c2, c3, c4, c5⟩ := op.1 ho
      rw [c1, jp_bd, c4, a4, jp_lm]
      have f0 : jp_fr [(206, 2, 3)] c0 (jl_up c0 206 2 (jl_add (p : Int) 1)) := jp_fr.rf.up rfl
      have g0 : jl_g (jl_up c0 206 2 (jl_add (p : Int) 1)) 206 2 = ((p + 1 : Nat) : Int) := by
        simp (disch := omega) only [if_pos, if_neg, jp_bd, jp_lm, jp_let, jp_zb0, jp_zb1, jp_add, jp_sub, jp_g_eq, jp_g_eqg, jp_g_ne, jp_g_nei, jp_r_ne, jp_r_nei, Int.toNat_natCast]
        omega
      generalize jl_up c0 206 2 (jl_add (p : Int) 1) = d0 at *
      have hL0 : jy_L T e (jq_sk T e (p + 1)) d0 := c3.1.mv f0 jy_in2 g0 (by omega) (by rw [f0.g _ _ rfl, c5]; exact a5.step (by rw [hT]; decide))
      refine jE.fr (c2.tr (f0.w (by decide))) ?_
      exact h ho n d0 (by omega) ((c3.L hL0 f0 (by decide)).w (by omega) (by omega))
    · obtain ⟨c0, c1, c2, c3⟩ := op.2 ho
      have c4 : jy_K 4 p (jl_up c0 206 2 (jl_add (jl_g c0 206 2) 1)) := by
        refine ⟨c3.1, ?_, ?_⟩
        · simp (disch := omega) only [if_pos, if_neg, jp_bd, jp_lm, jp_let, jp_zb0, jp_zb1, jp_add, jp_sub, jp_g_eq, jp_g_eqg, jp_g_ne, jp_g_nei, jp_r_ne, jp_r_nei, Int.toNat_natCast, c3.2.1]
        · simp (disch := omega) only [if_pos, if_neg, jp_bd, jp_lm, jp_let, jp_zb0, jp_zb1, jp_add, jp_sub, jp_g_eq, jp_g_eqg, jp_g_ne, jp_g_nei, jp_r_ne, jp_r_nei, Int.toNat_natCast, c3.2.2]
      rw [c1, jp_bd, jp_lm]
      refine jE.fr ((c2.w (by decide)).tr ((jp_fr.rf.up (c := 206) (i := 2) (v := jl_add (jl_g c0 206 2) 1) (by simp [jy_FQ, jp_in])))) ?_
      exact jy_exitT1 c4 (by omega) (hX ho)
/-- (tP2) not -/
theorem jy_ttP2 {T : Nat → Int} {e kind o p base : Nat} {W cs : List Int} {Post : jl_Mm → Prop} (hw : jq_wn T e p = 28) (hX : ¬ o < 6 → ∀ τ, jy_K 4 p τ → Post τ) (h : o < 6 → jy_CT T e kind (o + 1) base (jq_sk T e (jq_we T e p)) (W ++ [12]) cs Post) : jy_CT T e kind o base p W cs Post := by
  intro n s hn hQ
  have he := hQ.1.1
  have hpe := hQ.1.pe
  have s1 := jy_wsk (T := T) (e := e) (p := p) (by omega) hpe.1
  cases n with
  | zero => omega
  | succ n =>
    obtain ⟨a0, a1, a2, a3, a4, a5⟩ := jx12_look hQ.1
    have aQ := hQ.L a3 a2 (by decide)
    obtain ⟨b0, b1, b2, b3, b4, b5⟩ := jx12_isHere (c := 264) (Or.inr (by omega)) a3
    have bQ := aQ.L b3 b2 (by decide)
    have e1 : (jy_wn 264 : Int) = 28 := rfl
    rw [e1, if_pos hw] at b1
    rw [jf_X12_qTest_L2, if_neg (by decide), if_pos hQ.1.2.2.2.1, a1, jp_bd, if_neg s1.2.2.2, b1, jp_bd, if_neg (by decide), b4]
    refine jE.fr ((a2.w (by decide)).tr (b2.w (by decide))) ?_
    have op := jx12_opens bQ (v := 12) (a := p) ⟨by decide, by decide⟩ (by omega) (by omega)
    by_cases ho : o < 6
    · obtain ⟨c0, c1, c2, c3, c4, c5⟩ := op.1 ho
      obtain ⟨d0, d1, d2, d3, -⟩ := jx12_asks (c := 264) (Or.inr (by omega)) c3.1
      rw [c1, jp_bd, d1, jp_bd]
      refine jE.fr (c2.tr (d2.w (by decide))) ?_
      exact h ho n d0 (by omega) ((c3.L (d3 (by rw [hw]; rfl)) d2 (by decide)).w (by omega) (by omega))
    · obtain ⟨c0, c1, c2, c3⟩ := op.2 ho
      have hb : ¬ jl_g c0 206 5 = 0 := by rw [c3.2.1]; decide
      rw [c1, jp_bd, jf_X12_asks, if_pos (by rw [jy_kd (c := 264) (Or.inr (by omega))]), if_neg hb, jf_X12_asks_B24, jp_bd]
      exact jE.fr (c2.w (by decide)) (jy_exitT1 c3 (by omega) (hX ho))
/-- (tP0) a fact -/
theorem jy_ttP0 {T : Nat → Int} {e kind o p base : Nat} {W cs : List Int} (hc : jq_pk T e p ≠ 91) (hw : jq_wn T e p ≠ 28) {n : Nat} {s : jl_Mm} (hQ : jy_Q T e p kind o base p W cs s) : ∃ τ, jf_X12_qTest_L2 (n + 1) 1 s = (jl_bd (jf_X12_qFact τ) fun _ s14 => jl_bd (jf_X12_qDropsNots s14) fun _ s16 => if jl_g s16 206 5 = 0 then jy_KT n jl_fu s16 else jf_X12_qTest_L2 n 0 s16) ∧ jp_fr [(206, 2, 3)] s τ ∧ jy_Q T e p kind o base p W cs τ := by
  obtain ⟨a0, a1, a2, a3, a4, a5⟩ := jx12_look hQ.1
  have aQ := hQ.L a3 a2 (by decide)
  obtain ⟨b0, b1, b2, b3, b4, b5⟩ := jx12_isHere (c := 264) (Or.inr (by omega)) a3
  have bQ := aQ.L b3 b2 (by decide)
  have e1 : (jy_wn 264 : Int) = 28 := rfl
  rw [e1, if_neg hw] at b1
  refine ⟨b0, ?_, a2.tr b2, bQ⟩
  rw [jf_X12_qTest_L2, if_neg (by decide), if_pos hQ.1.2.2.2.1, a1, jp_bd, if_neg hc, b1, jp_bd, if_pos rfl]
  rfl
/-- behind a fact that has been told -/
theorem jy_ttF {T : Nat → Int} {e kind o p p' base : Nat} {W cs : List Int} {Post : jl_Mm → Prop} (h : jy_CN T e kind o base p' W cs Post) (hp : p < p') (hpe : p' ≤ e) {n : Nat} {s : jl_Mm} (hn : e - p < n) (hQ : jy_Q T e p' kind o base p' W cs s) : jE (jl_bd (jf_X12_qDropsNots s) fun _ s16 => if jl_g s16 206 5 = 0 then jy_KT n jl_fu s16 else jf_X12_qTest_L2 n 0 s16) 0 jy_FQ s Post := by
  have he := hQ.1.1
  have h8 := hQ.2.2.2.2.2.2.2.2.1
  exact h n jl_fu jl_fu (fun s16 => if jl_g s16 206 5 = 0 then jy_KT n jl_fu s16 else jf_X12_qTest_L2 n 0 s16) s (by omega) (by show _ < 4000; omega) (by show _ < 4000; omega) (fun u hu => if_pos hu) hQ
/-- behind a fact with a fault -/
theorem jy_ttX {k p : Nat} {Post : jl_Mm → Prop} {n : Nat} {s : jl_Mm} (h : jy_K k p s) (hn : 0 < n) (hX : ∀ τ, jy_K k p τ → Post τ) : jE (jl_bd (jf_X12_qDropsNots s) fun _ s16 => if jl_g s16 206 5 = 0 then jy_KT n jl_fu s16 else jf_X12_qTest_L2 n 0 s16) 0 jy_FQ s Post := by
  have hb : ¬ jl_g s 206 5 = 0 := by rw [h.2.1]; have := h.1; omega
  rw [jf_X12_qDropsNots, show jl_fu = 3999 + 1 from rfl, jf_X12_qDropsNots_L0, if_neg hb, jf_X12_qDropsNots_B33, jp_bd, if_neg hb]
  exact jy_exitT h hn hX
/-- (tP3) all -/
theorem jy_ttP3 {T : Nat → Int} {e kind o p base : Nat} {W cs : List Int} {Post : jl_Mm → Prop} (hw : jq_wn T e p = 29) (h : jy_CN T e kind o base (jq_sk T e (jq_we T e p)) W (cs ++ [13]) Post) : jy_CT T e kind o base p W cs Post := by
  intro n s hn hQ
  have he := hQ.1.1
  have hpe := hQ.1.pe
  have s1 := jy_wsk (T := T) (e := e) (p := p) (by omega) hpe.1
  cases n with
  | zero => omega
  | succ n =>
    obtain ⟨a0, a1, a2, a3⟩ := jy_ttP0 (n := n) s1.2.2.2 (by omega) hQ
    obtain ⟨b0, b1, b2, b3, -⟩ := jx12_takes (c := 267) (Or.inr (by omega)) a3.1
    have e1 : (jy_wn 267 : Int) = 29 := rfl
    rw [e1, if_pos hw] at b1
    rw [e1, if_pos hw] at b3
    obtain ⟨c0, c1, c2, c3⟩ := jx12_code (a3.L b3 b2 (by decide)) (v := 13) ⟨by decide, by decide⟩ (by omega)
    rw [a1, jf_X12_qFact, b1, jp_bd, if_neg (by decide), c1, jp_bd, jp_bd]
    refine jE.fr ((a2.w (by decide)).tr ((b2.w (by decide)).tr (c2.w (by decide)))) ?_
    exact jy_ttF h (p := p) (by omega) s1.2.1 (by omega) (c3.w (by omega) (by omega))
/-- (tP4) two sums, a sign between them -/
theorem jy_ttP4 {T : Nat → Int} {e kind o p base d : Nat} {W cs : List Int} {Post : jl_Mm → Prop} (hk : kind < 4) (hb : base ≤ 2000) (hnd : jq_nd 3 o ≤ d) (hW : W.getLast? ≠ some 3 ∧ W.getLast? ≠ some 4 ∧ W.getLast? ≠ some 1 ∧ W.getLast? ≠ some 2) (hc : jq_pk T e p ≠ 91) (hw : jq_wn T e p ≠ 28 ∧ jq_wn T e p ≠ 29) (h : jy_tk (jq_cmp T e (jq_g T e kind d 3 0 o) (jq_g T e kind d 3 0 o (0, p, cs))) Post (fun p' cs' => jy_CN T e kind o base p' W cs' Post)) : jy_CT T e kind o base p W cs Post := by
  intro n s hn hQ
  have he := hQ.1.1
  have hpe := hQ.1.pe
  have h6 := hQ.2.2.2.2.2.2.2.2.2.2
  cases n with
  | zero => omega
  | succ n =>
    obtain ⟨a0, a1, a2, a3⟩ := jy_ttP0 (n := n) hc hw.1 hQ
    obtain ⟨b0, b1, b2, b3, b4⟩ := jx12_takes (c := 267) (Or.inr (by omega)) a3.1
    have e1 : (jy_wn 267 : Int) = 29 := rfl
    rw [e1, if_neg hw.2] at b1
    rw [e1, if_neg hw.2] at b3
    have bQ := a3.L b3 b2 (by decide)
    obtain ⟨c0, c1, c2, c3, c4⟩ := jx12_qSums (d := d) hk hnd hW hb bQ
    have hM := jq_ML_all (T := T) (e := e) (kind := kind) d 3 0 o (0, p, cs) hnd (by omega) h6 ⟨hpe.1, fun _ => hpe.2⟩ (fun z => by omega) (fun z => by omega)
    rw [a1, jf_X12_qFact, b1, jp_bd, if_pos rfl, c1, jp_bd]
    refine jE.fr ((a2.w (by decide)).tr ((b2.w (by decide)).tr c2)) ?_
    generalize jq_g T e kind d 3 0 o (0, p, cs) = r at *
    obtain ⟨k, p', cs'⟩ := r
    by_cases k0 : k = 0
    · subst k0
      have cQ := c4 rfl
      simp only at cQ
      obtain ⟨-, -, -, l1, -⟩ := hM.2.2 rfl rfl
      simp only at l1
      have hp'e : p' ≤ e := hM.1.1
      have hat : jq_at e ((0, p', cs') : jq_S) = p' := rfl
      have hpc : jq_pc T e ((0, p', cs') : jq_S) = jq_pk T e p' := rfl
      rw [jq_cmp, hpc, hat, jq_mv0 rfl] at h
      obtain ⟨d0, d1, d2, d3, d4, d5⟩ := jx12_look cQ.1
      have dQ := cQ.L d3 d2 (by decide)
      rw [if_pos cQ.1.2.2.2.1, d1, jp_bd]
      refine jE.fr (d2.w (by decide)) ?_
      by_cases qc : jq_pk T e p' = 60 ∨ jq_pk T e p' = 62 ∨ jq_pk T e p' = 61
      · rw [if_pos qc] at h
        obtain ⟨hlt, hT⟩ := jq_pk_lt (T := T) (c := jq_pk T e p') rfl (by omega)
        have s2 := jy_sk1 (T := T) hlt
        have f0 : jp_fr [(206, 2, 3)] d0 (jl_up d0 206 2 (jl_add (p' : Int) 1)) := jp_fr.rf.up rfl
        have g0 : jl_g (jl_up d0 206 2 (jl_add (p' : Int) 1)) 206 2 = ((p' + 1 : Nat) : Int) := by
          simp (disch := omega) only [if_pos, if_neg, jp_bd, jp_lm, jp_let, jp_zb0, jp_zb1, jp_add, jp_sub, jp_g_eq, jp_g_eqg, jp_g_ne, jp_g_nei, jp_r_ne, jp_r_nei, Int.toNat_natCast]
          omega
        have main : jE (jl_bd (jf_X12_qFact_B63 (jq_pk T e p') d0) fun _ s14 => jl_bd (jf_X12_qDropsNots s14) fun _ s16 => if jl_g s16 206 5 = 0 then jy_KT n jl_fu s16 else jf_X12_qTest_L2 n 0 s16) 0 jy_FQ d0 Post := by
          rw [jf_X12_qFact_B63, d4, jp_lm]
          generalize jl_up d0 206 2 (jl_add (p' : Int) 1) = x0 at *
          have hL0 : jy_L T e (jq_sk T e (p' + 1)) x0 := d3.mv f0 jy_in2 g0 (by omega) (by rw [f0.g _ _ rfl]; exact d5.step (by rw [hT]; rcases qc with z | z | z <;> rw [z] <;> decide))
          have xQ := (dQ.L hL0 f0 (by decide)).w (b' := jq_sk T e (p' + 1)) (by omega) (by omega)
          obtain ⟨y0, y1, y2, y3, y4⟩ := jx12_qSums (d := d) hk hnd hW hb xQ
          have hM2 := jq_ML_all (T := T) (e := e) (kind := kind) d 3 0 o (0, jq_sk T e (p' + 1), cs') hnd (by omega) h6 ⟨s2.2, fun _ => jq_sk_idem⟩ (fun z => by omega) (fun z => by omega)
          rw [y1, jp_bd]
          refine jE.fr ((f0.w (by decide)).tr y2) ?_
          simp only at h
          generalize jq_g T e kind d 3 0 o (0, jq_sk T e (p' + 1), cs') = r2 at *
          obtain ⟨k2, p2, cs2⟩ := r2
          have code : ∀ v : Int, v = jq_cs (jq_pk T e p') → jE (jl_bd (jf_X12_qFact_B102 v y0) fun _ s14 => jl_bd (jf_X12_qDropsNots s14) fun _ s16 => if jl_g s16 206 5 = 0 then jy_KT n jl_fu s16 else jf_X12_qTest_L2 n 0 s16) 0 jy_FQ y0 Post := by
            intro v hv
            have hvn : jl_n3 v := by
              rw [hv]
              rcases qc with z | z | z <;> rw [z] <;> exact ⟨by decide, by decide⟩
            rw [jf_X12_qFact_B102]
            by_cases k20 : k2 = 0
            · subst k20
              have yQ := y4 rfl
              simp only at yQ
              obtain ⟨cc, cc1, cc2, l3, -⟩ := hM2.2.2 rfl rfl
              simp only at cc1 cc2 l3
              have hV2 := yQ.2.2.2.2.2.2.2.2.1
              have hV0 := cQ.2.2.2.2.2.2.2.2.1
              obtain ⟨z0, z1, z2, z3⟩ := jx12_code yQ hvn (by have := hM2.1.1; simp only at this; omega)
              have z4 : jy_Q T e p2 kind o base p2 W (cs2 ++ [v]) z0 := by
                obtain ⟨hL, b1, b2, b3, b4, b5, b6, b7, b8, b9⟩ := z3
                have hx8 := xQ.2.2.2.2.2.2.2.2.1
                refine ⟨hL, b1, b2, b3, b4, b5, b6, b7, ?_, by have := hM2.1.1; simp only at this; omega, b9.2⟩
                simp only [List.length_append, List.length_singleton, cc1]
                omega
              rw [z1, jp_bd, jp_bd]
              refine jE.fr (z2.w (by decide)) ?_
              have hC := h.2 rfl
              simp only [jq_em] at hC
              rw [← hv] at hC
              exact jy_ttF hC (p := p) (by omega) hM2.1.1 (by omega) z4
            · have yM := y3 k20
              simp only at yM
              have yK := yM.1
              have hb2 : ¬ jl_g y0 206 5 = 0 := by rw [yK.2.1]; omega
              have hfr : ∀ u u', jy_K k2 p2 u → u' 206 5 = u 206 5 → u' 206 6 = u 206 6 → jy_K k2 p2 u' := by
                intro u u' hu a b
                exact ⟨hu.1, by rw [jl_g, a]; exact hu.2.1, by rw [jl_g, b]; exact hu.2.2⟩
              by_cases hg : 0 ≤ jl_g y0 206 100 ∧ jl_g y0 206 100 < ((1700 : Nat) : Int)
              · rw [jf_X12_qCode, if_pos hg, jp_lm, jp_lm, jp_bd, jp_bd]
                have zK : jy_K k2 p2 (jl_up (jl_up y0 282 (jl_g y0 206 100).toNat v) 206 100 (jl_add (jl_g (jl_up y0 282 (jl_g y0 206 100).toNat v) 206 100) 1)) := by
                  refine hfr y0 _ yK ?_ ?_
                  · simp (disch := omega) only [if_pos, if_neg, jp_bd, jp_lm, jp_let, jp_zb0, jp_zb1, jp_add, jp_sub, jp_g_eq, jp_g_eqg, jp_g_ne, jp_g_nei, jp_r_ne, jp_r_nei, Int.toNat_natCast]
                  · simp (disch := omega) only [if_pos, if_neg, jp_bd, jp_lm, jp_let, jp_zb0, jp_zb1, jp_add, jp_sub, jp_g_eq, jp_g_eqg, jp_g_ne, jp_g_nei, jp_r_ne, jp_r_nei, Int.toNat_natCast]
                refine jE.fr ((jp_fr.rf.up (by simp [jy_FQ, jp_in])).up (by simp [jy_FQ, jp_in])) (jy_ttX zK (by omega) (h.1 k20))
              · exact absurd ⟨yM.2.1, by have := yM.2.2; omega⟩ hg
          rcases qc with z | z | z
          · rw [z, if_pos rfl]; exact code 7 (by rw [z]; rfl)
          · rw [z, if_neg (by decide), if_pos rfl]; exact code 8 (by rw [z]; rfl)
          · rw [z, if_neg (by decide), if_neg (by decide)]; exact code 9 (by rw [z]; rfl)
        by_cases c60 : jq_pk T e p' = 60
        · rw [if_pos c60]; exact main
        · rw [if_neg c60]
          by_cases c62 : jq_pk T e p' = 62
          · rw [if_pos c62]; exact main
          · rw [if_neg c62, if_pos (by omega)]; exact main
      · rw [if_neg qc, jq_fl0 rfl] at h
        obtain ⟨x0, x1, x2, x3⟩ := jx12_fail (k := 1) dQ.1 (by decide) (by decide) (a := p') (by omega)
        rw [show ((1 : Nat) : Int) = 1 from rfl] at x1
        rw [if_neg (by omega), if_neg (by omega), if_neg (by omega), d4, x1, jp_bd, jp_bd]
        exact jE.fr (x2.w (by decide)) (jy_ttX x3 (by omega) (h.1 (by simp)))
    · have cM := c3 k0
      simp only at cM
      have cK := cM.1
      have hb2 : ¬ jl_g c0 206 5 = 0 := by rw [cK.2.1]; omega
      rw [if_neg hb2, jp_bd]
      have hcm : jq_cmp T e (jq_g T e kind d 3 0 o) (k, p', cs') = (k, p', cs') := by
        have hk1 : ((k, p', cs') : jq_S).1 ≠ 0 := k0
        rw [jq_cmp, if_neg, jq_flk hk1]
        rw [jq_pc, jq_atk hk1, jq_pk_end (Nat.le_refl _)]
        decide
      rw [hcm] at h
      exact jy_ttX cK (by omega) (h.1 k0)
