/-! PURE, the reference's sums, step by step: what is left to do at each place, and what it comes to -/
def jy_KG (n m2 : Nat) (l1 : Int) (s : jl_Mm) : jl_O := jl_bd (jf_X12_qGoesOn_L0 m2 s) fun r13 s14 => if r13 = 0 then jf_X12_qSums_L15 n l1 0 s14 else jf_X12_qSums_L15 n l1 1 s14
def jy_KA (n : Nat) (l1 : Int) (s : jl_Mm) : jl_O := if jl_g s 206 5 = 0 then jy_KG n jl_fu l1 s else jf_X12_qSums_L15 n l1 0 s
def jy_KP (n m : Nat) (l1 : Int) (s : jl_Mm) : jl_O := jl_bd (jf_X12_qPartTold_L2 m 1 s) fun _ s11 => jy_KA n l1 s11
theorem jy_L15 (n : Nat) (l1 : Int) (s : jl_Mm) (h : jl_g s 206 5 = 0) : jf_X12_qSums_L15 (n + 1) l1 1 s = jy_KP n jl_fu l1 s := by
  rw [jf_X12_qSums_L15, if_neg (by decide), if_pos h]
  rfl
def jy_CE (T : Nat → Int) (e kind o base p : Nat) (W cs : List Int) (l1 : Int) (Post : jl_Mm → Prop) : Prop := ∀ (n m m2 : Nat) (κ : jl_Mm → jl_O) (s : jl_Mm), e - p < n → W.length < m → e - p + 1 < m2 → (∀ u, jl_g u 206 5 = 0 → κ u = jy_KG n m2 l1 u) → jy_Q T e p kind o base p W cs s → jE (jl_bd (jf_X12_qEndsPart_L0 m s) fun _ u => κ u) 0 jy_FQ s Post
def jy_CG (T : Nat → Int) (e kind o base p : Nat) (W cs : List Int) (l1 : Int) (Post : jl_Mm → Prop) : Prop := ∀ (n m2 : Nat) (s : jl_Mm), e - p < n → e - p + 1 < m2 → jy_Q T e p kind o base p W cs s → jE (jy_KG n m2 l1 s) 0 jy_FQ s Post
def jy_CP (T : Nat → Int) (e kind o base p : Nat) (W cs : List Int) (l1 : Int) (Post : jl_Mm → Prop) : Prop := ∀ (n m : Nat) (s : jl_Mm), e - p < n → e - p + 1 < m → jy_Q T e p kind o base p W cs s → jE (jy_KP n m l1 s) 0 jy_FQ s Post
theorem jy_exit {n k p : Nat} {l1 : Int} {s : jl_Mm} {Post : jl_Mm → Prop} (h : jy_M k p s) (hn : 0 < n) (hX : ∀ τ, jy_M k p τ → Post τ) : jE (jf_X12_qSums_L15 n l1 0 s) 0 jy_FQ s Post := by
  cases n with
  | zero => cases hn
  | succ n =>
    have hb : ¬ jl_g s 206 5 = 0 := by rw [h.1.2.1]; have := h.1.1; omega
    rw [jf_X12_qSums_L15, if_pos rfl, show jl_fu = 3999 + 1 from rfl, jf_X12_qSums_L53, if_neg hb, jf_X12_qSums_B78]
    have hr : jl_g (jl_up s 206 104 l1) 206 100 = jl_g s 206 100 := by
      simp (disch := omega) only [if_pos, if_neg, jp_bd, jp_lm, jp_let, jp_zb0, jp_zb1, jp_add, jp_sub, jp_g_eq, jp_g_eqg, jp_g_ne, jp_g_nei, jp_r_ne, jp_r_nei, Int.toNat_natCast]
    refine jE.lm (by simp [jy_FQ, jp_in]) (jE.ret (hX _ ⟨⟨h.1.1, ?_, ?_⟩, by rw [hr]; exact h.2⟩))
    · simp (disch := omega) only [if_pos, if_neg, jp_bd, jp_lm, jp_let, jp_zb0, jp_zb1, jp_add, jp_sub, jp_g_eq, jp_g_eqg, jp_g_ne, jp_g_nei, jp_r_ne, jp_r_nei, Int.toNat_natCast, h.1.2.1]
    · simp (disch := omega) only [if_pos, if_neg, jp_bd, jp_lm, jp_let, jp_zb0, jp_zb1, jp_add, jp_sub, jp_g_eq, jp_g_eqg, jp_g_ne, jp_g_nei, jp_r_ne, jp_r_nei, Int.toNat_natCast, h.1.2.2]
theorem jy_FLQ {F : jp_F} (h : (F.all fun q => jy_FL.contains q) = true) : (F.all fun q => jy_FQ.contains q) = true := by
  rw [List.all_eq_true] at h ⊢
  intro q hq
  have := h q hq
  simp [jy_FL, jy_FQ] at this ⊢
  rcases this with h | h | h | h <;> simp [h]
/-- (A) nothing waits for a part -/
theorem jy_stA {T : Nat → Int} {e kind o base p : Nat} {W cs : List Int} {l1 : Int} {Post : jl_Mm → Prop} (hW : W.length ≤ base ∨ ∃ W' x, W = W' ++ [x] ∧ x < 60) (h : jy_CG T e kind o base p W cs l1 Post) : jy_CE T e kind o base p W cs l1 Post := by
  intro n m m2 κ s hn hm hm2 hκ hQ
  cases m with
  | zero => omega
  | succ m =>
    have hbad := hQ.1.2.2.2.1
    have h3 := hQ.2.2.2.1
    have h4 := hQ.2.2.2.2.1
    have h8 := hQ.2.2.2.2.2.2.2.2.1
    have h9 := hQ.2.2.2.2.2.2.2.2.2.1
    have z : jf_X12_qEndsPart_L0 (m + 1) s = some (0, s) := by
      rw [jf_X12_qEndsPart_L0, if_pos hbad, h3, h4, jf_X12_qEndsPart_B51]
      by_cases hb : W.length ≤ base
      · rw [if_pos (by omega)]
      · rcases hW with q | ⟨W', x, rfl, hx⟩
        · exact absurd q hb
        · have ht := hQ.2.top.2
          simp only [List.length_append, List.length_singleton] at hb h8 ht ⊢
          rw [if_neg (by omega), jp_sub (by omega) (by omega), if_pos (by omega), show (((W'.length + 1 : Nat) : Int) - 1).toNat = W'.length by omega, ht, if_pos hx]
    rw [z, jp_bd, hκ s hbad]
    exact h n m2 s hn hm2 hQ
/-- (B) a part has ended for one that waits -/
theorem jy_stB {T : Nat → Int} {e kind o base p : Nat} {W cs : List Int} {x l1 : Int} {Post : jl_Mm → Prop} (hx : 60 ≤ x) (hb : base ≤ W.length) (ho : o < 6) (h : jy_CE T e kind o base p W (cs ++ [x]) l1 Post) : jy_CE T e kind (o + 1) base p (W ++ [x]) cs l1 Post := by
  intro n m m2 κ s hn hm hm2 hκ hQ
  simp only [List.length_append, List.length_singleton] at hm
  cases m with
  | zero => omega
  | succ m =>
    have hbad := hQ.1.2.2.2.1
    have h2 := hQ.2.2.1
    have h3 := hQ.2.2.2.1
    have h8 := hQ.2.2.2.2.2.2.2.2.1
    have h9 := hQ.2.2.2.2.2.2.2.2.2.1
    obtain ⟨t1, t2⟩ := hQ.2.top
    simp only [List.length_append, List.length_singleton] at h8
    rw [jf_X12_qEndsPart_L0, if_pos hbad, h3, t1, if_neg (by omega), jp_sub (by omega) (by omega), if_pos (by omega), show (((W.length + 1 : Nat) : Int) - 1).toNat = W.length by omega, t2, if_neg (by omega), h2, jp_lm]
    have f : jp_fr [(206, 103, 104)] s (jl_up s 206 103 (jl_sub ((o + 1 : Nat) : Int) 1)) := jp_fr.rf.up rfl
    have e1 : jl_g (jl_up s 206 103 (jl_sub ((o + 1 : Nat) : Int) 1)) 206 103 = (o : Int) := by
      simp (disch := omega) only [if_pos, if_neg, jp_bd, jp_lm, jp_let, jp_zb0, jp_zb1, jp_add, jp_sub, jp_g_eq, jp_g_eqg, jp_g_ne, jp_g_nei, jp_r_ne, jp_r_nei, Int.toNat_natCast]
      omega
    generalize jl_up s 206 103 (jl_sub ((o + 1 : Nat) : Int) 1) = τ at *
    have hQ2 : jy_Q T e p kind o base p (W ++ [x]) cs τ := by
      obtain ⟨hL, a1, a2, a3, a4, a5, a6, a7, a8, a9, a10⟩ := hQ
      exact ⟨hL.V f (by decide), (f.g _ _ rfl).trans a1, e1, (f.g _ _ rfl).trans a3, (f.g _ _ rfl).trans a4, fun i hi => (f.g _ _ rfl).trans (a5 i hi), (f.g _ _ rfl).trans a6, fun i hi => (f.g _ _ rfl).trans (a7 i hi), a8, a9, by omega⟩
    obtain ⟨υ, u1, u2, u3⟩ := jx12_drops hQ2
    rw [u1, jp_bd]
    refine jE.fr ((f.w (by decide)).tr (u2.w (by decide))) ?_
    exact h n m m2 κ υ hn (by omega) hm2 hκ u3
theorem jx12_isOnY {kind o base b : Nat} {W cs : List Int} {v : Int} {s : jl_Mm} (h : jy_V kind o base b W cs s) (hl : W.getLast? = some v) : jf_X12_qIsOn v s = some (1, s) := by
  rw [jx12_isOn h, if_pos hl]
theorem jx12_isOnN {kind o base b : Nat} {W cs : List Int} {v : Int} {s : jl_Mm} (h : jy_V kind o base b W cs s) (hl : W.getLast? ≠ some v) : jf_X12_qIsOn v s = some (0, s) := by
  rw [jx12_isOn h, if_neg hl]
theorem jy_lst {W : List Int} {x v : Int} (h : x ≠ v) : (W ++ [x]).getLast? ≠ some v := by simpa using h
theorem jy_lsy {W : List Int} {x v : Int} (h : x = v) : (W ++ [x]).getLast? = some v := by simpa using h
/-- what is dropped when an operator comes -/
theorem jy_drop3 {T : Nat → Int} {e p kind o base b : Nat} {W : List Int} {v : Int} (hv : jl_n3 v) (hW : W.getLast? ≠ some 3 ∧ W.getLast? ≠ some 4) : ∀ (pd : List Int) (cs : List Int) (s : jl_Mm) (n : Nat), (∀ x ∈ pd, x = 3 ∨ x = 4) → pd.length < n → b < 1690 → jy_Q T e p kind o base b (W ++ pd.reverse) cs s → jE (jf_X12_qGoesOn_L162 n v s) 1 jy_FQ s (fun τ => jy_Q T e p kind o base (b + 1) (W ++ [v]) (cs ++ pd) τ) := by
  intro pd
  induction pd with
  | nil =>
    intro cs s n _ hn hb h
    cases n with
    | zero => cases hn
    | succ n =>
      simp only [List.reverse_nil, List.append_nil] at h ⊢
      have h4 := h.2.2.2.2.1
      have h8 := h.2.2.2.2.2.2.2.2.1
      have h9 := h.2.2.2.2.2.2.2.2.2
      rw [jf_X12_qGoesOn_L162, jx12_isOnN h.2 hW.1, jp_bd, if_pos rfl, jx12_isOnN h.2 hW.2, jp_bd, if_pos rfl, h4, if_pos (by omega), Int.toNat_natCast]
      simp only [jp_zb1]
      refine jE.lm rfl (jE.lm rfl (jE.ret ?_))
      refine jy_push (F := [(283, 0, 0), (206, 102, 103)]) (w := v) h hv hb h9.2 ((jp_fr.rf.up rfl).up rfl) (by decide) ?_ ?_ ?_ ?_ ?_ ?_ ?_
      · simp (disch := omega) only [if_pos, if_neg, jp_bd, jp_lm, jp_let, jp_zb0, jp_zb1, jp_add, jp_sub, jp_g_eq, jp_g_eqg, jp_g_ne, jp_g_nei, jp_r_ne, jp_r_nei, Int.toNat_natCast]
      · intro i
        simp (disch := omega) only [if_pos, if_neg, jp_bd, jp_lm, jp_let, jp_zb0, jp_zb1, jp_add, jp_sub, jp_g_eq, jp_g_eqg, jp_g_ne, jp_g_nei, jp_r_ne, jp_r_nei, Int.toNat_natCast]
      · simp (disch := omega) only [if_pos, if_neg, jp_bd, jp_lm, jp_let, jp_zb0, jp_zb1, jp_add, jp_sub, jp_g_eq, jp_g_eqg, jp_g_ne, jp_g_nei, jp_r_ne, jp_r_nei, Int.toNat_natCast]
      · simp (disch := omega) only [if_pos, if_neg, jp_bd, jp_lm, jp_let, jp_zb0, jp_zb1, jp_add, jp_sub, jp_g_eq, jp_g_eqg, jp_g_ne, jp_g_nei, jp_r_ne, jp_r_nei, Int.toNat_natCast, h4]
        omega
      · obtain ⟨v1, v2⟩ := hv
        simp (disch := omega) only [if_pos, if_neg, jp_bd, jp_lm, jp_let, jp_zb0, jp_zb1, jp_add, jp_sub, jp_g_eq, jp_g_eqg, jp_g_ne, jp_g_nei, jp_r_ne, jp_r_nei, Int.toNat_natCast]
      · intro i hi
        simp (disch := omega) only [if_pos, if_neg, jp_bd, jp_lm, jp_let, jp_zb0, jp_zb1, jp_add, jp_sub, jp_g_eq, jp_g_eqg, jp_g_ne, jp_g_nei, jp_r_ne, jp_r_nei, Int.toNat_natCast]
      · simp (disch := omega) only [if_pos, if_neg, jp_bd, jp_lm, jp_let, jp_zb0, jp_zb1, jp_add, jp_sub, jp_g_eq, jp_g_eqg, jp_g_ne, jp_g_nei, jp_r_ne, jp_r_nei, Int.toNat_natCast]
        exact h.2.2.1
  | cons x pd ih =>
    intro cs s n hpd hn hb h
    cases n with
    | zero => cases hn
    | succ n =>
      rw [List.reverse_cons, ← List.append_assoc] at h
      simp only [List.length_cons] at hn
      have hl : ((W ++ pd.reverse) ++ [x]).getLast? = some x := by simp
      have next : jE (jf_X12_qGoesOn_B178 (jf_X12_qGoesOn_L162 n) v s) 1 jy_FQ s (fun τ => jy_Q T e p kind o base (b + 1) (W ++ [v]) (cs ++ (x :: pd)) τ) := by
        rw [jf_X12_qGoesOn_B178]
        refine jE.bd (jx12_drops h) (by decide) (fun τ f z => ?_)
        refine jE.mono (ih (cs ++ [x]) τ n (fun y hy => hpd y (List.mem_cons_of_mem _ hy)) (by omega) hb z) (by decide) (fun υ _ q => ?_)
        simpa using q
      rw [jf_X12_qGoesOn_L162]
      by_cases q : x = 3
      · rw [jx12_isOnY h.2 (jy_lsy q), jp_bd, if_neg (by decide)]; exact next
      · rw [jx12_isOnN h.2 (jy_lst q), jp_bd, if_pos rfl, jx12_isOnY h.2 (jy_lsy (by rcases hpd x List.mem_cons_self with z | z; exact absurd z q; exact z)), jp_bd, if_neg (by decide)]
        exact next
theorem jy_drop4 {T : Nat → Int} {e p kind o base b : Nat} {W : List Int} {v : Int} (hv : jl_n3 v) (hW : W.getLast? ≠ some 3 ∧ W.getLast? ≠ some 4 ∧ W.getLast? ≠ some 1 ∧ W.getLast? ≠ some 2) : ∀ (pd : List Int) (cs : List Int) (s : jl_Mm) (n : Nat), (∀ x ∈ pd, x = 3 ∨ x = 4 ∨ x = 1 ∨ x = 2) → pd.length < n → b < 1690 → jy_Q T e p kind o base b (W ++ pd.reverse) cs s → jE (jf_X12_qGoesOn_L247 n v s) 1 jy_FQ s (fun τ => jy_Q T e p kind o base (b + 1) (W ++ [v]) (cs ++ pd) τ) := by
  intro pd
  induction pd with
  | nil =>
    intro cs s n _ hn hb h
    cases n with
    | zero => cases hn
    | succ n =>
      simp only [List.reverse_nil, List.append_nil] at h ⊢
      have h4 := h.2.2.2.2.1
      have h8 := h.2.2.2.2.2.2.2.2.1
      have h9 := h.2.2.2.2.2.2.2.2.2
      rw [jf_X12_qGoesOn_L247, jx12_isOnN h.2 hW.1, jp_bd, if_pos rfl, jx12_isOnN h.2 hW.2.1, jp_bd, if_pos rfl, jx12_isOnN h.2 hW.2.2.1, jp_bd, if_pos rfl, jx12_isOnN h.2 hW.2.2.2, jp_bd, if_pos rfl, h4, if_pos (by omega), Int.toNat_natCast]
      simp only [jp_zb1]
      refine jE.lm rfl (jE.lm rfl (jE.ret ?_))
      refine jy_push (F := [(283, 0, 0), (206, 102, 103)]) (w := v) h hv hb h9.2 ((jp_fr.rf.up rfl).up rfl) (by decide) ?_ ?_ ?_ ?_ ?_ ?_ ?_
      · simp (disch := omega) only [if_pos, if_neg, jp_bd, jp_lm, jp_let, jp_zb0, jp_zb1, jp_add, jp_sub, jp_g_eq, jp_g_eqg, jp_g_ne, jp_g_nei, jp_r_ne, jp_r_nei, Int.toNat_natCast]
      · intro i
        simp (disch := omega) only [if_pos, if_neg, jp_bd, jp_lm, jp_let, jp_zb0, jp_zb1, jp_add, jp_sub, jp_g_eq, jp_g_eqg, jp_g_ne, jp_g_nei, jp_r_ne, jp_r_nei, Int.toNat_natCast]
      · simp (disch := omega) only [if_pos, if_neg, jp_bd, jp_lm, jp_let, jp_zb0, jp_zb1, jp_add, jp_sub, jp_g_eq, jp_g_eqg, jp_g_ne, jp_g_nei, jp_r_ne, jp_r_nei, Int.toNat_natCast]
      · simp (disch := omega) only [if_pos, if_neg, jp_bd, jp_lm, jp_let, jp_zb0, jp_zb1, jp_add, jp_sub, jp_g_eq, jp_g_eqg, jp_g_ne, jp_g_nei, jp_r_ne, jp_r_nei, Int.toNat_natCast, h4]
        omega
      · obtain ⟨v1, v2⟩ := hv
        simp (disch := omega) only [if_pos, if_neg, jp_bd, jp_lm, jp_let, jp_zb0, jp_zb1, jp_add, jp_sub, jp_g_eq, jp_g_eqg, jp_g_ne, jp_g_nei, jp_r_ne, jp_r_nei, Int.toNat_natCast]
      · intro i hi
        simp (disch := omega) only [if_pos, if_neg, jp_bd, jp_lm, jp_let, jp_zb0, jp_zb1, jp_add, jp_sub, jp_g_eq, jp_g_eqg, jp_g_ne, jp_g_nei, jp_r_ne, jp_r_nei, Int.toNat_natCast]
      · simp (disch := omega) only [if_pos, if_neg, jp_bd, jp_lm, jp_let, jp_zb0, jp_zb1, jp_add, jp_sub, jp_g_eq, jp_g_eqg, jp_g_ne, jp_g_nei, jp_r_ne, jp_r_nei, Int.toNat_natCast]
        exact h.2.2.1
  | cons x pd ih =>
    intro cs s n hpd hn hb h
    cases n with
    | zero => cases hn
    | succ n =>
      rw [List.reverse_cons, ← List.append_assoc] at h
      simp only [List.length_cons] at hn
      have hl : ((W ++ pd.reverse) ++ [x]).getLast? = some x := by simp
      have next : jE (jf_X12_qGoesOn_B279 (jf_X12_qGoesOn_L247 n) v s) 1 jy_FQ s (fun τ => jy_Q T e p kind o base (b + 1) (W ++ [v]) (cs ++ (x :: pd)) τ) := by
        rw [jf_X12_qGoesOn_B279]
        refine jE.bd (jx12_drops h) (by decide) (fun τ f z => ?_)
        refine jE.mono (ih (cs ++ [x]) τ n (fun y hy => hpd y (List.mem_cons_of_mem _ hy)) (by omega) hb z) (by decide) (fun υ _ q => ?_)
        simpa using q
      have hx := hpd x List.mem_cons_self
      rw [jf_X12_qGoesOn_L247]
      by_cases q3 : x = 3
      · rw [jx12_isOnY h.2 (jy_lsy q3), jp_bd, if_neg (by decide)]; exact next
      · rw [jx12_isOnN h.2 (jy_lst q3), jp_bd, if_pos rfl]
        by_cases q4 : x = 4
        · rw [jx12_isOnY h.2 (jy_lsy q4), jp_bd, if_neg (by decide)]; exact next
        · rw [jx12_isOnN h.2 (jy_lst q4), jp_bd, if_pos rfl]
          by_cases q1 : x = 1
          · rw [jx12_isOnY h.2 (jy_lsy q1), jp_bd, if_neg (by decide)]; exact next
          · rw [jx12_isOnN h.2 (jy_lst q1), jp_bd, if_pos rfl, jx12_isOnY h.2 (jy_lsy (show x = 2 by omega)), jp_bd, if_neg (by decide)]
            exact next
theorem jy_Q.L {T : Nat → Int} {e p p' kind o base b : Nat} {W cs : List Int} {s τ : jl_Mm} {F : jp_F} (h : jy_Q T e p kind o base b W cs s) (hL : jy_L T e p' τ) (f : jp_fr F s τ) (w : (F.all fun q => jy_FL.contains q) = true) : jy_Q T e p' kind o base b W cs τ := ⟨hL, h.2.L f w⟩
theorem jy_Q.w {T : Nat → Int} {e p kind o base b b' : Nat} {W cs : List Int} {s : jl_Mm} (h : jy_Q T e p kind o base b W cs s) (w : b ≤ b') (w2 : b' ≤ 1690) : jy_Q T e p kind o base b' W cs s := ⟨h.1, h.2.w w w2⟩
/-- the sign at the place is one of these -/
theorem jq_pk_lt {T : Nat → Int} {e p : Nat} {c : Int} (h : jq_pk T e p = c) (hc : c ≠ -1) : p < e ∧ T p = c := by
  by_cases q : p < e
  · rw [jq_pk_in q] at h; exact ⟨q, h⟩
  · rw [jq_pk_end (by omega)] at h; exact absurd h.symm hc
/-- (0) a sign that is no closing one, or no bracket that it closes: qGoesOn goes to its second half -/
theorem jy_st0 {T : Nat → Int} {e kind o p b m2 : Nat} {B V cs : List Int} {s : jl_Mm} (hQ : jy_Q T e p kind o B.length b (B ++ V) cs s) (hm : 0 < m2) (hc : jq_pk T e p ≠ 41 ∨ (jy_br V.reverse ≠ 20 ∧ jy_br V.reverse ≠ 23 ∧ jy_br V.reverse ≠ 24)) : ∃ τ, jf_X12_qGoesOn_L0 m2 s = jf_X12_qGoesOn_B122 τ ∧ jp_fr [(206, 2, 3)] s τ ∧ jy_Q T e p kind o B.length b (B ++ V) cs τ ∧ jl_g τ 206 2 = (p : Int) := by
  cases m2 with
  | zero => cases hm
  | succ m2 =>
    obtain ⟨τ, t1, t2, t3, t4, t5⟩ := jx12_look hQ.1
    have hQ2 := hQ.L t3 t2 (by decide)
    refine ⟨τ, ?_, t2, hQ2, t4⟩
    rw [jf_X12_qGoesOn_L0, if_pos hQ.1.2.2.2.1, t1, jp_bd]
    by_cases q : jq_pk T e p = 41
    · rw [if_pos q]
      rcases hc with z | ⟨z1, z2, z3⟩
      · exact absurd q z
      · rw [jx12_bracket hQ2.2, jp_bd, if_neg z1, jx12_bracket hQ2.2, jp_bd, if_neg z2, jx12_bracket hQ2.2, jp_bd, if_neg z3]
    · rw [if_neg q]
theorem jy_stSign {T : Nat → Int} {e p kind o base b : Nat} {W cs : List Int} {c : Int} {s : jl_Mm} (hc : c = 42 ∨ c = 47 ∨ c = 43 ∨ c = 45 ∨ c = 44) (h : jy_Q T e p kind o base b W cs s) : ∃ τ, jf_X12_takesSign c s = some (if jq_pk T e p = c then 1 else 0, τ) ∧ jp_fr [(206, 2, 3)] s τ ∧ jy_Q T e (if jq_pk T e p = c then jq_sk T e (p + 1) else p) kind o base b W cs τ ∧ jl_g τ 206 2 = (if jq_pk T e p = c then ((p + 1 : Nat) : Int) else (p : Int)) := by
  obtain ⟨τ, t1, t2, t3, t4⟩ := jx12_takesSign (c := c) (by rcases hc with rfl | rfl | rfl | rfl | rfl <;> decide) (by rcases hc with rfl | rfl | rfl | rfl | rfl <;> decide) h.1
  exact ⟨τ, t1, t2, h.L t3 t2 (by decide), t4⟩
theorem jy_sk1 {T : Nat → Int} {e p : Nat} (h : p < e) : p + 1 ≤ jq_sk T e (p + 1) ∧ jq_sk T e (p + 1) ≤ e := ⟨jq_sk_ge, jq_sk_ub (by omega)⟩
/-- an operator is taken: what comes then -/
theorem jy_goP {T : Nat → Int} {e kind o base p p' : Nat} {W cs : List Int} {l1 : Int} {Post : jl_Mm → Prop} {n : Nat} {s : jl_Mm} (h : jy_CP T e kind o base p' W cs l1 Post) (hp : p < p') (hpe : p' ≤ e) (hn : e - p < n) (hQ : jy_Q T e p' kind o base (p + 1) W cs s) : jE (jf_X12_qSums_L15 n l1 1 s) 0 jy_FQ s Post := by
  have he := hQ.1.1
  cases n with
  | zero => omega
  | succ n =>
    rw [jy_L15 _ _ _ hQ.1.2.2.2.1]
    exact h n jl_fu s (by omega) (by show _ < 4000; omega) (hQ.w (by omega) (by omega))
/-- (C) times, by -/
theorem jy_stC {T : Nat → Int} {e kind o p : Nat} {B V pd cs : List Int} {l1 : Int} {Post : jl_Mm → Prop} (hpd : ∀ x ∈ pd, x = 3 ∨ x = 4) (hW : (B ++ V).getLast? ≠ some 3 ∧ (B ++ V).getLast? ≠ some 4) (hc : jq_pk T e p = 42 ∨ jq_pk T e p = 47) (h : jy_CP T e kind o B.length (jq_sk T e (p + 1)) (B ++ V ++ [jq_cs (jq_pk T e p)]) (cs ++ pd) l1 Post) : jy_CG T e kind o B.length p (B ++ V ++ pd.reverse) cs l1 Post := by
  intro n m2 s hn hm hQ
  have he := hQ.1.1
  have hQ' : jy_Q T e p kind o B.length p (B ++ (V ++ pd.reverse)) cs s := by simpa using hQ
  obtain ⟨τ, t1, t2, t3, t4⟩ := jy_st0 hQ' (m2 := m2) (by omega) (Or.inl (by rcases hc with q | q <;> rw [q] <;> decide))
  rw [jy_KG, t1, jf_X12_qGoesOn_B122]
  refine jE.fr (t2.w (by decide)) ?_
  have hpl : pd.length < 4000 := by
    have := hQ.2.2.2.2.2.2.2.2.1
    have hpe := hQ.1.pe.1
    simp at this
    omega
  rcases hc with q | q
  · obtain ⟨hlt, hT⟩ := jq_pk_lt q (by decide)
    have s1 := jy_sk1 (T := T) hlt
    obtain ⟨υ, u1, u2, u3, u4⟩ := jy_stSign (c := 42) (by decide) t3
    rw [if_pos q] at u1 u3 u4
    rw [u1, jp_bd, if_neg (by decide), jf_X12_qGoesOn_B140, u4, jp_sub (by omega) (by omega), if_pos (by omega), show (((p + 1 : Nat) : Int) - 1).toNat = p by omega, u3.1.2.2.1 p hlt, hT, if_pos rfl, jf_X12_qGoesOn_B161]
    refine jE.fr (u2.w (by decide)) ?_
    obtain ⟨ω, w1, w2, w3⟩ := jy_drop3 (b := p) (v := 3) ⟨by decide, by decide⟩ hW pd cs υ jl_fu hpd hpl (by omega) (by simpa using u3)
    rw [w1, jp_bd, if_neg (by decide)]
    refine jE.fr w2 (jy_goP h (by omega) (by omega) hn ?_)
    rw [q]
    exact w3
  · obtain ⟨hlt, hT⟩ := jq_pk_lt q (by decide)
    have s1 := jy_sk1 (T := T) hlt
    obtain ⟨υ0, v1, v2, v3, v4⟩ := jy_stSign (c := 42) (by decide) t3
    rw [if_neg (by rw [q]; decide)] at v1 v3 v4
    obtain ⟨υ, u1, u2, u3, u4⟩ := jy_stSign (c := 47) (by decide) v3
    rw [if_pos q] at u1 u3 u4
    rw [v1, jp_bd, if_pos rfl, u1, jp_bd, if_neg (by decide), jf_X12_qGoesOn_B140, u4, jp_sub (by omega) (by omega), if_pos (by omega), show (((p + 1 : Nat) : Int) - 1).toNat = p by omega, u3.1.2.2.1 p hlt, hT, if_neg (by decide), jf_X12_qGoesOn_B161]
    refine jE.fr ((v2.w (by decide)).tr (u2.w (by decide))) ?_
    obtain ⟨ω, w1, w2, w3⟩ := jy_drop3 (b := p) (v := 4) ⟨by decide, by decide⟩ hW pd cs υ jl_fu hpd hpl (by omega) (by simpa using u3)
    rw [w1, jp_bd, if_neg (by decide)]
    refine jE.fr w2 (jy_goP h (by omega) (by omega) hn ?_)
    rw [q]
    exact w3
/-- (D) plus, minus -/
theorem jy_stD {T : Nat → Int} {e kind o p : Nat} {B V pd cs : List Int} {l1 : Int} {Post : jl_Mm → Prop} (hpd : ∀ x ∈ pd, x = 3 ∨ x = 4 ∨ x = 1 ∨ x = 2) (hW : (B ++ V).getLast? ≠ some 3 ∧ (B ++ V).getLast? ≠ some 4 ∧ (B ++ V).getLast? ≠ some 1 ∧ (B ++ V).getLast? ≠ some 2) (hc : jq_pk T e p = 43 ∨ jq_pk T e p = 45) (h : jy_CP T e kind o B.length (jq_sk T e (p + 1)) (B ++ V ++ [jq_cs (jq_pk T e p)]) (cs ++ pd) l1 Post) : jy_CG T e kind o B.length p (B ++ V ++ pd.reverse) cs l1 Post := by
  intro n m2 s hn hm hQ
  have he := hQ.1.1
  have hQ' : jy_Q T e p kind o B.length p (B ++ (V ++ pd.reverse)) cs s := by simpa using hQ
  obtain ⟨τ, t1, t2, t3, t4⟩ := jy_st0 hQ' (m2 := m2) (by omega) (Or.inl (by rcases hc with q | q <;> rw [q] <;> decide))
  rw [jy_KG, t1, jf_X12_qGoesOn_B122]
  refine jE.fr (t2.w (by decide)) ?_
  have hpl : pd.length < 4000 := by
    have := hQ.2.2.2.2.2.2.2.2.1
    have hpe := hQ.1.pe.1
    simp at this
    omega
  have hne : jq_pk T e p ≠ 42 ∧ jq_pk T e p ≠ 47 := by omega
  obtain ⟨υ0, v1, v2, v3, v4⟩ := jy_stSign (c := 42) (by decide) t3
  rw [if_neg hne.1] at v1 v3 v4
  obtain ⟨υ1, x1, x2, x3, x4⟩ := jy_stSign (c := 47) (by decide) v3
  rw [if_neg hne.2] at x1 x3 x4
  rw [v1, jp_bd, if_pos rfl, x1, jp_bd, if_pos rfl]
  refine jE.fr ((v2.w (by decide)).tr (x2.w (by decide))) ?_
  rcases hc with q | q
  · obtain ⟨hlt, hT⟩ := jq_pk_lt q (by decide)
    have s1 := jy_sk1 (T := T) hlt
    obtain ⟨υ, u1, u2, u3, u4⟩ := jy_stSign (c := 43) (by decide) x3
    rw [if_pos q] at u1 u3 u4
    rw [u1, jp_bd, if_neg (by decide), jf_X12_qGoesOn_B225, u4, jp_sub (by omega) (by omega), if_pos (by omega), show (((p + 1 : Nat) : Int) - 1).toNat = p by omega, u3.1.2.2.1 p hlt, hT, if_pos rfl, jf_X12_qGoesOn_B246]
    refine jE.fr (u2.w (by decide)) ?_
    obtain ⟨ω, w1, w2, w3⟩ := jy_drop4 (b := p) (v := 1) ⟨by decide, by decide⟩ hW pd cs υ jl_fu hpd hpl (by omega) (by simpa using u3)
    rw [w1, jp_bd, if_neg (by decide)]
    refine jE.fr w2 (jy_goP h (by omega) (by omega) hn ?_)
    rw [q]
    exact w3
  · obtain ⟨hlt, hT⟩ := jq_pk_lt q (by decide)
    have s1 := jy_sk1 (T := T) hlt
    obtain ⟨υ2, y1, y2, y3, y4⟩ := jy_stSign (c := 43) (by decide) x3
    rw [if_neg (by rw [q]; decide)] at y1 y3 y4
    obtain ⟨υ, u1, u2, u3, u4⟩ := jy_stSign (c := 45) (by decide) y3
    rw [if_pos q] at u1 u3 u4
    rw [y1, jp_bd, if_pos rfl, u1, jp_bd, if_neg (by decide), jf_X12_qGoesOn_B225, u4, jp_sub (by omega) (by omega), if_pos (by omega), show (((p + 1 : Nat) : Int) - 1).toNat = p by omega, u3.1.2.2.1 p hlt, hT, if_neg (by decide), jf_X12_qGoesOn_B246]
    refine jE.fr ((y2.w (by decide)).tr (u2.w (by decide))) ?_
    obtain ⟨ω, w1, w2, w3⟩ := jy_drop4 (b := p) (v := 2) ⟨by decide, by decide⟩ hW pd cs υ jl_fu hpd hpl (by omega) (by simpa using u3)
    rw [w1, jp_bd, if_neg (by decide)]
    refine jE.fr w2 (jy_goP h (by omega) (by omega) hn ?_)
    rw [q]
    exact w3
theorem jy_br_top {V pd : List Int} {x : Int} (hx : 20 ≤ x ∧ x ≤ 24) (hpd : ∀ y ∈ pd, ¬ (20 ≤ y ∧ y ≤ 24)) : jy_br ((V ++ [x] ++ pd.reverse).reverse) = x := by
  have e1 : (V ++ [x] ++ pd.reverse).reverse = pd ++ x :: V.reverse := by simp
  rw [e1]
  induction pd with
  | nil => rw [List.nil_append, jy_br, if_pos hx]
  | cons y pd ih =>
    rw [List.cons_append, jy_br, if_neg (hpd y List.mem_cons_self)]
    exact ih (fun z hz => hpd z (List.mem_cons_of_mem _ hz)) (by simp)
theorem jy_br_none {pd : List Int} (hpd : ∀ y ∈ pd, ¬ (20 ≤ y ∧ y ≤ 24)) : jy_br pd = -1 := by
  induction pd with
  | nil => rfl
  | cons y pd ih =>
    rw [jy_br, if_neg (hpd y List.mem_cons_self)]
    exact ih (fun z hz => hpd z (List.mem_cons_of_mem _ hz))
/-- (N) neither an operator: to the brackets -/
theorem jy_stN {T : Nat → Int} {e kind o p b : Nat} {W cs : List Int} {s : jl_Mm} {base : Nat} (hc : jq_pk T e p ≠ 42 ∧ jq_pk T e p ≠ 47 ∧ jq_pk T e p ≠ 43 ∧ jq_pk T e p ≠ 45) (h : jy_Q T e p kind o base b W cs s) : ∃ τ, jf_X12_qGoesOn_B122 s = (jl_bd (jf_X12_qBracket τ) fun r46 s47 => if r46 = 21 then jf_X12_qGoesOn_B326 s47 else jl_bd (jf_X12_qBracket s47) fun r57 s58 => if r57 = 22 then jf_X12_qGoesOn_B326 s58 else jl_bd (jf_X12_qBracket s58) fun r60 s61 => if r60 = -1 then jf_X12_qGoesOn_B386 s61 else if jl_g s61 206 5 = 0 then jl_bd (jf_X12_fail 1 (jl_g s61 206 2) s61) fun _ s65 => jf_X12_qGoesOn_B386 s65 else jf_X12_qGoesOn_B386 s61) ∧ jp_fr [(206, 2, 3)] s τ ∧ jy_Q T e p kind o base b W cs τ ∧ jl_g τ 206 2 = (p : Int) := by
  obtain ⟨a1, a2, a3, a4⟩ := hc
  obtain ⟨τ1, b1, b2, b3, b4⟩ := jy_stSign (c := 42) (by decide) h
  rw [if_neg a1] at b1 b3 b4
  obtain ⟨τ2, c1, c2, c3, c4⟩ := jy_stSign (c := 47) (by decide) b3
  rw [if_neg a2] at c1 c3 c4
  obtain ⟨τ3, d1, d2, d3, d4⟩ := jy_stSign (c := 43) (by decide) c3
  rw [if_neg a3] at d1 d3 d4
  obtain ⟨τ4, g1, g2, g3, g4⟩ := jy_stSign (c := 45) (by decide) d3
  rw [if_neg a4] at g1 g3 g4
  refine ⟨τ4, ?_, ((b2.tr c2).tr d2).tr g2, g3, g4⟩
  rw [jf_X12_qGoesOn_B122, b1, jp_bd, if_pos rfl, c1, jp_bd, if_pos rfl, d1, jp_bd, if_pos rfl, g1, jp_bd, if_pos rfl]
theorem jy_set {T : Nat → Int} {e p kind o o' base b k : Nat} {W W' cs : List Int} {s τ : jl_Mm} {F : jp_F} (h : jy_Q T e p kind o base b (W ++ W') cs s) (f : jp_fr F s τ) (hF : (F.all fun q => ([(206, 102, 103), (206, 103, 104)] : jp_F).contains q) = true) (e1 : jl_g τ 206 102 = (W.length : Int)) (e2 : jl_g τ 206 103 = (o' : Int)) (ho : o' ≤ 6) (hk : k = b - W'.length) : jy_Q T e p kind o' base k W cs τ := by
  obtain ⟨hL, h1, h2, h3, h4, h5, h6, h7, h8, h9, h10⟩ := h
  have f' := f.w hF
  simp only [List.length_append] at h4 h8
  refine ⟨hL.V f' (by decide), (f'.g _ _ rfl).trans h1, e2, (f'.g _ _ rfl).trans h3, e1, fun i hi => ?_, (f'.g _ _ rfl).trans h6, fun i hi => (f'.g _ _ rfl).trans (h7 i hi), by omega, by omega, ho⟩
  rw [f'.g _ _ rfl, h5 i (by simp only [List.length_append]; omega), List.getElem_append_left hi]
/-- (E) a bracket is closed -/
theorem jy_stE {T : Nat → Int} {e kind o p : Nat} {B V pd cs : List Int} {x l1 : Int} {Post : jl_Mm → Prop} (hx : x = 20 ∨ x = 23 ∨ x = 24) (hpd : ∀ y ∈ pd, ¬ (20 ≤ y ∧ y ≤ 24)) (ho : o < 6) (hc : jq_pk T e p = 41) (h : jy_CE T e kind o B.length (jq_sk T e (p + 1)) (B ++ V) (if x = 20 then cs ++ pd else if x = 23 then cs ++ pd ++ [5] else cs ++ pd ++ [6]) l1 Post) : jy_CG T e kind (o + 1) B.length p (B ++ V ++ [x] ++ pd.reverse) cs l1 Post := by
  intro n m2 s hn hm hQ
  have he := hQ.1.1
  obtain ⟨hlt, hT⟩ := jq_pk_lt hc (by decide)
  have s1 := jy_sk1 (T := T) hlt
  have hQ' : jy_Q T e p kind (o + 1) B.length p (B ++ (V ++ [x] ++ pd.reverse)) cs s := by simpa using hQ
  cases m2 with
  | zero => omega
  | succ m2 =>
    obtain ⟨τ, t1, t2, t3, t4, t5⟩ := jx12_look hQ.1
    have hQ2 := hQ'.L t3 t2 (by decide)
    have hbr := jy_br_top (V := V) (x := x) (pd := pd) (by omega) hpd
    have go : ∀ κ : Int → jl_Mm → jl_O, (∀ u, jl_g u 206 5 = 0 → True) → jE (jl_bd (jf_X12_qGoesOn_B43 (jf_X12_qGoesOn_L0 m2) τ) (fun r13 s14 => if r13 = 0 then jf_X12_qSums_L15 n l1 0 s14 else jf_X12_qSums_L15 n l1 1 s14)) 0 jy_FQ τ Post := by
      intro _ _
      rw [jf_X12_qGoesOn_B43, t4, jp_lm]
      have f0 : jp_fr [(206, 2, 3)] τ (jl_up τ 206 2 (jl_add (p : Int) 1)) := jp_fr.rf.up rfl
      have g0 : jl_g (jl_up τ 206 2 (jl_add (p : Int) 1)) 206 2 = ((p + 1 : Nat) : Int) := by
        simp (disch := omega) only [if_pos, if_neg, jp_bd, jp_lm, jp_let, jp_zb0, jp_zb1, jp_add, jp_sub, jp_g_eq, jp_g_eqg, jp_g_ne, jp_g_nei, jp_r_ne, jp_r_nei, Int.toNat_natCast]
        omega
      generalize jl_up τ 206 2 (jl_add (p : Int) 1) = τ0 at *
      have hL0 : jy_L T e (jq_sk T e (p + 1)) τ0 := t3.mv f0 jy_in2 g0 (by omega) (by rw [f0.g _ _ rfl]; exact t5.step (by rw [hT]; decide))
      have hQ0 : jy_Q T e (jq_sk T e (p + 1)) kind (o + 1) B.length p (B ++ (V ++ [x]) ++ pd.reverse) cs τ0 := by
        have := hQ2.L hL0 f0 (by decide)
        simpa using this
      have hpl : pd.length < jl_fu := by
        have := hQ.2.2.2.2.2.2.2.2.1
        have hpe := hQ.1.pe.1
        simp at this
        show _ < 4000
        omega
      obtain ⟨υ, u1, u2, u3⟩ := jx12_toBracket (V := V ++ [x]) (Or.inr ⟨V, x, rfl, by omega⟩) pd cs τ0 jl_fu hpd hpl hQ0
      refine jE.fr (f0.w (by decide)) ?_
      rw [jf_X12_qDropsToBracket, u1, jp_bd]
      refine jE.fr u2 ?_
      have ht := jy_V.top (W := B ++ V) (x := x) (by simpa using u3.2)
      have h2 := u3.2.2.1
      have h8 := u3.2.2.2.2.2.2.2.2.1
      simp only [List.length_append, List.length_singleton] at h8 ht
      rw [ht.1, jp_lm]
      have f1 : jp_fr [(206, 102, 103), (206, 103, 104)] υ (jl_up (jl_up υ 206 102 (jl_sub ((B.length + V.length + 1 : Nat) : Int) 1)) 206 103 (jl_sub (jl_g (jl_up υ 206 102 (jl_sub ((B.length + V.length + 1 : Nat) : Int) 1)) 206 103) 1)) := (jp_fr.rf.up rfl).up rfl
      have g1 : jl_g (jl_up (jl_up υ 206 102 (jl_sub ((B.length + V.length + 1 : Nat) : Int) 1)) 206 103 (jl_sub (jl_g (jl_up υ 206 102 (jl_sub ((B.length + V.length + 1 : Nat) : Int) 1)) 206 103) 1)) 206 102 = ((B ++ V).length : Int) := by
        simp (disch := omega) only [if_pos, if_neg, jp_bd, jp_lm, jp_let, jp_zb0, jp_zb1, jp_add, jp_sub, jp_g_eq, jp_g_eqg, jp_g_ne, jp_g_nei, jp_r_ne, jp_r_nei, Int.toNat_natCast]
        simp only [List.length_append]
        omega
      have g2 : jl_g (jl_up (jl_up υ 206 102 (jl_sub ((B.length + V.length + 1 : Nat) : Int) 1)) 206 103 (jl_sub (jl_g (jl_up υ 206 102 (jl_sub ((B.length + V.length + 1 : Nat) : Int) 1)) 206 103) 1)) 206 103 = (o : Int) := by
        simp (disch := omega) only [if_pos, if_neg, jp_bd, jp_lm, jp_let, jp_zb0, jp_zb1, jp_add, jp_sub, jp_g_eq, jp_g_eqg, jp_g_ne, jp_g_nei, jp_r_ne, jp_r_nei, Int.toNat_natCast, h2]
        omega
      rw [jp_lm]
      generalize jl_up (jl_up υ 206 102 (jl_sub ((B.length + V.length + 1 : Nat) : Int) 1)) 206 103 (jl_sub (jl_g (jl_up υ 206 102 (jl_sub ((B.length + V.length + 1 : Nat) : Int) 1)) 206 103) 1) = ω at *
      have hQ3 : jy_Q T e (jq_sk T e (p + 1)) kind o B.length (p - 1) (B ++ V) (cs ++ pd) ω := jy_set (W' := [x]) (by simpa using u3) f1 (by decide) g1 g2 (by omega) rfl
      have hx2 : jl_g ω 283 (B.length + V.length) = x := by
        rw [(f1.g _ _ rfl)]; exact ht.2
      refine jE.fr (f1.w (by decide)) ?_
      rw [g1, if_pos (by simp only [List.length_append]; omega), Int.toNat_natCast, List.length_append, hx2]
      simp only [jf_X12_qGoesOn_B115, jf_X12_qGoesOn_B112]
      have fin : ∀ (cs' : List Int) (u : jl_Mm), jy_CE T e kind o B.length (jq_sk T e (p + 1)) (B ++ V) cs' l1 Post → jy_Q T e (jq_sk T e (p + 1)) kind o B.length p (B ++ V) cs' u → jE (jl_bd (jl_bd (jf_X12_qEndsPart u) fun _ s80 => jf_X12_qGoesOn_L0 m2 s80) (fun r13 s14 => if r13 = 0 then jf_X12_qSums_L15 n l1 0 s14 else jf_X12_qSums_L15 n l1 1 s14)) 0 jy_FQ u Post := by
        intro cs' u hC hu
        have z := hC n jl_fu m2 (fun v => jy_KG n m2 l1 v) u (by omega) (by simp only [List.length_append]; show _ < 4000; omega) (by omega) (fun _ _ => rfl) (hu.w (by omega) (by omega))
        refine jE.eq ?_ z
        rw [jf_X12_qEndsPart]
        cases jf_X12_qEndsPart_L0 jl_fu u with
        | none => rfl
        | some q => rfl
      have hp1 : p - 1 + 1 = p := by omega
      rcases hx with rfl | rfl | rfl
      · rw [if_pos rfl] at h
        rw [if_pos rfl]
        exact fin _ _ h (hQ3.w (by omega) (by omega))
      · rw [if_neg (by decide), if_pos rfl] at h
        rw [if_neg (by decide), if_pos (by omega), if_pos rfl]
        obtain ⟨ψ, y1, y2, y3⟩ := jx12_code hQ3 (v := 5) ⟨by decide, by decide⟩ (by omega)
        rw [y1, jp_bd]
        rw [hp1] at y3
        exact jE.fr (y2.w (by decide)) (fin _ _ h y3)
      · rw [if_neg (by decide), if_neg (by decide)] at h
        rw [if_neg (by decide), if_pos (by omega), if_neg (by decide)]
        obtain ⟨ψ, y1, y2, y3⟩ := jx12_code hQ3 (v := 6) ⟨by decide, by decide⟩ (by omega)
        rw [y1, jp_bd]
        rw [hp1] at y3
        exact jE.fr (y2.w (by decide)) (fin _ _ h y3)
    have go2 := go (fun _ _ => none) (fun _ _ => trivial)
    rw [jy_KG, jf_X12_qGoesOn_L0, if_pos hQ.1.2.2.2.1, t1, jp_bd, if_pos hc]
    refine jE.fr (t2.w (by decide)) ?_
    rw [jx12_bracket hQ2.2, jp_bd, hbr]
    rcases hx with rfl | rfl | rfl
    · rw [if_pos rfl]; exact go2
    · rw [if_neg (by decide), jx12_bracket hQ2.2, jp_bd, hbr, if_pos rfl]; exact go2
    · rw [if_neg (by decide), jx12_bracket hQ2.2, jp_bd, hbr, if_neg (by decide), jx12_bracket hQ2.2, jp_bd, hbr, if_pos rfl]; exact go2
