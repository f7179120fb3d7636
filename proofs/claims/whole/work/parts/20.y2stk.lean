/-! PURE, the reference's reader: what waits, what is told -/
def jy_FL : jp_F := [(206, 2, 3), (206, 4, 5), (206, 5, 7), (206, 10, 11)]
def jy_FQ : jp_F := [(206, 2, 3), (206, 4, 5), (206, 5, 7), (206, 10, 11), (206, 100, 101), (206, 102, 103), (206, 103, 104), (206, 104, 105), (282, 0, 0), (283, 0, 0)]
/-- reading a sum or test: W waits, cs is told, no more than b of both -/
def jy_V (kind o base b : Nat) (W cs : List Int) (s : jl_Mm) : Prop :=
  jl_g s 206 55 = (kind : Int) ∧ jl_g s 206 103 = (o : Int) ∧ jl_g s 206 104 = (base : Int) ∧ jl_g s 206 102 = (W.length : Int) ∧ (∀ i (h : i < W.length), jl_g s 283 i = W[i]) ∧ jl_g s 206 100 = (cs.length : Int) ∧ (∀ i (h : i < cs.length), jl_g s 282 i = cs[i]) ∧ cs.length + W.length ≤ b ∧ b ≤ 1690 ∧ o ≤ 6
def jy_Q (T : Nat → Int) (e p kind o base b : Nat) (W cs : List Int) (s : jl_Mm) : Prop := jy_L T e p s ∧ jy_V kind o base b W cs s
theorem jy_V.fr {kind o base b : Nat} {W cs : List Int} {s τ : jl_Mm} {F : jp_F} (h : jy_V kind o base b W cs s) (f : jp_fr F s τ) (w : ∀ i, (i = 55 ∨ i = 100 ∨ i = 102 ∨ i = 103 ∨ i = 104) → jp_in F 206 i = false) (w2 : ∀ i, jp_in F 282 i = false) (w3 : ∀ i, jp_in F 283 i = false) : jy_V kind o base b W cs τ := by
  obtain ⟨h1, h2, h3, h4, h5, h6, h7, h8⟩ := h
  exact ⟨(f.g _ _ (w _ (by omega))).trans h1, (f.g _ _ (w _ (by omega))).trans h2, (f.g _ _ (w _ (by omega))).trans h3, (f.g _ _ (w _ (by omega))).trans h4, fun i hi => (f.g _ _ (w3 i)).trans (h5 i hi), (f.g _ _ (w _ (by omega))).trans h6, fun i hi => (f.g _ _ (w2 i)).trans (h7 i hi), h8⟩
/-- a step of the reader leaves what waits and what is told -/
theorem jy_V.L {kind o base b : Nat} {W cs : List Int} {s τ : jl_Mm} {F : jp_F} (h : jy_V kind o base b W cs s) (f : jp_fr F s τ) (w : (F.all fun q => jy_FL.contains q) = true) : jy_V kind o base b W cs τ :=
  h.fr (f.w w) (by intro i hi; simp [jp_in, jy_FL]; omega) (fun i => rfl) (fun i => rfl)
theorem jy_V.w {kind o base b b' : Nat} {W cs : List Int} {s : jl_Mm} (h : jy_V kind o base b W cs s) (w : b ≤ b') (w2 : b' ≤ 1690) : jy_V kind o base b' W cs s := by
  obtain ⟨h1, h2, h3, h4, h5, h6, h7, h8, h9, h10⟩ := h
  exact ⟨h1, h2, h3, h4, h5, h6, h7, by omega, w2, h10⟩
theorem jy_L.V {T : Nat → Int} {e p : Nat} {s τ : jl_Mm} {F : jp_F} (h : jy_L T e p s) (f : jp_fr F s τ) (w : (F.all fun q => ([(206, 100, 101), (206, 102, 103), (206, 103, 104), (206, 104, 105), (282, 0, 0), (283, 0, 0)] : jp_F).contains q) = true) : jy_L T e p τ :=
  h.fr (f.w w) (by intro i hi; simp [jp_in]; omega) (fun i => rfl) (by intro c i hc; rcases hc with hc | hc <;> simp [jp_in] <;> omega)
/-- a fault, with what is told still within its room -/
def jy_M (k p : Nat) (s : jl_Mm) : Prop := jy_K k p s ∧ 0 ≤ jl_g s 206 100 ∧ jl_g s 206 100 ≤ 1692
theorem jy_K.m {k p kind o base b : Nat} {W cs : List Int} {s τ : jl_Mm} {F : jp_F} (h : jy_K k p τ) (f : jp_fr F s τ) (w : jp_in F 206 100 = false) (hV : jy_V kind o base b W cs s) : jy_M k p τ := by
  have h6 := hV.2.2.2.2.2.1
  have h8 := hV.2.2.2.2.2.2.2.1
  have h9 := hV.2.2.2.2.2.2.2.2.1
  refine ⟨h, ?_, ?_⟩ <;> rw [f.g _ _ w, h6] <;> omega
theorem jx12_code {T : Nat → Int} {e p kind o base b : Nat} {W cs : List Int} {v : Int} {s : jl_Mm} (h : jy_Q T e p kind o base b W cs s) (hv : jl_n3 v) (hb : b < 1690) : jE (jf_X12_qCode v s) 0 [(282, 0, 0), (206, 100, 101)] s (fun τ => jy_Q T e p kind o base (b + 1) W (cs ++ [v]) τ) := by
  obtain ⟨hL, h1, h2, h3, h4, h5, h6, h7, h8, h9⟩ := h
  obtain ⟨v1, v2⟩ := hv
  rw [jf_X12_qCode, h6, if_pos (by omega), Int.toNat_natCast]
  refine jE.lm (by simp [jp_in]) (jE.lm (by simp [jp_in]) (jE.ret ?_))
  have f : jp_fr [(282, 0, 0), (206, 100, 101)] s (jl_up (jl_up s 282 cs.length v) 206 100 (jl_add (jl_g (jl_up s 282 cs.length v) 206 100) 1)) := (jp_fr.rf.up rfl).up rfl
  have e1 : jl_g (jl_up (jl_up s 282 cs.length v) 206 100 (jl_add (jl_g (jl_up s 282 cs.length v) 206 100) 1)) 206 100 = ((cs.length + 1 : Nat) : Int) := by
    simp (disch := omega) only [if_pos, if_neg, jp_bd, jp_lm, jp_let, jp_zb0, jp_zb1, jp_add, jp_sub, jp_g_eq, jp_g_eqg, jp_g_ne, jp_g_nei, jp_r_ne, jp_r_nei, Int.toNat_natCast, h6]
    omega
  have e2 : jl_g (jl_up (jl_up s 282 cs.length v) 206 100 (jl_add (jl_g (jl_up s 282 cs.length v) 206 100) 1)) 282 cs.length = v := by
    simp (disch := omega) only [if_pos, if_neg, jp_bd, jp_lm, jp_let, jp_zb0, jp_zb1, jp_add, jp_sub, jp_g_eq, jp_g_eqg, jp_g_ne, jp_g_nei, jp_r_ne, jp_r_nei, Int.toNat_natCast]
  have e3 : ∀ i, i ≠ cs.length → jl_g (jl_up (jl_up s 282 cs.length v) 206 100 (jl_add (jl_g (jl_up s 282 cs.length v) 206 100) 1)) 282 i = jl_g s 282 i := by
    intro i hi
    simp (disch := omega) only [if_pos, if_neg, jp_bd, jp_lm, jp_let, jp_zb0, jp_zb1, jp_add, jp_sub, jp_g_eq, jp_g_eqg, jp_g_ne, jp_g_nei, jp_r_ne, jp_r_nei, Int.toNat_natCast]
  generalize jl_up (jl_up s 282 cs.length v) 206 100 (jl_add (jl_g (jl_up s 282 cs.length v) 206 100) 1) = τ at *
  refine ⟨hL.V f (by decide), (f.g _ _ rfl).trans h1, (f.g _ _ rfl).trans h2, (f.g _ _ rfl).trans h3, (f.g _ _ rfl).trans h4, fun i hi => (f.g _ _ rfl).trans (h5 i hi), by rw [e1]; simp, fun i hi => ?_, by simp; omega, by omega, h9.2⟩
  simp only [List.length_append, List.length_singleton] at hi
  by_cases z : i = cs.length
  · subst z
    rw [e2, List.getElem_append_right (Nat.le_refl _)]
    simp
  · rw [e3 i z, List.getElem_append_left (by omega)]
    exact h7 i (by omega)
theorem jx12_drops {T : Nat → Int} {e p kind o base b : Nat} {W cs : List Int} {x : Int} {s : jl_Mm} (h : jy_Q T e p kind o base b (W ++ [x]) cs s) : jE (jf_X12_qDrops s) 0 [(206, 102, 103), (282, 0, 0), (206, 100, 101)] s (fun τ => jy_Q T e p kind o base b W (cs ++ [x]) τ) := by
  obtain ⟨hL, h1, h2, h3, h4, h5, h6, h7, h8, h9, h10⟩ := h
  simp only [List.length_append, List.length_singleton] at h4 h8
  rw [jf_X12_qDrops, h4, jp_sub (by omega) (by omega)]
  refine jE.lm rfl ?_
  have f : jp_fr [(206, 102, 103)] s (jl_up s 206 102 (((W.length + 1 : Nat) : Int) - 1)) := jp_fr.rf.up rfl
  have e1 : jl_g (jl_up s 206 102 (((W.length + 1 : Nat) : Int) - 1)) 206 102 = (W.length : Int) := by
    simp (disch := omega) only [if_pos, if_neg, jp_bd, jp_lm, jp_let, jp_zb0, jp_zb1, jp_add, jp_sub, jp_g_eq, jp_g_eqg, jp_g_ne, jp_g_nei, jp_r_ne, jp_r_nei, Int.toNat_natCast]
    omega
  generalize jl_up s 206 102 (((W.length + 1 : Nat) : Int) - 1) = τ at *
  have ex : jl_g τ 283 W.length = x := by
    rw [f.g _ _ rfl, h5 W.length (by simp)]
    simp
  rw [e1, if_pos (by omega), Int.toNat_natCast, ex]
  have hx : jl_n3 x := by rw [← ex]; exact jp_gn _ _ _
  have hQ : jy_Q T e p kind o base (b - 1) W cs τ := by
    refine ⟨hL.V f (by decide), (f.g _ _ rfl).trans h1, (f.g _ _ rfl).trans h2, (f.g _ _ rfl).trans h3, e1, fun i hi => ?_, (f.g _ _ rfl).trans h6, fun i hi => (f.g _ _ rfl).trans (h7 i hi), by omega, by omega, h10⟩
    rw [f.g _ _ rfl, h5 i (by simp; omega), List.getElem_append_left hi]
  refine jE.bd (jx12_code hQ hx (by omega)) (by decide) (fun τ2 f2 z2 => jE.ret ?_)
  rw [show b - 1 + 1 = b by omega] at z2
  exact z2
/-- one more waits -/
theorem jy_push {T : Nat → Int} {e p kind o o' base b : Nat} {W cs : List Int} {v w : Int} {s : jl_Mm} (h : jy_Q T e p kind o base b W cs s) (hv : jl_n3 v) (hb : b < 1690) (ho : o' ≤ 6) {F : jp_F} {τ : jl_Mm} (f : jp_fr F s τ) (hF : (F.all fun q => ([(206, 100, 101), (206, 102, 103), (206, 103, 104), (206, 104, 105), (282, 0, 0), (283, 0, 0)] : jp_F).contains q) = true) (e0 : jl_g τ 206 100 = jl_g s 206 100) (e0' : ∀ i, jl_g τ 282 i = jl_g s 282 i) (e0b : jl_g τ 206 104 = jl_g s 206 104) (e1 : jl_g τ 206 102 = ((W.length + 1 : Nat) : Int)) (e2 : jl_g τ 283 W.length = v) (e3 : ∀ i, i ≠ W.length → jl_g τ 283 i = jl_g s 283 i) (e4 : jl_g τ 206 103 = (o' : Int)) : jy_Q T e p kind o' base (b + 1) (W ++ [v]) cs τ := by
  obtain ⟨hL, h1, h2, h3, h4, h5, h6, h7, h8, h9⟩ := h
  refine ⟨hL.V f hF, ((f.w hF).g 206 55 rfl).trans h1, e4, e0b.trans h3, by rw [e1]; simp, fun i hi => ?_, e0.trans h6, fun i hi => (e0' i).trans (h7 i hi), by simp; omega, by omega, ho⟩
  simp only [List.length_append, List.length_singleton] at hi
  by_cases z : i = W.length
  · subst z
    rw [e2, List.getElem_append_right (Nat.le_refl _)]
    simp
  · rw [e3 i z, List.getElem_append_left (by omega)]
    exact h5 i (by omega)
theorem jx12_opens {T : Nat → Int} {e p kind o base b a : Nat} {W cs : List Int} {v : Int} {s : jl_Mm} (h : jy_Q T e p kind o base b W cs s) (hv : jl_n3 v) (hb : b < 1690) (ha : a ≤ 2000) : (o < 6 → jE (jf_X12_qOpens v (a : Int) s) 0 jy_FQ s (fun τ => jy_Q T e p kind (o + 1) base (b + 1) (W ++ [v]) cs τ ∧ jl_g τ 206 2 = jl_g s 206 2 ∧ jl_g τ 206 4 = jl_g s 206 4)) ∧ (¬ o < 6 → jE (jf_X12_qOpens v (a : Int) s) 0 [(206, 5, 7)] s (fun τ => jy_K 4 a τ)) := by
  have hh := h
  obtain ⟨hL, h1, h2, h3, h4, h5, h6, h7, h8, h9, h10⟩ := hh
  have v1 := hv.1
  have v2 := hv.2
  rw [jf_X12_qOpens, if_pos hL.2.2.2.1, h2]
  constructor
  · intro ho
    rw [if_neg (by omega)]
    refine jE.lm rfl ?_
    have e1 : jl_g (jl_up s 206 103 (jl_add (o : Int) 1)) 206 102 = (W.length : Int) := by
      simp (disch := omega) only [if_pos, if_neg, jp_bd, jp_lm, jp_let, jp_zb0, jp_zb1, jp_add, jp_sub, jp_g_eq, jp_g_eqg, jp_g_ne, jp_g_nei, jp_r_ne, jp_r_nei, Int.toNat_natCast, h4]
    rw [e1, if_pos (by omega), Int.toNat_natCast]
    refine jE.lm rfl (jE.lm rfl (jE.ret ⟨?_, ?_, ?_⟩))
    · refine jy_push (F := [(206, 103, 104), (283, 0, 0), (206, 102, 103)]) (w := v) h hv hb (by omega) (((jp_fr.rf.up rfl).up rfl).up rfl) (by decide) ?_ ?_ ?_ ?_ ?_ ?_ ?_
      · simp (disch := omega) only [if_pos, if_neg, jp_bd, jp_lm, jp_let, jp_zb0, jp_zb1, jp_add, jp_sub, jp_g_eq, jp_g_eqg, jp_g_ne, jp_g_nei, jp_r_ne, jp_r_nei, Int.toNat_natCast]
      · intro i
        simp (disch := omega) only [if_pos, if_neg, jp_bd, jp_lm, jp_let, jp_zb0, jp_zb1, jp_add, jp_sub, jp_g_eq, jp_g_eqg, jp_g_ne, jp_g_nei, jp_r_ne, jp_r_nei, Int.toNat_natCast]
      · simp (disch := omega) only [if_pos, if_neg, jp_bd, jp_lm, jp_let, jp_zb0, jp_zb1, jp_add, jp_sub, jp_g_eq, jp_g_eqg, jp_g_ne, jp_g_nei, jp_r_ne, jp_r_nei, Int.toNat_natCast]
      · simp (disch := omega) only [if_pos, if_neg, jp_bd, jp_lm, jp_let, jp_zb0, jp_zb1, jp_add, jp_sub, jp_g_eq, jp_g_eqg, jp_g_ne, jp_g_nei, jp_r_ne, jp_r_nei, Int.toNat_natCast, h4]
        omega
      · simp (disch := omega) only [if_pos, if_neg, jp_bd, jp_lm, jp_let, jp_zb0, jp_zb1, jp_add, jp_sub, jp_g_eq, jp_g_eqg, jp_g_ne, jp_g_nei, jp_r_ne, jp_r_nei, Int.toNat_natCast]
      · intro i hi
        simp (disch := omega) only [if_pos, if_neg, jp_bd, jp_lm, jp_let, jp_zb0, jp_zb1, jp_add, jp_sub, jp_g_eq, jp_g_eqg, jp_g_ne, jp_g_nei, jp_r_ne, jp_r_nei, Int.toNat_natCast]
      · simp (disch := omega) only [if_pos, if_neg, jp_bd, jp_lm, jp_let, jp_zb0, jp_zb1, jp_add, jp_sub, jp_g_eq, jp_g_eqg, jp_g_ne, jp_g_nei, jp_r_ne, jp_r_nei, Int.toNat_natCast]
        omega
    · simp (disch := omega) only [if_pos, if_neg, jp_bd, jp_lm, jp_let, jp_zb0, jp_zb1, jp_add, jp_sub, jp_g_eq, jp_g_eqg, jp_g_ne, jp_g_nei, jp_r_ne, jp_r_nei, Int.toNat_natCast]
    · simp (disch := omega) only [if_pos, if_neg, jp_bd, jp_lm, jp_let, jp_zb0, jp_zb1, jp_add, jp_sub, jp_g_eq, jp_g_eqg, jp_g_ne, jp_g_nei, jp_r_ne, jp_r_nei, Int.toNat_natCast]
  · intro ho
    rw [if_pos (by omega)]
    exact jE.bd (jx12_fail (k := 4) hL (by decide) (by decide) (by omega)) (by decide) (fun τ2 f2 z2 => jE.ret z2)
theorem jy_V.top {kind o base b : Nat} {W cs : List Int} {x : Int} {s : jl_Mm} (h : jy_V kind o base b (W ++ [x]) cs s) : jl_g s 206 102 = ((W.length + 1 : Nat) : Int) ∧ jl_g s 283 W.length = x := by
  obtain ⟨h1, h2, h3, h4, h5, -⟩ := h
  refine ⟨by rw [h4]; simp, ?_⟩
  rw [h5 W.length (by simp)]
  simp
theorem jx12_isOn {kind o base b : Nat} {W cs : List Int} {v : Int} {s : jl_Mm} (h : jy_V kind o base b W cs s) : jf_X12_qIsOn v s = some (if W.getLast? = some v then 1 else 0, s) := by
  rcases List.eq_nil_or_concat W with rfl | ⟨W', x, rfl⟩
  · have h4 := h.2.2.2.1
    rw [jf_X12_qIsOn, h4, if_pos (by simp), jf_X12_qIsOn_B26, jf_X12_qIsOn_B27, jp_zb0]
    simp
  · rw [List.concat_eq_append] at h ⊢
    obtain ⟨t1, t2⟩ := h.top
    have h8 := h.2.2.2.2.2.2.2.1
    have h9 := h.2.2.2.2.2.2.2.2.1
    simp only [List.length_append, List.length_singleton] at h8
    rw [jf_X12_qIsOn, t1, if_neg (by omega), jp_sub (by omega) (by omega), if_pos (by omega), show (((W'.length + 1 : Nat) : Int) - 1).toNat = W'.length by omega, t2]
    by_cases q : x = v
    · rw [if_pos q, jf_X12_qIsOn_B27, jp_zb1]
      simp [q]
    · rw [if_neg q, jf_X12_qIsOn_B26, jf_X12_qIsOn_B27, jp_zb0]
      simp [q]
theorem jx12_isBr (v : Int) (s : jl_Mm) : jf_X12_qIsBracket v s = some (if 20 ≤ v ∧ v ≤ 24 then 1 else 0, s) := by
  by_cases h1 : v < 20 <;> by_cases h2 : 24 < v <;> simp only [jf_X12_qIsBracket, jf_X12_qIsBracket_B16, jf_X12_qIsBracket_B17] <;> simp (disch := omega) only [if_pos, if_neg, jp_bd, jp_lm, jp_let, jp_zb0, jp_zb1, jp_add, jp_sub, jp_g_eq, jp_g_eqg, jp_g_ne, jp_g_nei, jp_r_ne, jp_r_nei, Int.toNat_natCast] <;> (exfalso; omega)
/-- the last bracket above the base: V told from the top on -/
def jy_br : List Int → Int
  | [] => -1
  | x :: r => if 20 ≤ x ∧ x ≤ 24 then x else jy_br r
theorem jx12_brL {kind o b : Nat} {B cs : List Int} {s : jl_Mm} : ∀ (R X : List Int) (n : Nat), R.length < n → jy_V kind o B.length b (B ++ R.reverse ++ X) cs s → jf_X12_qBracket_L7 n (((B.length + R.length : Nat) : Int) - 1) s = some (jy_br R, s) := by
  intro R
  induction R with
  | nil =>
    intro X n hn h
    cases n with
    | zero => cases hn
    | succ n =>
      have h3 := h.2.2.1
      rw [jf_X12_qBracket_L7, h3, if_pos (by simp only [List.length_nil]; omega), jf_X12_qBracket_B33, h3, if_pos (by simp only [List.length_nil]; omega), jf_X12_qBracket_B51]
      rfl
  | cons x R ih =>
    intro X n hn h
    cases n with
    | zero => cases hn
    | succ n =>
      have h3 := h.2.2.1
      have h8 := h.2.2.2.2.2.2.2.1
      have h9 := h.2.2.2.2.2.2.2.2.1
      simp only [List.length_append, List.length_reverse, List.length_cons] at h8
      have ht : jl_g s 283 (B.length + R.length) = x := by
        rw [h.2.2.2.2.1 _ (by simp only [List.length_append, List.length_reverse, List.length_cons]; omega)]
        rw [List.getElem_append_left (by simp), List.getElem_append_right (by omega)]
        simp
      simp only [List.length_cons] at hn ⊢
      rw [jf_X12_qBracket_L7, h3, if_neg (by omega), if_pos (by omega), show (((B.length + (R.length + 1) : Nat) : Int) - 1).toNat = B.length + R.length by omega, ht, jx12_isBr, jp_bd, jy_br]
      by_cases q : 20 ≤ x ∧ x ≤ 24
      · rw [if_pos q, if_neg (by decide), if_pos q, jf_X12_qBracket_B33, h3, if_neg (by omega), if_pos (by omega), show (((B.length + (R.length + 1) : Nat) : Int) - 1).toNat = B.length + R.length by omega, ht, jf_X12_qBracket_B51]
      · rw [if_neg q, if_pos rfl, if_neg q]
        have e1 : jl_add (((B.length + (R.length + 1) : Nat) : Int) - 1) (-1) = ((B.length + R.length : Nat) : Int) - 1 := by
          rw [jp_add (by omega) (by omega)]; omega
        rw [e1]
        refine ih (x :: X) n (by omega) ?_
        simpa using h
theorem jx12_bracket {kind o b : Nat} {B V cs : List Int} {s : jl_Mm} (h : jy_V kind o B.length b (B ++ V) cs s) : jf_X12_qBracket s = some (jy_br V.reverse, s) := by
  have h4 := h.2.2.2.1
  have h8 := h.2.2.2.2.2.2.2.1
  have h9 := h.2.2.2.2.2.2.2.2.1
  simp only [List.length_append] at h4 h8
  have z := jx12_brL (B := B) (cs := cs) (s := s) V.reverse [] jl_fu (by simp only [List.length_reverse]; show _ < 4000; omega) (by simpa using h)
  rw [jf_X12_qBracket, h4, jp_sub (by omega) (by omega), jp_let]
  simpa using z
theorem jx12_toBracket {T : Nat → Int} {e p kind o b : Nat} {B V : List Int} (hV : V = [] ∨ ∃ V' x, V = V' ++ [x] ∧ 20 ≤ x ∧ x ≤ 24) : ∀ (pd : List Int) (cs : List Int) (s : jl_Mm) (n : Nat), (∀ x ∈ pd, ¬ (20 ≤ x ∧ x ≤ 24)) → pd.length < n → jy_Q T e p kind o B.length b (B ++ V ++ pd.reverse) cs s → jE (jf_X12_qDropsToBracket_L0 n s) 0 jy_FQ s (fun τ => jy_Q T e p kind o B.length b (B ++ V) (cs ++ pd) τ) := by
  intro pd
  induction pd with
  | nil =>
    intro cs s n _ hn h
    cases n with
    | zero => cases hn
    | succ n =>
      simp only [List.reverse_nil, List.append_nil] at h ⊢
      have h3 := h.2.2.2.1
      have h4 := h.2.2.2.2.1
      have h8 := h.2.2.2.2.2.2.2.2.1
      have h9 := h.2.2.2.2.2.2.2.2.2.1
      rw [jf_X12_qDropsToBracket_L0, h3, h4]
      rcases hV with rfl | ⟨V', x, rfl, hx⟩
      · rw [if_pos (by simp), jf_X12_qDropsToBracket_B35]
        exact jE.ret h
      · have ht := (jy_V.top (W := B ++ V') (x := x) (by simpa using h.2)).2
        simp only [List.length_append, List.length_singleton] at h8 ht ⊢
        rw [if_neg (by omega), jp_sub (by omega) (by omega), if_pos (by omega), show (((B.length + (V'.length + 1) : Nat) : Int) - 1).toNat = B.length + V'.length by omega, ht, jx12_isBr, jp_bd, if_pos hx, if_neg (by decide), jf_X12_qDropsToBracket_B35]
        exact jE.ret h
  | cons x pd ih =>
    intro cs s n hpd hn h
    cases n with
    | zero => cases hn
    | succ n =>
      rw [List.reverse_cons, ← List.append_assoc] at h
      have h3 := h.2.2.2.1
      have h8 := h.2.2.2.2.2.2.2.2.1
      have h9 := h.2.2.2.2.2.2.2.2.2.1
      obtain ⟨t1, t2⟩ := h.2.top
      simp only [List.length_append, List.length_reverse, List.length_cons, List.length_nil] at h8 t1 t2 hn
      rw [jf_X12_qDropsToBracket_L0, h3, t1, if_neg (by omega), jp_sub (by omega) (by omega), if_pos (by omega), show (((B.length + V.length + pd.length + 1 : Nat) : Int) - 1).toNat = B.length + V.length + pd.length by omega, t2, jx12_isBr, jp_bd, if_neg (hpd x List.mem_cons_self), if_pos rfl]
      refine jE.bd (jx12_drops h) (by decide) (fun τ f z => ?_)
      refine jE.mono (ih (cs ++ [x]) τ n (fun y hy => hpd y (List.mem_cons_of_mem _ hy)) (by omega) z) (by decide) (fun υ _ q => ?_)
      simpa using q
/-- the part words: their places in the reference's list -/
def jy_k (w : Int) : Int := if w = 19 then 0 else if w = 20 then 1 else if w = 15 then 2 else if w = 16 then 3 else if w = 17 then 4 else if w = 18 then 5 else if w = 3 then 6 else if w = 21 then 7 else if w = 22 then 8 else if w = 23 then 9 else if w = 24 then 10 else if w = 25 then 11 else -1
def jy_aw (kind : Nat) (k : Int) : Bool := match kind with | 0 => decide (k < 2) | 1 => decide (k = 0 ∨ (2 ≤ k ∧ k ≤ 5)) | 2 => decide (k = 0 ∨ (2 ≤ k ∧ k ≤ 6)) | _ => true
theorem jx12_allowed {kind : Nat} {k : Int} {s : jl_Mm} (h : jl_g s 206 55 = (kind : Int)) (hk : kind < 4) (hk2 : 0 ≤ k ∧ k < 12) : jf_X12_isAllowed k s = some (if jy_aw kind k = true then 1 else 0, s) := by
  have hk4 : kind = 0 ∨ kind = 1 ∨ kind = 2 ∨ kind = 3 := by omega
  rw [jf_X12_isAllowed, h, jp_let]
  simp only [jf_X12_isAllowed_B42, jf_X12_isAllowed_B61, jf_X12_isAllowed_B66, jf_X12_isAllowed_B85, jf_X12_isAllowed_B90]
  rcases hk4 with rfl | rfl | rfl | rfl
  · rw [if_pos (by decide)]
    by_cases q : 2 ≤ k
    · rw [if_pos q, jp_zb0, if_neg (by simp [jy_aw]; omega)]
    · rw [if_neg q, jp_zb1, if_pos (by simp [jy_aw]; omega)]
  · rw [if_neg (by decide), if_pos (by decide), jx12_isIn s ⟨by omega, by omega⟩ ⟨by decide, by decide⟩ ⟨by decide, by decide⟩, jp_bd]
    by_cases q : k = 0
    · rw [if_pos q, jp_zb1, if_pos (by simp [jy_aw]; omega)]
    · rw [if_neg q]
      by_cases q2 : 2 ≤ k ∧ k ≤ 5
      · rw [if_pos q2, if_neg (by decide), jp_zb1, if_pos (by simp [jy_aw]; omega)]
      · rw [if_neg q2, if_pos rfl, jp_zb0, if_neg (by simp [jy_aw]; omega)]
  · rw [if_neg (by decide), if_neg (by decide), if_pos (by decide), jx12_isIn s ⟨by omega, by omega⟩ ⟨by decide, by decide⟩ ⟨by decide, by decide⟩, jp_bd]
    by_cases q : k = 0
    · rw [if_pos q, jp_zb1, if_pos (by simp [jy_aw]; omega)]
    · rw [if_neg q]
      by_cases q2 : 2 ≤ k ∧ k ≤ 6
      · rw [if_pos q2, if_neg (by decide), jp_zb1, if_pos (by simp [jy_aw]; omega)]
      · rw [if_neg q2, if_pos rfl, jp_zb0, if_neg (by simp [jy_aw]; omega)]
  · rw [if_neg (by decide), if_neg (by decide), if_neg (by decide), jp_zb1]
    simp [jy_aw]
theorem jx12_wordHere {T : Nat → Int} {e p : Nat} {s : jl_Mm} (h : jy_L T e p s) : jE (jf_X12_qWordHere s) (jy_k (jq_wn T e p)) [(206, 2, 3)] s (fun τ => jy_L T e p τ ∧ jl_g τ 206 2 = (p : Int) ∧ jy_E T p (jl_g τ 206 4)) := by
  rw [jf_X12_qWordHere]
  refine jE.bd (jx12_isHere (c := 270) (Or.inr (by omega)) (by first | exact h | exact z.1)) (by decide) (fun τ270 f270 z270 => ?_)
  clear h
  by_cases w270 : jq_wn T e p = 19
  · rw [if_pos (show jq_wn T e p = (jy_wn 270 : Int) from w270), if_neg (by decide), w270]
    exact jE.ret z270
  rw [if_neg (show ¬ jq_wn T e p = (jy_wn 270 : Int) from w270), if_pos rfl]
  have z := z270
  have h := z.1
  refine jE.bd (jx12_isHere (c := 271) (Or.inr (by omega)) (by first | exact h | exact z.1)) (by decide) (fun τ271 f271 z271 => ?_)
  clear h
  by_cases w271 : jq_wn T e p = 20
  · rw [if_pos (show jq_wn T e p = (jy_wn 271 : Int) from w271), if_neg (by decide), w271]
    exact jE.ret z271
  rw [if_neg (show ¬ jq_wn T e p = (jy_wn 271 : Int) from w271), if_pos rfl]
  have z := z271
  have h := z.1
  refine jE.bd (jx12_isHere (c := 272) (Or.inr (by omega)) (by first | exact h | exact z.1)) (by decide) (fun τ272 f272 z272 => ?_)
  clear h
  by_cases w272 : jq_wn T e p = 15
  · rw [if_pos (show jq_wn T e p = (jy_wn 272 : Int) from w272), if_neg (by decide), w272]
    exact jE.ret z272
  rw [if_neg (show ¬ jq_wn T e p = (jy_wn 272 : Int) from w272), if_pos rfl]
  have z := z272
  have h := z.1
  refine jE.bd (jx12_isHere (c := 273) (Or.inr (by omega)) (by first | exact h | exact z.1)) (by decide) (fun τ273 f273 z273 => ?_)
  clear h
  by_cases w273 : jq_wn T e p = 16
  · rw [if_pos (show jq_wn T e p = (jy_wn 273 : Int) from w273), if_neg (by decide), w273]
    exact jE.ret z273
  rw [if_neg (show ¬ jq_wn T e p = (jy_wn 273 : Int) from w273), if_pos rfl]
  have z := z273
  have h := z.1
  refine jE.bd (jx12_isHere (c := 274) (Or.inr (by omega)) (by first | exact h | exact z.1)) (by decide) (fun τ274 f274 z274 => ?_)
  clear h
  by_cases w274 : jq_wn T e p = 17
  · rw [if_pos (show jq_wn T e p = (jy_wn 274 : Int) from w274), if_neg (by decide), w274]
    exact jE.ret z274
  rw [if_neg (show ¬ jq_wn T e p = (jy_wn 274 : Int) from w274), if_pos rfl]
  have z := z274
  have h := z.1
  refine jE.bd (jx12_isHere (c := 275) (Or.inr (by omega)) (by first | exact h | exact z.1)) (by decide) (fun τ275 f275 z275 => ?_)
  clear h
  by_cases w275 : jq_wn T e p = 18
  · rw [if_pos (show jq_wn T e p = (jy_wn 275 : Int) from w275), if_neg (by decide), w275]
    exact jE.ret z275
  rw [if_neg (show ¬ jq_wn T e p = (jy_wn 275 : Int) from w275), if_pos rfl]
  have z := z275
  have h := z.1
  refine jE.bd (jx12_isHere (c := 276) (Or.inr (by omega)) (by first | exact h | exact z.1)) (by decide) (fun τ276 f276 z276 => ?_)
  clear h
  by_cases w276 : jq_wn T e p = 3
  · rw [if_pos (show jq_wn T e p = (jy_wn 276 : Int) from w276), if_neg (by decide), w276]
    exact jE.ret z276
  rw [if_neg (show ¬ jq_wn T e p = (jy_wn 276 : Int) from w276), if_pos rfl]
  have z := z276
  have h := z.1
  refine jE.bd (jx12_isHere (c := 277) (Or.inr (by omega)) (by first | exact h | exact z.1)) (by decide) (fun τ277 f277 z277 => ?_)
  clear h
  by_cases w277 : jq_wn T e p = 21
  · rw [if_pos (show jq_wn T e p = (jy_wn 277 : Int) from w277), if_neg (by decide), w277]
    exact jE.ret z277
  rw [if_neg (show ¬ jq_wn T e p = (jy_wn 277 : Int) from w277), if_pos rfl]
  have z := z277
  have h := z.1
  refine jE.bd (jx12_isHere (c := 278) (Or.inr (by omega)) (by first | exact h | exact z.1)) (by decide) (fun τ278 f278 z278 => ?_)
  clear h
  by_cases w278 : jq_wn T e p = 22
  · rw [if_pos (show jq_wn T e p = (jy_wn 278 : Int) from w278), if_neg (by decide), w278]
    exact jE.ret z278
  rw [if_neg (show ¬ jq_wn T e p = (jy_wn 278 : Int) from w278), if_pos rfl]
  have z := z278
  have h := z.1
  refine jE.bd (jx12_isHere (c := 279) (Or.inr (by omega)) (by first | exact h | exact z.1)) (by decide) (fun τ279 f279 z279 => ?_)
  clear h
  by_cases w279 : jq_wn T e p = 23
  · rw [if_pos (show jq_wn T e p = (jy_wn 279 : Int) from w279), if_neg (by decide), w279]
    exact jE.ret z279
  rw [if_neg (show ¬ jq_wn T e p = (jy_wn 279 : Int) from w279), if_pos rfl]
  have z := z279
  have h := z.1
  refine jE.bd (jx12_isHere (c := 280) (Or.inr (by omega)) (by first | exact h | exact z.1)) (by decide) (fun τ280 f280 z280 => ?_)
  clear h
  by_cases w280 : jq_wn T e p = 24
  · rw [if_pos (show jq_wn T e p = (jy_wn 280 : Int) from w280), if_neg (by decide), w280]
    exact jE.ret z280
  rw [if_neg (show ¬ jq_wn T e p = (jy_wn 280 : Int) from w280), if_pos rfl]
  have z := z280
  have h := z.1
  refine jE.bd (jx12_isHere (c := 281) (Or.inr (by omega)) (by first | exact h | exact z.1)) (by decide) (fun τ281 f281 z281 => ?_)
  clear h
  by_cases w281 : jq_wn T e p = 25
  · rw [if_pos (show jq_wn T e p = (jy_wn 281 : Int) from w281), if_neg (by decide), w281]
    exact jE.ret z281
  rw [if_neg (show ¬ jq_wn T e p = (jy_wn 281 : Int) from w281), if_pos rfl]
  have z := z281
  have h := z.1
  rw [jy_k, if_neg w270, if_neg w271, if_neg w272, if_neg w273, if_neg w274, if_neg w275, if_neg w276, if_neg w277, if_neg w278, if_neg w279, if_neg w280, if_neg w281]
  exact jE.ret z281
def jy_wo (kind : Nat) (w from_ to_ : Int) : Int := if from_ ≤ jy_k w ∧ jy_k w < to_ ∧ jq_al kind w = true then jy_k w else -1
theorem jy_k_cases (w : Int) : jy_k w = -1 ∨ w = 19 ∨ w = 20 ∨ w = 15 ∨ w = 16 ∨ w = 17 ∨ w = 18 ∨ w = 3 ∨ w = 21 ∨ w = 22 ∨ w = 23 ∨ w = 24 ∨ w = 25 := by
  unfold jy_k
  repeat' (split; omega)
  omega
theorem jx12_wordOf {T : Nat → Int} {e p kind : Nat} {lo hi : Int} {s : jl_Mm} (h : jy_L T e p s) (hk : jl_g s 206 55 = (kind : Int)) (hk4 : kind < 4) (hlo : 0 ≤ lo) (hhi : hi ≤ 12) : jE (jf_X12_qWordOf lo hi s) (jy_wo kind (jq_wn T e p) lo hi) [(206, 2, 3)] s (fun τ => jy_L T e p τ ∧ jl_g τ 206 2 = (p : Int) ∧ jy_E T p (jl_g τ 206 4)) := by
  rw [jf_X12_qWordOf]
  refine jE.bd (jx12_wordHere h) (by decide) (fun τ f z => ?_)
  generalize jq_wn T e p = w
  have hk' : jl_g τ 206 55 = (kind : Int) := (f.g _ _ rfl).trans hk
  simp only [jf_X12_qWordOf_B27, jf_X12_qWordOf_B28]
  rw [jy_wo]
  by_cases h1 : jy_k w < lo
  · rw [if_pos h1, if_neg (by omega)]
    exact jE.ret z
  · rw [if_neg h1]
    by_cases h2 : hi ≤ jy_k w
    · rw [if_pos h2, if_neg (by omega)]
      exact jE.ret z
    · rw [if_neg h2, jx12_allowed hk' hk4 ⟨by omega, by omega⟩, jp_bd]
      have e1 : jy_aw kind (jy_k w) = jq_al kind w := by
        have hk5 : kind = 0 ∨ kind = 1 ∨ kind = 2 ∨ kind = 3 := by omega
        rcases jy_k_cases w with q | rfl | rfl | rfl | rfl | rfl | rfl | rfl | rfl | rfl | rfl | rfl | rfl
        · omega
        all_goals (rcases hk5 with rfl | rfl | rfl | rfl <;> rfl)
      rw [e1]
      by_cases h3 : jq_al kind w = true
      · rw [if_pos h3, if_neg (by decide), if_pos ⟨by omega, by omega, h3⟩]
        exact jE.ret z
      · rw [if_neg h3, if_pos rfl, if_neg (fun q => h3 q.2.2)]
        exact jE.ret z
theorem jx12_asksWord {T : Nat → Int} {e p : Nat} {s : jl_Mm} (h : jy_L T e p s) (hk : jy_k (jq_wn T e p) ≠ -1) : jE (jf_X12_qAsksWord (jy_k (jq_wn T e p)) s) 0 [(206, 2, 3), (206, 4, 5), (206, 5, 7)] s (fun τ => jy_L T e (jq_sk T e (jq_we T e p)) τ) := by
  have key : ∀ c, (270 ≤ c ∧ c < 282) → jq_wn T e p = (jy_wn c : Int) → jE (jf_X12_asks c s) 0 [(206, 2, 3), (206, 4, 5), (206, 5, 7)] s (fun τ => jy_L T e (jq_sk T e (jq_we T e p)) τ) := by
    intro c hc hw
    exact jE.mono (jx12_asks (Or.inr (by omega)) h) (by decide) (fun τ _ z => z.1 hw)
  rw [jf_X12_qAsksWord]
  simp only [jf_X12_qAsksWord_B189]
  generalize hw : jq_wn T e p = w at *
  rcases jy_k_cases w with q | rfl | rfl | rfl | rfl | rfl | rfl | rfl | rfl | rfl | rfl | rfl | rfl
  · exact absurd q hk
  · exact jE.bd (key 270 (by omega) rfl) (by decide) (fun τ _ z => jE.ret z)
  · exact jE.bd (key 271 (by omega) rfl) (by decide) (fun τ _ z => jE.ret z)
  · exact jE.bd (key 272 (by omega) rfl) (by decide) (fun τ _ z => jE.ret z)
  · exact jE.bd (key 273 (by omega) rfl) (by decide) (fun τ _ z => jE.ret z)
  · exact jE.bd (key 274 (by omega) rfl) (by decide) (fun τ _ z => jE.ret z)
  · exact jE.bd (key 275 (by omega) rfl) (by decide) (fun τ _ z => jE.ret z)
  · exact jE.bd (key 276 (by omega) rfl) (by decide) (fun τ _ z => jE.ret z)
  · exact jE.bd (key 277 (by omega) rfl) (by decide) (fun τ _ z => jE.ret z)
  · exact jE.bd (key 278 (by omega) rfl) (by decide) (fun τ _ z => jE.ret z)
  · exact jE.bd (key 279 (by omega) rfl) (by decide) (fun τ _ z => jE.ret z)
  · exact jE.bd (key 280 (by omega) rfl) (by decide) (fun τ _ z => jE.ret z)
  · exact jE.bd (key 281 (by omega) rfl) (by decide) (fun τ _ z => jE.ret z)
