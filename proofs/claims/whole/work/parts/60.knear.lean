/-! PURE, both: near, lit in a window, of a person, lit at all, what hangs -/
def ks_nearP (Z : jz_Z) (a : Nat → Int) (l k : Nat) : Bool := decide (k ≠ l ∧ 0 < a (8 + k) ∧ -1 ≤ a (2 + ks_ow Z k) - a (2 + ks_ow Z l) ∧ a (2 + ks_ow Z k) - a (2 + ks_ow Z l) ≤ 1)
def ks_near (Z : jz_Z) (a : Nat → Int) (l : Nat) : Int := ku_n (ks_nearP Z a l) (ks_nl Z)
def ks_inP (Z : jz_Z) (a : Nat → Int) (w : Int) (k : Nat) : Bool := decide (0 < a (8 + k) ∧ a (2 + ks_ow Z k) = w)
def ks_in (Z : jz_Z) (a : Nat → Int) (w : Int) : Int := ku_n (ks_inP Z a w) (ks_nl Z)
def ks_ofP (Z : jz_Z) (a : Nat → Int) (p : Int) (k : Nat) : Bool := decide (0 < a (8 + k) ∧ ((ks_ow Z k : Nat) : Int) = p)
def ks_of (Z : jz_Z) (a : Nat → Int) (p : Int) : Int := ku_n (ks_ofP Z a p) (ks_nl Z)
def ks_litP (a : Nat → Int) (k : Nat) : Bool := decide (0 < a (8 + k))
theorem kc_near {H q : Nat} {Z : jz_Z} {a : Nat → Int} {s : jl_Mm} (hq : kc_q q) (hW : kc_W H Z s) (hV : ks_V Z a) (hA : kc_A (ks_np Z) q a s) {l : Nat} (hl : l < ks_nl Z) : jf_X5_nearTo q (l : Int) s = some (ks_near Z a l, s) := by
  have hn := hW.1.l
  have hw := hW.1.w
  obtain ⟨A0, A1, A2, A3, A4⟩ := hA
  have ol := hW.1.o hl
  have hb := hV.2.2.1 _ ol.2.1
  rw [jf_X5_nearTo, if_pos (kc_q7 hq)]
  simp (disch := omega) only [if_true, if_false, if_pos, if_neg, jp_bd, jp_lm, jp_let, jp_zb0, jp_zb1, jp_add, jp_sub, ku_s, Int.toNat_natCast, hW.gH, hW.gr, hW.o hl, A2]
  refine ku_forU (G := fun n k => jf_X5_nearTo_L21 n q (l : Int) (a (2 + ks_ow Z l)) (ku_n (ks_nearP Z a l) k) ((k : Nat) : Int) s) (N := ks_nl Z) (fun n k hk => ?_) (fun n => ?_) (ks_nl Z) 0 jl_fu (Nat.zero_add _) (by show ks_nl Z < 4000; omega)
  · have ok := hW.1.o hk
    have hc := hV.2.2.1 _ ok.2.1
    have hg := ku_n_ge (ks_nearP Z a l) k
    by_cases c1 : k = l
    · have hp : ks_nearP Z a l k = false := decide_eq_false (by omega)
      simp (disch := omega) only [if_true, if_false, if_pos, if_neg, jp_bd, jp_lm, jp_let, jp_zb0, jp_zb1, jp_add, jp_sub, ku_s, Int.toNat_natCast, jf_X5_nearTo_L21, jf_X5_nearTo_B83, hW.gH, hW.gr, hW.n3, ku_nF hp]
    · by_cases c2 : 0 < a (8 + k)
      · by_cases c3 : a (2 + ks_ow Z k) - a (2 + ks_ow Z l) < -1
        · have hp : ks_nearP Z a l k = false := decide_eq_false (by omega)
          simp (disch := omega) only [if_true, if_false, if_pos, if_neg, jp_bd, jp_lm, jp_let, jp_zb0, jp_zb1, jp_add, jp_sub, ku_s, Int.toNat_natCast, jf_X5_nearTo_L21, jf_X5_nearTo_B83, hW.gH, hW.gr, hW.n3, hW.o hk, A2, A3, ku_nF hp]
        · by_cases c4 : 1 < a (2 + ks_ow Z k) - a (2 + ks_ow Z l)
          · have hp : ks_nearP Z a l k = false := decide_eq_false (by omega)
            simp (disch := omega) only [if_true, if_false, if_pos, if_neg, jp_bd, jp_lm, jp_let, jp_zb0, jp_zb1, jp_add, jp_sub, ku_s, Int.toNat_natCast, jf_X5_nearTo_L21, jf_X5_nearTo_B83, hW.gH, hW.gr, hW.n3, hW.o hk, A2, A3, ku_nF hp]
          · have hp : ks_nearP Z a l k = true := decide_eq_true (by omega)
            simp (disch := omega) only [if_true, if_false, if_pos, if_neg, jp_bd, jp_lm, jp_let, jp_zb0, jp_zb1, jp_add, jp_sub, ku_s, Int.toNat_natCast, jf_X5_nearTo_L21, jf_X5_nearTo_B83, hW.gH, hW.gr, hW.n3, hW.o hk, A2, A3, ku_nT hp]
      · have hp : ks_nearP Z a l k = false := decide_eq_false (by omega)
        simp (disch := omega) only [if_true, if_false, if_pos, if_neg, jp_bd, jp_lm, jp_let, jp_zb0, jp_zb1, jp_add, jp_sub, ku_s, Int.toNat_natCast, jf_X5_nearTo_L21, jf_X5_nearTo_B83, hW.gH, hW.gr, hW.n3, A3, ku_nF hp]
  · simp (disch := omega) only [if_true, if_false, if_pos, if_neg, jp_bd, jp_lm, jp_let, jp_zb0, jp_zb1, jp_add, jp_sub, ku_s, Int.toNat_natCast, jf_X5_nearTo_L21, hW.gH, hW.gr, hW.n3, Int.le_refl, ks_near]
theorem kr_near {Z : jz_Z} {a : Nat → Int} {s : jl_Mm} (hW : kr_W Z s) (hV : ks_V Z a) (hA : kr_A a s) {l : Nat} (hl : l < ks_nl Z) : jf_X12_nearTo (l : Int) s = some (ks_near Z a l, s) := by
  have hn := hW.1.l
  have hw := hW.1.w
  have ol := hW.1.o hl
  have hb := hV.2.2.1 _ ol.2.1
  rw [jf_X12_nearTo]
  refine ku_forU (G := fun n k => jf_X12_nearTo_L4 n (l : Int) (ku_n (ks_nearP Z a l) k) ((k : Nat) : Int) s) (N := ks_nl Z) (fun n k hk => ?_) (fun n => ?_) (ks_nl Z) 0 jl_fu (Nat.zero_add _) (by show ks_nl Z < 4000; omega)
  · have ok := hW.1.o hk
    have hc := hV.2.2.1 _ ok.2.1
    have hg := ku_n_ge (ks_nearP Z a l) k
    have hI : ∀ v, jl_n3 v → jf_X12_isIn v (-1) 1 s = some (if -1 ≤ v ∧ v ≤ 1 then 1 else 0, s) := fun v h => jx12_isIn s (jl_n36 h) ⟨by decide, by decide⟩ ⟨by decide, by decide⟩
    by_cases c1 : k = l
    · have hp : ks_nearP Z a l k = false := decide_eq_false (by omega)
      simp (disch := omega) only [if_true, if_false, if_pos, if_neg, jp_bd, jp_lm, jp_let, jp_zb0, jp_zb1, jp_add, jp_sub, ku_s, Int.toNat_natCast, jf_X12_nearTo_L4, jf_X12_nearTo_B50, hW.nl, ku_nF hp]
    · by_cases c2 : 0 < a (8 + k)
      · have e : jl_sub (a (2 + ks_ow Z k)) (a (2 + ks_ow Z l)) = a (2 + ks_ow Z k) - a (2 + ks_ow Z l) := jp_sub (by omega) (by omega)
        by_cases c3 : -1 ≤ a (2 + ks_ow Z k) - a (2 + ks_ow Z l) ∧ a (2 + ks_ow Z k) - a (2 + ks_ow Z l) ≤ 1
        · have hp : ks_nearP Z a l k = true := decide_eq_true (by omega)
          simp (disch := omega) only [if_true, if_false, if_pos, if_neg, jp_bd, jp_lm, jp_let, jp_zb0, jp_zb1, jp_add, jp_sub, ku_s, Int.toNat_natCast, jf_X12_nearTo_L4, jf_X12_nearTo_B50, hW.nl, hA.lit, kr_win hW hA hk, kr_win hW hA hl, e, hI _ ⟨(by omega : -2147483648 ≤ a (2 + ks_ow Z k) - a (2 + ks_ow Z l)), by omega⟩, ku_nT hp]
        · have hp : ks_nearP Z a l k = false := decide_eq_false (by omega)
          simp (disch := omega) only [if_true, if_false, if_pos, if_neg, jp_bd, jp_lm, jp_let, jp_zb0, jp_zb1, jp_add, jp_sub, ku_s, Int.toNat_natCast, jf_X12_nearTo_L4, jf_X12_nearTo_B50, hW.nl, hA.lit, kr_win hW hA hk, kr_win hW hA hl, e, hI _ ⟨(by omega : -2147483648 ≤ a (2 + ks_ow Z k) - a (2 + ks_ow Z l)), by omega⟩, ku_nF hp]
      · have hp : ks_nearP Z a l k = false := decide_eq_false (by omega)
        simp (disch := omega) only [if_true, if_false, if_pos, if_neg, jp_bd, jp_lm, jp_let, jp_zb0, jp_zb1, jp_add, jp_sub, ku_s, Int.toNat_natCast, jf_X12_nearTo_L4, jf_X12_nearTo_B50, hW.nl, hA.lit, ku_nF hp]
  · simp (disch := omega) only [if_true, if_false, if_pos, if_neg, jp_bd, jp_lm, jp_let, jp_zb0, jp_zb1, jp_add, jp_sub, ku_s, Int.toNat_natCast, jf_X12_nearTo_L4, hW.nl, Int.le_refl, ks_near]
theorem kc_in {H q : Nat} {Z : jz_Z} {a : Nat → Int} {s : jl_Mm} (hq : kc_q q) (hW : kc_W H Z s) (hA : kc_A (ks_np Z) q a s) (w : Int) : jf_X5_litIn q w s = some (ks_in Z a w, s) := by
  have hn := hW.1.l
  obtain ⟨A0, A1, A2, A3, A4⟩ := hA
  rw [jf_X5_litIn, if_pos (kc_q7 hq)]
  refine ku_forU (G := fun n k => jf_X5_litIn_L5 n q w (ku_n (ks_inP Z a w) k) ((k : Nat) : Int) s) (N := ks_nl Z) (fun n k hk => ?_) (fun n => ?_) (ks_nl Z) 0 jl_fu (Nat.zero_add _) (by show ks_nl Z < 4000; omega)
  · have ok := hW.1.o hk
    have hg := ku_n_ge (ks_inP Z a w) k
    by_cases c2 : 0 < a (8 + k)
    · by_cases c3 : a (2 + ks_ow Z k) = w
      · have hp : ks_inP Z a w k = true := decide_eq_true ⟨c2, c3⟩
        simp (disch := omega) only [if_true, if_false, if_pos, if_neg, jp_bd, jp_lm, jp_let, jp_zb0, jp_zb1, jp_add, jp_sub, ku_s, Int.toNat_natCast, jf_X5_litIn_L5, jf_X5_litIn_B49, hW.gH, hW.gr, hW.n3, hW.o hk, A2, A3, ku_nT hp]
      · have hp : ks_inP Z a w k = false := decide_eq_false (fun z => c3 z.2)
        simp (disch := omega) only [if_true, if_false, if_pos, if_neg, jp_bd, jp_lm, jp_let, jp_zb0, jp_zb1, jp_add, jp_sub, ku_s, Int.toNat_natCast, jf_X5_litIn_L5, jf_X5_litIn_B49, hW.gH, hW.gr, hW.n3, hW.o hk, A2, A3, ku_nF hp]
    · have hp : ks_inP Z a w k = false := decide_eq_false (fun z => c2 z.1)
      simp (disch := omega) only [if_true, if_false, if_pos, if_neg, jp_bd, jp_lm, jp_let, jp_zb0, jp_zb1, jp_add, jp_sub, ku_s, Int.toNat_natCast, jf_X5_litIn_L5, jf_X5_litIn_B49, hW.gH, hW.gr, hW.n3, A3, ku_nF hp]
  · simp (disch := omega) only [if_true, if_false, if_pos, if_neg, jp_bd, jp_lm, jp_let, jp_zb0, jp_zb1, jp_add, jp_sub, ku_s, Int.toNat_natCast, jf_X5_litIn_L5, hW.gH, hW.gr, hW.n3, Int.le_refl, ks_in]
theorem kr_inW {Z : jz_Z} {a : Nat → Int} {s : jl_Mm} (hW : kr_W Z s) (hA : kr_A a s) (w : Int) : jf_X12_litIn w s = some (ks_in Z a w, s) := by
  have hn := hW.1.l
  rw [jf_X12_litIn]
  refine ku_forU (G := fun n k => jf_X12_litIn_L4 n w (ku_n (ks_inP Z a w) k) ((k : Nat) : Int) s) (N := ks_nl Z) (fun n k hk => ?_) (fun n => ?_) (ks_nl Z) 0 jl_fu (Nat.zero_add _) (by show ks_nl Z < 4000; omega)
  · have hg := ku_n_ge (ks_inP Z a w) k
    by_cases c2 : 0 < a (8 + k)
    · by_cases c3 : a (2 + ks_ow Z k) = w
      · have hp : ks_inP Z a w k = true := decide_eq_true ⟨c2, c3⟩
        simp (disch := omega) only [if_true, if_false, if_pos, if_neg, jp_bd, jp_lm, jp_let, jp_zb0, jp_zb1, jp_add, jp_sub, ku_s, Int.toNat_natCast, jf_X12_litIn_L4, jf_X12_litIn_B32, hW.nl, hA.lit, kr_win hW hA hk, ku_nT hp]
      · have hp : ks_inP Z a w k = false := decide_eq_false (fun z => c3 z.2)
        simp (disch := omega) only [if_true, if_false, if_pos, if_neg, jp_bd, jp_lm, jp_let, jp_zb0, jp_zb1, jp_add, jp_sub, ku_s, Int.toNat_natCast, jf_X12_litIn_L4, jf_X12_litIn_B32, hW.nl, hA.lit, kr_win hW hA hk, ku_nF hp]
    · have hp : ks_inP Z a w k = false := decide_eq_false (fun z => c2 z.1)
      simp (disch := omega) only [if_true, if_false, if_pos, if_neg, jp_bd, jp_lm, jp_let, jp_zb0, jp_zb1, jp_add, jp_sub, ku_s, Int.toNat_natCast, jf_X12_litIn_L4, jf_X12_litIn_B32, hW.nl, hA.lit, ku_nF hp]
  · simp (disch := omega) only [if_true, if_false, if_pos, if_neg, jp_bd, jp_lm, jp_let, jp_zb0, jp_zb1, jp_add, jp_sub, ku_s, Int.toNat_natCast, jf_X12_litIn_L4, hW.nl, Int.le_refl, ks_in]
theorem kc_of {H q : Nat} {Z : jz_Z} {a : Nat → Int} {s : jl_Mm} (hq : kc_q q) (hW : kc_W H Z s) (hA : kc_A (ks_np Z) q a s) (p : Int) : jf_X5_litOf q p s = some (ks_of Z a p, s) := by
  have hn := hW.1.l
  obtain ⟨A0, A1, A2, A3, A4⟩ := hA
  rw [jf_X5_litOf, if_pos (kc_q7 hq)]
  refine ku_forU (G := fun n k => jf_X5_litOf_L5 n q p (ku_n (ks_ofP Z a p) k) ((k : Nat) : Int) s) (N := ks_nl Z) (fun n k hk => ?_) (fun n => ?_) (ks_nl Z) 0 jl_fu (Nat.zero_add _) (by show ks_nl Z < 4000; omega)
  · have hg := ku_n_ge (ks_ofP Z a p) k
    by_cases c3 : ((ks_ow Z k : Nat) : Int) = p
    · by_cases c2 : 0 < a (8 + k)
      · have hp : ks_ofP Z a p k = true := decide_eq_true ⟨c2, c3⟩
        simp (disch := omega) only [if_true, if_false, if_pos, if_neg, jp_bd, jp_lm, jp_let, jp_zb0, jp_zb1, jp_add, jp_sub, ku_s, Int.toNat_natCast, jf_X5_litOf_L5, jf_X5_litOf_B44, hW.gH, hW.gr, hW.n3, hW.o hk, A3, ku_nT hp]
      · have hp : ks_ofP Z a p k = false := decide_eq_false (fun z => c2 z.1)
        simp (disch := omega) only [if_true, if_false, if_pos, if_neg, jp_bd, jp_lm, jp_let, jp_zb0, jp_zb1, jp_add, jp_sub, ku_s, Int.toNat_natCast, jf_X5_litOf_L5, jf_X5_litOf_B44, hW.gH, hW.gr, hW.n3, hW.o hk, A3, ku_nF hp]
    · have hp : ks_ofP Z a p k = false := decide_eq_false (fun z => c3 z.2)
      simp (disch := omega) only [if_true, if_false, if_pos, if_neg, jp_bd, jp_lm, jp_let, jp_zb0, jp_zb1, jp_add, jp_sub, ku_s, Int.toNat_natCast, jf_X5_litOf_L5, jf_X5_litOf_B44, hW.gH, hW.gr, hW.n3, hW.o hk, ku_nF hp]
  · simp (disch := omega) only [if_true, if_false, if_pos, if_neg, jp_bd, jp_lm, jp_let, jp_zb0, jp_zb1, jp_add, jp_sub, ku_s, Int.toNat_natCast, jf_X5_litOf_L5, hW.gH, hW.gr, hW.n3, Int.le_refl, ks_of]
theorem kr_of {Z : jz_Z} {a : Nat → Int} {s : jl_Mm} (hW : kr_W Z s) (hA : kr_A a s) (p : Int) : jf_X12_litOf p s = some (ks_of Z a p, s) := by
  have hn := hW.1.l
  rw [jf_X12_litOf]
  refine ku_forU (G := fun n k => jf_X12_litOf_L4 n p (ku_n (ks_ofP Z a p) k) ((k : Nat) : Int) s) (N := ks_nl Z) (fun n k hk => ?_) (fun n => ?_) (ks_nl Z) 0 jl_fu (Nat.zero_add _) (by show ks_nl Z < 4000; omega)
  · have hg := ku_n_ge (ks_ofP Z a p) k
    by_cases c2 : 0 < a (8 + k)
    · by_cases c3 : ((ks_ow Z k : Nat) : Int) = p
      · have hp : ks_ofP Z a p k = true := decide_eq_true ⟨c2, c3⟩
        simp (disch := omega) only [if_true, if_false, if_pos, if_neg, jp_bd, jp_lm, jp_let, jp_zb0, jp_zb1, jp_add, jp_sub, ku_s, Int.toNat_natCast, jf_X12_litOf_L4, jf_X12_litOf_B32, hW.nl, hA.lit, hW.o hk, ku_nT hp]
      · have hp : ks_ofP Z a p k = false := decide_eq_false (fun z => c3 z.2)
        simp (disch := omega) only [if_true, if_false, if_pos, if_neg, jp_bd, jp_lm, jp_let, jp_zb0, jp_zb1, jp_add, jp_sub, ku_s, Int.toNat_natCast, jf_X12_litOf_L4, jf_X12_litOf_B32, hW.nl, hA.lit, hW.o hk, ku_nF hp]
    · have hp : ks_ofP Z a p k = false := decide_eq_false (fun z => c2 z.1)
      simp (disch := omega) only [if_true, if_false, if_pos, if_neg, jp_bd, jp_lm, jp_let, jp_zb0, jp_zb1, jp_add, jp_sub, ku_s, Int.toNat_natCast, jf_X12_litOf_L4, jf_X12_litOf_B32, hW.nl, hA.lit, ku_nF hp]
  · simp (disch := omega) only [if_true, if_false, if_pos, if_neg, jp_bd, jp_lm, jp_let, jp_zb0, jp_zb1, jp_add, jp_sub, ku_s, Int.toNat_natCast, jf_X12_litOf_L4, hW.nl, Int.le_refl, ks_of]
theorem kc_lits {H q : Nat} {Z : jz_Z} {a : Nat → Int} {s : jl_Mm} (hq : kc_q q) (hW : kc_W H Z s) (hA : kc_A (ks_np Z) q a s) : jf_X5_litLies q s = some (ku_b (ks_litP a) (ks_nl Z), s) := by
  have hn := hW.1.l
  obtain ⟨A0, A1, A2, A3, A4⟩ := hA
  rw [jf_X5_litLies, if_pos (kc_q7 hq)]
  refine ku_forU (G := fun n k => jf_X5_litLies_L4 n q (ku_b (ks_litP a) k) ((k : Nat) : Int) s) (N := ks_nl Z) (fun n k hk => ?_) (fun n => ?_) (ks_nl Z) 0 jl_fu (Nat.zero_add _) (by show ks_nl Z < 4000; omega)
  · by_cases c2 : 0 < a (8 + k)
    · have hp : ks_litP a k = true := decide_eq_true c2
      simp (disch := omega) only [if_true, if_false, if_pos, if_neg, jp_bd, jp_lm, jp_let, jp_zb0, jp_zb1, jp_add, jp_sub, ku_s, Int.toNat_natCast, jf_X5_litLies_L4, jf_X5_litLies_B30, hW.gH, hW.gr, hW.n3, A3, ku_bT hp]
    · have hp : ks_litP a k = false := decide_eq_false c2
      simp (disch := omega) only [if_true, if_false, if_pos, if_neg, jp_bd, jp_lm, jp_let, jp_zb0, jp_zb1, jp_add, jp_sub, ku_s, Int.toNat_natCast, jf_X5_litLies_L4, jf_X5_litLies_B30, hW.gH, hW.gr, hW.n3, A3, ku_bF hp]
  · simp (disch := omega) only [if_true, if_false, if_pos, if_neg, jp_bd, jp_lm, jp_let, jp_zb0, jp_zb1, jp_add, jp_sub, ku_s, Int.toNat_natCast, jf_X5_litLies_L4, hW.gH, hW.gr, hW.n3, Int.le_refl]
theorem kr_litM {Z : jz_Z} {a : Nat → Int} {s : jl_Mm} (hW : kr_W Z s) (hA : kr_A a s) : jf_X12_litMany s = some (ku_n (ks_litP a) (ks_nl Z), s) := by
  have hn := hW.1.l
  rw [jf_X12_litMany]
  refine ku_forU (G := fun n k => jf_X12_litMany_L4 n (ku_n (ks_litP a) k) ((k : Nat) : Int) s) (N := ks_nl Z) (fun n k hk => ?_) (fun n => ?_) (ks_nl Z) 0 jl_fu (Nat.zero_add _) (by show ks_nl Z < 4000; omega)
  · have hg := ku_n_ge (ks_litP a) k
    by_cases c2 : 0 < a (8 + k)
    · have hp : ks_litP a k = true := decide_eq_true c2
      simp (disch := omega) only [if_true, if_false, if_pos, if_neg, jp_bd, jp_lm, jp_let, jp_zb0, jp_zb1, jp_add, jp_sub, ku_s, Int.toNat_natCast, jf_X12_litMany_L4, jf_X12_litMany_B23, hW.nl, hA.lit, ku_nT hp]
    · have hp : ks_litP a k = false := decide_eq_false c2
      simp (disch := omega) only [if_true, if_false, if_pos, if_neg, jp_bd, jp_lm, jp_let, jp_zb0, jp_zb1, jp_add, jp_sub, ku_s, Int.toNat_natCast, jf_X12_litMany_L4, jf_X12_litMany_B23, hW.nl, hA.lit, ku_nF hp]
  · simp (disch := omega) only [if_true, if_false, if_pos, if_neg, jp_bd, jp_lm, jp_let, jp_zb0, jp_zb1, jp_add, jp_sub, ku_s, Int.toNat_natCast, jf_X12_litMany_L4, hW.nl, Int.le_refl]
