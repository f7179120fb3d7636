/-! PURE, the class's reader: bytes, words, numbers -/
/-- the tape of the class holds the e bytes T -/
def jq_P (T : Nat → Int) (e : Nat) (s : jl_Mm) : Prop := e ≤ 1600 ∧ jl_g s 1 1 = (e : Int) ∧ ∀ i, i < e → jl_g s 2 i = T i
theorem jq_P.fr {T : Nat → Int} {e : Nat} {s τ : jl_Mm} {F : jp_F} (h : jq_P T e s) (f : jp_fr F s τ) (w : jp_in F 1 1 = false) (w2 : ∀ i, jp_in F 2 i = false) : jq_P T e τ :=
  ⟨h.1, (f.g 1 1 w).trans h.2.1, fun i hi => (f.g 2 i (w2 i)).trans (h.2.2 i hi)⟩
theorem jx4_letter (c : Int) (s : jl_Mm) : jf_X4_isLetter c s = some (if jq_lt c then 1 else 0, s) := by
  by_cases h1 : c < 97 <;> by_cases h2 : 122 < c <;> simp only [jf_X4_isLetter, jf_X4_isLetter_B16, jf_X4_isLetter_B17] <;> simp (disch := omega) only [if_pos, if_neg, jp_bd, jp_lm, jp_let, jp_zb0, jp_zb1, jp_add, jp_sub, jp_g_eq, jp_g_eqg, jp_g_ne, jp_g_nei, jp_r_ne, jp_r_nei, Int.toNat_natCast] <;> (exfalso; omega)
theorem jx4_digit (c : Int) (s : jl_Mm) : jf_X4_isDigit c s = some (if jq_dg c then 1 else 0, s) := by
  by_cases h1 : c < 48 <;> by_cases h2 : 57 < c <;> simp only [jf_X4_isDigit, jf_X4_isDigit_B16, jf_X4_isDigit_B17] <;> simp (disch := omega) only [if_pos, if_neg, jp_bd, jp_lm, jp_let, jp_zb0, jp_zb1, jp_add, jp_sub, jp_g_eq, jp_g_eqg, jp_g_ne, jp_g_nei, jp_r_ne, jp_r_nei, Int.toNat_natCast] <;> (exfalso; omega)
theorem jx4_inWord (c : Int) (s : jl_Mm) : jf_X4_isInWord c s = some (if jq_iw c then 1 else 0, s) := by
  by_cases h1 : c < 97 <;> by_cases h2 : 122 < c <;> by_cases h3 : c < 48 <;> by_cases h4 : 57 < c <;> simp only [jf_X4_isInWord, jf_X4_isInWord_B12, jf_X4_isInWord_B24, jf_X4_isInWord_B28, jf_X4_isInWord_B29] <;> simp (disch := omega) only [if_pos, if_neg, jp_bd, jp_lm, jp_let, jp_zb0, jp_zb1, jp_add, jp_sub, jp_g_eq, jp_g_eqg, jp_g_ne, jp_g_nei, jp_r_ne, jp_r_nei, Int.toNat_natCast] <;> (exfalso; omega)
theorem jx10_byteAt {T : Nat → Int} {e : Nat} {s : jl_Mm} (hP : jq_P T e s) (v : Int) : jf_X10_byteAt v s = some (if 0 ≤ v ∧ v < (e : Int) then T v.toNat else -1, s) := by
  obtain ⟨he, h1, hT⟩ := hP
  by_cases h2 : v < 0
  · simp only [jf_X10_byteAt, jf_X10_byteAt_B21, jf_X10_byteAt_B22]
    simp (disch := omega) only [if_pos, if_neg, jp_bd, jp_lm, jp_let, jp_zb0, jp_zb1, jp_add, jp_sub, jp_g_eq, jp_g_eqg, jp_g_ne, jp_g_nei, jp_r_ne, jp_r_nei, Int.toNat_natCast]
  · by_cases h3 : (e : Int) ≤ v
    · simp only [jf_X10_byteAt, jf_X10_byteAt_B21, jf_X10_byteAt_B22, h1]
      simp (disch := omega) only [if_pos, if_neg, jp_bd, jp_lm, jp_let, jp_zb0, jp_zb1, jp_add, jp_sub, jp_g_eq, jp_g_eqg, jp_g_ne, jp_g_nei, jp_r_ne, jp_r_nei, Int.toNat_natCast]
    · simp only [jf_X10_byteAt, jf_X10_byteAt_B21, jf_X10_byteAt_B22, h1]
      simp (disch := omega) only [if_pos, if_neg, jp_bd, jp_lm, jp_let, jp_zb0, jp_zb1, jp_add, jp_sub, jp_g_eq, jp_g_eqg, jp_g_ne, jp_g_nei, jp_r_ne, jp_r_nei, Int.toNat_natCast, hT v.toNat (by omega)]
theorem jx4_peekL {T : Nat → Int} {e : Nat} : ∀ (n a : Nat) (s : jl_Mm), jq_P T e s → a ≤ e → e - a < n → jl_g s 38 4 = (a : Int) → jE (jf_X4_peek_L0 n s) (jq_pk T e (jq_sk T e a)) [(38, 4, 5)] s (fun τ => jl_g τ 38 4 = ((jq_sk T e a : Nat) : Int)) := by
  intro n
  induction n with
  | zero => intro a s _ _ h; omega
  | succ n ih =>
    intro a s hP ha hn hat
    have ⟨he, h1, hT⟩ := hP
    by_cases h : a < e
    · have hTa := hT a h
      simp only [jf_X4_peek_L0, h1, hat]
      simp (disch := omega) only [if_pos, if_neg, jp_bd, jp_lm, jp_let, jp_zb0, jp_zb1, jp_add, jp_sub, jp_g_eq, jp_g_eqg, jp_g_ne, jp_g_nei, jp_r_ne, jp_r_nei, Int.toNat_natCast, hTa]
      by_cases hb : jq_bl (T a)
      · rw [jq_sk_step h hb]
        have z : jE (jf_X4_peek_B41 (jf_X4_peek_L0 n) s) (jq_pk T e (jq_sk T e (a + 1))) [(38, 4, 5)] s (fun τ => jl_g τ 38 4 = ((jq_sk T e (a + 1) : Nat) : Int)) := by
          simp only [jf_X4_peek_B41, hat]
          simp (disch := omega) only [if_pos, if_neg, jp_bd, jp_lm, jp_let, jp_zb0, jp_zb1, jp_add, jp_sub, jp_g_eq, jp_g_eqg, jp_g_ne, jp_g_nei, jp_r_ne, jp_r_nei, Int.toNat_natCast]
          refine jE.up rfl (ih (a + 1) _ (hP.fr (jp_fr.rf.up (F := [(38, 4, 5)]) rfl) rfl (fun _ => rfl)) (by omega) (by omega) ?_)
          simp (disch := omega) only [if_pos, if_neg, jp_bd, jp_lm, jp_let, jp_zb0, jp_zb1, jp_add, jp_sub, jp_g_eq, jp_g_eqg, jp_g_ne, jp_g_nei, jp_r_ne, jp_r_nei, Int.toNat_natCast]
          omega
        by_cases h32 : T a = 32
        · rw [if_pos h32]; exact z
        · rw [if_neg h32, if_pos (by rcases hb with q | q; exact absurd q h32; exact q)]; exact z
      · rw [if_neg (fun q => hb (Or.inl q)), if_neg (fun q => hb (Or.inr q)), jq_sk_stop hb, jq_pk_in h]
        exact jE.ret hat
    · simp only [jf_X4_peek_L0, h1, hat]
      simp (disch := omega) only [if_pos, if_neg, jp_bd, jp_lm, jp_let, jp_zb0, jp_zb1, jp_add, jp_sub, jp_g_eq, jp_g_eqg, jp_g_ne, jp_g_nei, jp_r_ne, jp_r_nei, Int.toNat_natCast]
      rw [jq_sk_end (by omega), jq_pk_end (by omega)]
      exact jE.ret hat
theorem jx4_peek {T : Nat → Int} {e a : Nat} {s : jl_Mm} (hP : jq_P T e s) (ha : a ≤ e) (hat : jl_g s 38 4 = (a : Int)) : jE (jf_X4_peek s) (jq_pk T e (jq_sk T e a)) [(38, 4, 5)] s (fun τ => jl_g τ 38 4 = ((jq_sk T e a : Nat) : Int)) :=
  jx4_peekL jl_fu a s hP ha (by have := hP.1; show e - a < 4000; omega) hat
/-- the number of the word that begins at a; -1 -/
def jq_wn (T : Nat → Int) (e a : Nat) : Int := if jq_bg T e a then jq_ix (jq_sl T a (jq_we T e a)) jq_WL 0 else -1
/-- where it ends; a, if none begins -/
def jq_wb (T : Nat → Int) (e a : Nat) : Nat := if jq_bg T e a then jq_we T e a else a
def jq_CH : List Int := (List.range 199).map (fun i => jl_ch ((i : Nat) : Int))
theorem jq_CH_drop {i : Nat} (h : i < 199) : jq_CH.drop i = jl_ch ((i : Nat) : Int) :: jq_CH.drop (i + 1) := by
  have hl : i < jq_CH.length := by simp [jq_CH, h]
  have h2 : jq_CH[i] = jl_ch ((i : Nat) : Int) := by simp [jq_CH]
  rw [List.drop_eq_getElem_cons hl, h2]
theorem jx4_wordL {T : Nat → Int} {e b w : Nat} {s : jl_Mm} (hP : jq_P T e s) (hb : jl_g s 38 4 = (b : Int)) (hw : jl_g s 38 5 = (w : Int)) (hbe : b ≤ e) (hwe : w ≤ e) : ∀ (n i k j : Nat) (m : Bool), 199 - i < n → i ≤ 199 → k ≤ i → j ≤ 1600 + i → jf_X4_wordNumber_L12 n (k : Int) (j : Int) (if m = true then 1 else 0) (i : Int) s = some (jq_cw T b w (jq_CH.drop i) (k : Int) j m, s) := by
  have ⟨he, h1, hT⟩ := hP
  intro n
  induction n with
  | zero => intro i k j m h; omega
  | succ n ih =>
    intro i k j m hn hi hk hj
    simp only [jf_X4_wordNumber_L12]
    by_cases h199 : 199 ≤ i
    · have : jq_CH.drop i = [] := by
        apply List.drop_eq_nil_of_le
        simp [jq_CH]; exact h199
      rw [this, if_pos (by omega)]
      rfl
    · rw [jq_CH_drop (by omega), if_neg (by omega), if_pos (by omega), jp_let, jq_cw]
      have i1 : jl_add (i : Int) 1 = ((i + 1 : Nat) : Int) := by rw [jp_add (by omega) (by omega)]; omega
      have j1 : jl_add (j : Int) 1 = ((j + 1 : Nat) : Int) := by rw [jp_add (by omega) (by omega)]; omega
      have k1 : jl_add (k : Int) 1 = ((k + 1 : Nat) : Int) := by rw [jp_add (by omega) (by omega)]; omega
      have ht := ih (i + 1) (k + 1) b true (by omega) (by omega) (by omega) (by omega)
      rw [if_pos rfl] at ht
      by_cases hc : jl_ch ((i : Nat) : Int) = 32
      · rw [if_pos hc, if_pos hc]
        simp only [jf_X4_wordNumber_B90, jf_X4_wordNumber_B100, jp_let, hb, hw, i1, k1, ht]
        cases m with
        | false => simp
        | true =>
          by_cases hjw : j = w
          · simp [hjw]
          · have : ¬ ((j : Int) = (w : Int)) := by omega
            simp [hjw, this]
      · rw [if_neg hc, if_neg hc]
        simp only [jf_X4_wordNumber_B68, jf_X4_wordNumber_B69, jf_X4_wordNumber_B100, hw, i1, j1]
        have hf := ih (i + 1) k (j + 1) false (by omega) (by omega) (by omega) (by omega)
        rw [if_neg (by decide)] at hf
        have ht2 := ih (i + 1) k (j + 1) true (by omega) (by omega) (by omega) (by omega)
        rw [if_pos rfl] at ht2
        rw [hf, ht2]
        cases m with
        | false => simp
        | true =>
          rw [if_neg (by decide)]
          by_cases hjw : j < w
          · rw [if_neg (by omega), if_pos (by omega), Int.toNat_natCast, hT j (by omega)]
            by_cases hT2 : T j = jl_ch ((i : Nat) : Int)
            · simp [hT2, hjw]
            · simp [hT2]
          · rw [if_pos (by omega)]
            simp [hjw]
theorem jx4_word {T : Nat → Int} {e b w : Nat} {s : jl_Mm} (hP : jq_P T e s) (hb : jl_g s 38 4 = (b : Int)) (hw : jl_g s 38 5 = (w : Int)) (hbe : b ≤ w) (hwe : w ≤ e) : jf_X4_wordNumber s = some (jq_ix (jq_sl T b w) jq_WL 0, s) := by
  have he := hP.1
  have z := jx4_wordL hP hb hw (by omega) hwe jl_fu 0 0 b true (by show 199 - 0 < 4000; omega) (by omega) (by omega) (by omega)
  rw [if_pos rfl, List.drop_zero] at z
  have e2 : jq_CH = jq_WL.flatMap (fun u => u ++ [32]) := jq_WL_f.symm
  rw [e2, show ((0 : Nat) : Int) = 0 from rfl, jq_cw_ws hbe _ _ jq_WL_b] at z
  simp only [jf_X4_wordNumber, jp_let, hb]
  exact z
theorem jx4_pwL {T : Nat → Int} {e b : Nat} : ∀ (n w : Nat) (s : jl_Mm), jq_P T e s → b ≤ w → w ≤ e → e - w < n → jl_g s 38 4 = (b : Int) → jl_g s 38 5 = (w : Int) → jE (jf_X4_peekWord_L43 n 1 s) (jq_ix (jq_sl T b (jq_we T e w)) jq_WL 0) [(38, 4, 6)] s (fun τ => jl_g τ 38 4 = (b : Int) ∧ jl_g τ 38 5 = ((jq_we T e w : Nat) : Int)) := by
  intro n
  induction n with
  | zero => intro w s _ _ _ h; omega
  | succ n ih =>
    intro w s hP hbw hwe hn hb hw
    have ⟨he, h1, hT⟩ := hP
    simp only [jf_X4_peekWord_L43, h1, hw]
    rw [if_neg (by decide)]
    by_cases h : w < e
    · rw [if_neg (by omega), if_pos (by omega), Int.toNat_natCast, hT w h, jx4_letter, jp_bd]
      by_cases hl : jq_lt (T w)
      · rw [if_pos hl, if_neg (by decide), jq_we_step h hl, jp_lm]
        have w1 : jl_add (w : Int) 1 = ((w + 1 : Nat) : Int) := by rw [jp_add (by omega) (by omega)]; omega
        simp only [hw, w1]
        refine jE.up rfl (ih (w + 1) _ (hP.fr (jp_fr.rf.up (F := [(38, 4, 6)]) rfl) rfl (fun _ => rfl)) (by omega) (by omega) (by omega) ?_ ?_)
        · simp (disch := omega) only [if_pos, if_neg, jp_bd, jp_lm, jp_let, jp_zb0, jp_zb1, jp_add, jp_sub, jp_g_eq, jp_g_eqg, jp_g_ne, jp_g_nei, jp_r_ne, jp_r_nei, Int.toNat_natCast, hb]
        · simp (disch := omega) only [if_pos, if_neg, jp_bd, jp_lm, jp_let, jp_zb0, jp_zb1, jp_add, jp_sub, jp_g_eq, jp_g_eqg, jp_g_ne, jp_g_nei, jp_r_ne, jp_r_nei, Int.toNat_natCast]
      · rw [if_neg hl, if_pos rfl, jq_we_stop hl]
        simp only [jf_X4_peekWord_B92, jf_X4_peekWord_B104]
        rw [if_neg (by decide), jx4_word hP hb hw hbw hwe, jp_bd]
        exact jE.ret ⟨hb, hw⟩
    · rw [if_pos (by omega), jq_we_end (by omega)]
      simp only [jf_X4_peekWord_B92, jf_X4_peekWord_B104]
      rw [if_neg (by decide), jx4_word hP hb hw hbw hwe, jp_bd]
      exact jE.ret ⟨hb, hw⟩
theorem jx4_peekWord {T : Nat → Int} {e a : Nat} {s : jl_Mm} (hP : jq_P T e s) (ha : a ≤ e) (hat : jl_g s 38 4 = (a : Int)) : jE (jf_X4_peekWord s) (jq_wn T e (jq_sk T e a)) [(38, 4, 6), (38, 4, 5)] s (fun τ => jl_g τ 38 4 = ((jq_sk T e a : Nat) : Int) ∧ jl_g τ 38 5 = ((jq_wb T e (jq_sk T e a) : Nat) : Int)) := by
  have he := hP.1
  rw [jf_X4_peekWord]
  refine jE.bd (jx4_peek hP ha hat) (by decide) (fun s2 f2 h2 => ?_)
  have P2 := hP.fr f2 rfl (fun _ => rfl)
  have hbe : jq_sk T e a ≤ e := jq_sk_ub ha
  generalize jq_sk T e a = b at *
  have no : ¬ jq_bg T e b → jE (jf_X4_peekWord_B33 s2) (jq_wn T e b) [(38, 4, 6), (38, 4, 5)] s2 (fun τ => jl_g τ 38 4 = (b : Int) ∧ jl_g τ 38 5 = ((jq_wb T e b : Nat) : Int)) := by
    intro hg
    rw [jq_wn, if_neg hg, jq_wb, if_neg hg]
    simp only [jf_X4_peekWord_B33, jf_X4_peekWord_B34]
    refine jE.lm rfl ?_
    rw [show jl_fu = 3999 + 1 from rfl, jf_X4_peekWord_L43, if_pos rfl, jf_X4_peekWord_B92, if_pos rfl, jf_X4_peekWord_B104]
    refine jE.ret ⟨?_, ?_⟩
    · simp (disch := omega) only [if_pos, if_neg, jp_bd, jp_lm, jp_let, jp_zb0, jp_zb1, jp_add, jp_sub, jp_g_eq, jp_g_eqg, jp_g_ne, jp_g_nei, jp_r_ne, jp_r_nei, Int.toNat_natCast, h2]
    · simp (disch := omega) only [if_pos, if_neg, jp_bd, jp_lm, jp_let, jp_zb0, jp_zb1, jp_add, jp_sub, jp_g_eq, jp_g_eqg, jp_g_ne, jp_g_nei, jp_r_ne, jp_r_nei, Int.toNat_natCast, h2]
  rw [jx4_letter, jp_bd]
  by_cases hbe2 : b < e
  · rw [jq_pk_in hbe2]
    by_cases hl : jq_lt (T b)
    · rw [if_pos hl, if_neg (by decide), jx10_byteAt P2, jp_bd, jx4_inWord, jp_bd]
      have hb1 : (if jq_iw (if 0 ≤ jl_sub (jl_g s2 38 4) 1 ∧ jl_sub (jl_g s2 38 4) 1 < (e : Int) then T (jl_sub (jl_g s2 38 4) 1).toNat else -1) then (1 : Int) else 0) = if jq_pw T b then 1 else 0 := by
        rw [h2, jp_sub (by omega) (by have := hP.1; omega)]
        by_cases hb0 : 0 < b
        · rw [if_pos (c := 0 ≤ (b : Int) - 1 ∧ (b : Int) - 1 < (e : Int)) (by omega), show ((b : Int) - 1).toNat = b - 1 by omega]
          by_cases hi : jq_iw (T (b - 1))
          · rw [if_pos hi, if_pos ⟨hb0, hi⟩]
          · rw [if_neg hi, if_neg (fun q => hi q.2)]
        · rw [if_neg (c := 0 ≤ (b : Int) - 1 ∧ (b : Int) - 1 < (e : Int)) (by omega), if_neg (by decide), if_neg (fun q => hb0 q.1)]
      rw [hb1]
      by_cases hp : jq_pw T b
      · rw [if_pos hp, if_neg (by decide)]
        exact no (fun q => q.2.2 hp)
      · rw [if_neg hp, if_pos rfl]
        have hg : jq_bg T e b := ⟨hbe2, hl, hp⟩
        rw [jq_wn, if_pos hg, jq_wb, if_pos hg]
        simp only [jf_X4_peekWord_B34]
        refine jE.lm rfl (jE.mono (jx4_pwL jl_fu b _ (P2.fr (jp_fr.rf.up (F := [(38, 4, 6)]) rfl) rfl (fun _ => rfl)) (Nat.le_refl _) hbe (by have := hP.1; show e - b < 4000; omega) ?_ ?_) (by decide) (fun _ _ q => q))
        · simp (disch := omega) only [if_pos, if_neg, jp_bd, jp_lm, jp_let, jp_zb0, jp_zb1, jp_add, jp_sub, jp_g_eq, jp_g_eqg, jp_g_ne, jp_g_nei, jp_r_ne, jp_r_nei, Int.toNat_natCast, h2]
        · simp (disch := omega) only [if_pos, if_neg, jp_bd, jp_lm, jp_let, jp_zb0, jp_zb1, jp_add, jp_sub, jp_g_eq, jp_g_eqg, jp_g_ne, jp_g_nei, jp_r_ne, jp_r_nei, Int.toNat_natCast, h2]
    · rw [if_neg hl, if_pos rfl]
      exact no (fun q => hl q.2.1)
  · rw [jq_pk_end (by omega), if_neg (c := jq_lt (-1)) (by decide), if_pos rfl]
    exact no (fun q => hbe2 q.1)
