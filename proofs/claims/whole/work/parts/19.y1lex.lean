/-! PURE, the reference's reader: bytes, words, signs, numbers -/
/-- the words that the reference keeps, cell by cell: which of jq_WL -/
def jy_wc : List Nat := [0, 1, 2, 3, 4, 5, 6, 7, 8, 9, 10, 11, 12, 13, 14, 15, 16, 17, 18, 19, 20, 21, 22, 23, 24, 25, 26, 27, 28, 29, 30, 31]
def jy_wq : List Nat := [32, 33, 34, 35, 36, 37, 28, 27, 26, 29, 30, 31, 19, 20, 15, 16, 17, 18, 3, 21, 22, 23, 24, 25]
def jy_wn (c : Nat) : Nat := if c < 258 then jy_wc.getD (c - 209) 99 else jy_wq.getD (c - 258) 99
def jy_is (c : Nat) : Prop := (209 ≤ c ∧ c < 241) ∨ (258 ≤ c ∧ c < 282)
def jy_wd (c : Nat) : List Int := jq_WL.getD (jy_wn c) []
theorem jy_kd {c : Nat} (h : jy_is c) : jl_kd c = (22, (jy_wd c).length) := by
  rcases h with h | h
  · have z : ∀ c, c < 32 → jl_kd (209 + c) = (22, (jy_wd (209 + c)).length) := by decide +kernel
    have := z (c - 209) (by omega)
    rwa [show 209 + (c - 209) = c by omega] at this
  · have z : ∀ c, c < 24 → jl_kd (258 + c) = (22, (jy_wd (258 + c)).length) := by decide +kernel
    have := z (c - 258) (by omega)
    rwa [show 258 + (c - 258) = c by omega] at this
theorem jy_wn_lt {c : Nat} (h : jy_is c) : jy_wn c < 38 := by
  rcases h with h | h
  · have z : ∀ c, c < 32 → jy_wn (209 + c) < 38 := by decide +kernel
    have := z (c - 209) (by omega)
    rwa [show 209 + (c - 209) = c by omega] at this
  · have z : ∀ c, c < 24 → jy_wn (258 + c) < 38 := by decide +kernel
    have := z (c - 258) (by omega)
    rwa [show 258 + (c - 258) = c by omega] at this
/-- the words stand in their cells -/
def jy_W (s : jl_Mm) : Prop := ∀ c, jy_is c → ∀ i (h : i < (jy_wd c).length), jl_g s c i = (jy_wd c)[i]
theorem jq_ix_hit {u : List Int} : ∀ (ws : List (List Int)) (k : Int) (i : Nat) (h : i < ws.length), ws.Nodup → ws[i] = u → jq_ix u ws k = k + (i : Int) := by
  intro ws
  induction ws with
  | nil => intro k i h; cases h
  | cons w ws ih =>
    intro k i h hn he
    rw [jq_ix]
    cases i with
    | zero => rw [if_pos (by simpa using he.symm)]; simp
    | succ i =>
      have hn2 := List.nodup_cons.mp hn
      have he2 : ws[i]'(by simpa using h) = u := by simpa using he
      rw [if_neg, ih (k + 1) i (by simpa using h) hn2.2 he2]
      · omega
      · intro q
        exact hn2.1 (by rw [← q, ← he2]; exact List.getElem_mem _)
theorem jq_ix_mem {u : List Int} : ∀ (ws : List (List Int)) (k : Int), (jq_ix u ws k = -1) ∨ ∃ i, ∃ h : i < ws.length, jq_ix u ws k = k + (i : Int) ∧ ws[i] = u := by
  intro ws
  induction ws with
  | nil => intro k; exact Or.inl rfl
  | cons w ws ih =>
    intro k
    rw [jq_ix]
    by_cases h : u = w
    · rw [if_pos h]
      exact Or.inr ⟨0, by simp, by simp, by simpa using h.symm⟩
    · rw [if_neg h]
      rcases ih (k + 1) with q | ⟨i, hi, q1, q2⟩
      · exact Or.inl q
      · exact Or.inr ⟨i + 1, by simpa using hi, by rw [q1]; omega, by simpa using q2⟩
theorem jq_WL_nd : jq_WL.Nodup := by decide +kernel
theorem jq_wn_iff {T : Nat → Int} {e p w : Nat} (hw : w < 38) : jq_wn T e p = (w : Int) ↔ (jq_bg T e p ∧ jq_sl T p (jq_we T e p) = jq_WL.getD w []) := by
  have hl : jq_WL.length = 38 := by decide +kernel
  have hg : jq_WL.getD w [] = jq_WL[w]'(by omega) := by
    rw [List.getD, List.getElem?_eq_getElem (by omega)]; rfl
  rw [hg, jq_wn]
  by_cases h : jq_bg T e p
  · rw [if_pos h]
    constructor
    · intro q
      refine ⟨h, ?_⟩
      rcases jq_ix_mem (u := jq_sl T p (jq_we T e p)) jq_WL 0 with z | ⟨i, hi, z1, z2⟩
      · rw [z] at q; omega
      · have : i = w := by omega
        subst this
        exact z2.symm
    · rintro ⟨-, q⟩
      rw [jq_ix_hit jq_WL 0 w (by omega) jq_WL_nd q.symm]; omega
  · rw [if_neg h]
    constructor
    · intro q; omega
    · intro q; exact absurd q.1 h
/-- where the last word or number ended, told of the place a -/
def jy_E (T : Nat → Int) (a : Nat) (E : Int) : Prop := (E = -1 ∧ ∀ j, j < a → ¬ jq_iw (T j)) ∨ ∃ d : Nat, E = (d : Int) ∧ 1 ≤ d ∧ d ≤ a ∧ jq_iw (T (d - 1)) ∧ ∀ j, d ≤ j → j < a → ¬ jq_iw (T j)
/-- the reference reads at p (behind blanks), without a fault -/
def jy_L (T : Nat → Int) (e p : Nat) (s : jl_Mm) : Prop :=
  e ≤ 1600 ∧ jl_g s 206 3 = (e : Int) ∧ (∀ i, i < e → jl_g s 207 i = T i) ∧ jl_g s 206 5 = 0 ∧ jl_g s 206 6 = -1 ∧ jy_W s ∧
  ∃ a : Nat, jl_g s 206 2 = (a : Int) ∧ a ≤ e ∧ jq_sk T e a = p ∧ jy_E T a (jl_g s 206 4)
/-- the reference has found a fault -/
def jy_K (k p : Nat) (s : jl_Mm) : Prop := k ≠ 0 ∧ jl_g s 206 5 = (k : Int) ∧ jl_g s 206 6 = (p : Int)
theorem jq_iw_bl {c : Int} (h : jq_bl c) : ¬ jq_iw c := by
  rcases h with rfl | rfl <;> decide
theorem jy_E.sk {T : Nat → Int} {e a b : Nat} {E : Int} (h : jy_E T a E) (hb : a ≤ b) (hbl : ∀ j, a ≤ j → j < b → ¬ jq_iw (T j)) : jy_E T b E := by
  rcases h with ⟨h1, h2⟩ | ⟨d, h1, h2, h3, h4, h5⟩
  · refine Or.inl ⟨h1, fun j hj => ?_⟩
    by_cases q : j < a
    · exact h2 j q
    · exact hbl j (by omega) hj
  · refine Or.inr ⟨d, h1, h2, by omega, h4, fun j j1 j2 => ?_⟩
    by_cases q : j < a
    · exact h5 j j1 q
    · exact hbl j (by omega) j2
theorem jy_E.pw {T : Nat → Int} {a : Nat} {E : Int} (h : jy_E T a E) : ((a : Int) = E) ↔ jq_pw T a := by
  rcases h with ⟨h1, h2⟩ | ⟨d, h1, h2, h3, h4, h5⟩
  · constructor
    · intro q; omega
    · intro q; exact absurd q.2 (h2 _ (by have := q.1; omega))
  · constructor
    · intro q
      have : a = d := by omega
      subst this
      exact ⟨by omega, h4⟩
    · intro q
      by_cases z : a = d
      · omega
      · exact absurd q.2 (h5 _ (by omega) (by have := q.1; omega))
theorem jy_W.fr {s τ : jl_Mm} {F : jp_F} (h : jy_W s) (f : jp_fr F s τ) (w : ∀ c i, jy_is c → jp_in F c i = false) : jy_W τ := fun c hc i hi => (f.g c i (w c i hc)).trans (h c hc i hi)
/-- what touches neither tape, words, faults nor place leaves the reader as it is -/
theorem jy_L.fr {T : Nat → Int} {e p : Nat} {s τ : jl_Mm} {F : jp_F} (h : jy_L T e p s) (f : jp_fr F s τ) (w1 : ∀ i, (2 ≤ i ∧ i < 7) → jp_in F 206 i = false) (w2 : ∀ i, jp_in F 207 i = false) (w : ∀ c i, jy_is c → jp_in F c i = false) : jy_L T e p τ := by
  obtain ⟨h1, h2, h3, h4, h5, h6, a, h7, h8, h9, h10⟩ := h
  refine ⟨h1, (f.g _ _ (w1 _ (by omega))).trans h2, fun i hi => (f.g _ _ (w2 i)).trans (h3 i hi), (f.g _ _ (w1 _ (by omega))).trans h4, (f.g _ _ (w1 _ (by omega))).trans h5, h6.fr f w, a, (f.g _ _ (w1 _ (by omega))).trans h7, h8, h9, ?_⟩
  rw [f.g _ _ (w1 _ (by omega))]
  exact h10
/-- the place moves -/
theorem jy_L.mv {T : Nat → Int} {e p b : Nat} {s τ : jl_Mm} (h : jy_L T e p s) {F : jp_F} (f : jp_fr F s τ) (hF : ∀ c i, jp_in F c i = true → c = 206 ∧ (i = 2 ∨ i = 4 ∨ i = 10)) (hb : jl_g τ 206 2 = (b : Int)) (hbe : b ≤ e) (hE : jy_E T b (jl_g τ 206 4)) : jy_L T e (jq_sk T e b) τ := by
  have hn : ∀ c i, (c ≠ 206 ∨ (i ≠ 2 ∧ i ≠ 4 ∧ i ≠ 10)) → jp_in F c i = false := by
    intro c i hc
    cases hz : jp_in F c i with
    | false => rfl
    | true => have := hF c i hz; omega
  obtain ⟨h1, h2, h3, h4, h5, h6, -⟩ := h
  refine ⟨h1, (f.g _ _ (hn _ _ (by omega))).trans h2, fun i hi => (f.g _ _ (hn _ _ (by omega))).trans (h3 i hi), (f.g _ _ (hn _ _ (by omega))).trans h4, (f.g _ _ (hn _ _ (by omega))).trans h5, h6.fr f (fun c i hc => hn _ _ (by rcases hc with hc | hc <;> omega)), b, hb, hbe, rfl, hE⟩
theorem jx12_letter (c : Int) (s : jl_Mm) : jf_X12_isLetter c s = some (if jq_lt c then 1 else 0, s) := by
  by_cases h1 : c < 97 <;> by_cases h2 : 122 < c <;> simp only [jf_X12_isLetter, jf_X12_isLetter_B16, jf_X12_isLetter_B17] <;> simp (disch := omega) only [if_pos, if_neg, jp_bd, jp_lm, jp_let, jp_zb0, jp_zb1, jp_add, jp_sub, jp_g_eq, jp_g_eqg, jp_g_ne, jp_g_nei, jp_r_ne, jp_r_nei, Int.toNat_natCast] <;> (exfalso; omega)
theorem jx12_digit (c : Int) (s : jl_Mm) : jf_X12_isDigit c s = some (if jq_dg c then 1 else 0, s) := by
  by_cases h1 : c < 48 <;> by_cases h2 : 57 < c <;> simp only [jf_X12_isDigit, jf_X12_isDigit_B16, jf_X12_isDigit_B17] <;> simp (disch := omega) only [if_pos, if_neg, jp_bd, jp_lm, jp_let, jp_zb0, jp_zb1, jp_add, jp_sub, jp_g_eq, jp_g_eqg, jp_g_ne, jp_g_nei, jp_r_ne, jp_r_nei, Int.toNat_natCast] <;> (exfalso; omega)
theorem jx12_lookL {T : Nat → Int} {e : Nat} : ∀ (n a : Nat) (s : jl_Mm), e ≤ 1600 → jl_g s 206 3 = (e : Int) → (∀ i, i < e → jl_g s 207 i = T i) → a ≤ e → e - a < n → jl_g s 206 2 = (a : Int) → jE (jf_X12_look_L0 n s) (jq_pk T e (jq_sk T e a)) [(206, 2, 3)] s (fun τ => jl_g τ 206 2 = ((jq_sk T e a : Nat) : Int)) := by
  intro n
  induction n with
  | zero => intro a s _ _ _ _ h; omega
  | succ n ih =>
    intro a s he h1 hT ha hn hat
    by_cases h : a < e
    · have hTa := hT a h
      simp only [jf_X12_look_L0, jf_X12_look_B52, jf_X12_look_B76, h1, hat]
      simp (disch := omega) only [if_pos, if_neg, jp_bd, jp_lm, jp_let, jp_zb0, jp_zb1, jp_add, jp_sub, jp_g_eq, jp_g_eqg, jp_g_ne, jp_g_nei, jp_r_ne, jp_r_nei, Int.toNat_natCast, hTa]
      by_cases hb : jq_bl (T a)
      · rw [jq_sk_step h hb]
        have z : jE (jf_X12_look_B39 (jf_X12_look_L0 n) s) (jq_pk T e (jq_sk T e (a + 1))) [(206, 2, 3)] s (fun τ => jl_g τ 206 2 = ((jq_sk T e (a + 1) : Nat) : Int)) := by
          simp only [jf_X12_look_B39, hat]
          simp (disch := omega) only [if_pos, if_neg, jp_bd, jp_lm, jp_let, jp_zb0, jp_zb1, jp_add, jp_sub, jp_g_eq, jp_g_eqg, jp_g_ne, jp_g_nei, jp_r_ne, jp_r_nei, Int.toNat_natCast]
          refine jE.up rfl (ih (a + 1) _ he ?_ ?_ (by omega) (by omega) ?_)
          · simp (disch := omega) only [if_pos, if_neg, jp_bd, jp_lm, jp_let, jp_zb0, jp_zb1, jp_add, jp_sub, jp_g_eq, jp_g_eqg, jp_g_ne, jp_g_nei, jp_r_ne, jp_r_nei, Int.toNat_natCast, h1]
          · intro i hi
            simp (disch := omega) only [if_pos, if_neg, jp_bd, jp_lm, jp_let, jp_zb0, jp_zb1, jp_add, jp_sub, jp_g_eq, jp_g_eqg, jp_g_ne, jp_g_nei, jp_r_ne, jp_r_nei, Int.toNat_natCast]
            exact hT i hi
          · simp (disch := omega) only [if_pos, if_neg, jp_bd, jp_lm, jp_let, jp_zb0, jp_zb1, jp_add, jp_sub, jp_g_eq, jp_g_eqg, jp_g_ne, jp_g_nei, jp_r_ne, jp_r_nei, Int.toNat_natCast]
            omega
        by_cases h10 : T a = 10
        · rw [if_pos h10]; exact z
        · rw [if_neg h10, if_pos (by rcases hb with q | q; exact q; exact absurd q h10)]; exact z
      · rw [if_neg (fun q => hb (Or.inr q)), if_neg (fun q => hb (Or.inl q)), jq_sk_stop hb, jq_pk_in h]
        exact jE.ret hat
    · simp only [jf_X12_look_L0, jf_X12_look_B52, jf_X12_look_B76, h1, hat]
      simp (disch := omega) only [if_pos, if_neg, jp_bd, jp_lm, jp_let, jp_zb0, jp_zb1, jp_add, jp_sub, jp_g_eq, jp_g_eqg, jp_g_ne, jp_g_nei, jp_r_ne, jp_r_nei, Int.toNat_natCast]
      rw [jq_sk_end (by omega), jq_pk_end (by omega)]
      exact jE.ret hat
theorem jy_in2 : ∀ c i, jp_in [(206, 2, 3)] c i = true → c = 206 ∧ (i = 2 ∨ i = 4 ∨ i = 10) := by
  intro c i hc
  simp [jp_in] at hc
  omega
theorem jy_in24 : ∀ c i, jp_in [(206, 2, 3), (206, 4, 5)] c i = true → c = 206 ∧ (i = 2 ∨ i = 4 ∨ i = 10) := by
  intro c i hc
  simp [jp_in] at hc
  omega
theorem jx12_look {T : Nat → Int} {e p : Nat} {s : jl_Mm} (h : jy_L T e p s) : jE (jf_X12_look s) (jq_pk T e p) [(206, 2, 3)] s (fun τ => jy_L T e p τ ∧ jl_g τ 206 2 = (p : Int) ∧ jy_E T p (jl_g τ 206 4)) := by
  have ⟨h1, h2, h3, h4, h5, h6, a, h7, h8, h9, h10⟩ := h
  have z := jx12_lookL (T := T) jl_fu a s h1 h2 h3 h8 (by show e - a < 4000; omega) h7
  rw [h9] at z
  refine jE.mono z (by decide) (fun τ f q => ?_)
  have hE : jy_E T p (jl_g τ 206 4) := by
    rw [f.g _ _ rfl]
    exact h10.sk (e := e) (by rw [← h9]; exact jq_sk_ge) (fun j j1 j2 => jq_iw_bl (jq_sk_b j1 (by rw [h9]; exact j2)))
  have hpe : p ≤ e := by rw [← h9]; exact jq_sk_ub h8
  have y := h.mv f jy_in2 q hpe hE
  have e1 : jq_sk T e p = p := by rw [← h9]; exact jq_sk_idem
  rw [e1] at y
  exact ⟨y, q, hE⟩
theorem jy_L.pe {T : Nat → Int} {e p : Nat} {s : jl_Mm} (h : jy_L T e p s) : p ≤ e ∧ jq_sk T e p = p := by
  obtain ⟨h1, h2, h3, h4, h5, h6, a, h7, h8, h9, h10⟩ := h
  rw [← h9]
  exact ⟨jq_sk_ub h8, jq_sk_idem⟩
theorem jx12_hereL76 {T : Nat → Int} {e p c : Nat} {s : jl_Mm} (hc : jy_is c) (he : e ≤ 1600) (hT : ∀ i, i < e → jl_g s 207 i = T i) (hW : jy_W s) (hp : jl_g s 206 2 = (p : Int)) (hpe : p + (jy_wd c).length ≤ e) : ∀ (n i : Nat), (jy_wd c).length - i < n → i ≤ (jy_wd c).length → (∀ j (h : j < (jy_wd c).length), j < i → T (p + j) = (jy_wd c)[j]) → jf_X12_isHere_L76 n c (i : Int) s = some (if jq_sl T p (p + (jy_wd c).length) = jy_wd c then 1 else 0, s) := by
  have hk := jy_kd hc
  intro n
  induction n with
  | zero => intro i h; omega
  | succ n ih =>
    intro i hn hi hpre
    simp only [jf_X12_isHere_L76, hk, hp]
    by_cases h : i < (jy_wd c).length
    · have i1 : jl_add (i : Int) 1 = ((i + 1 : Nat) : Int) := by rw [jp_add (by omega) (by omega)]; omega
      rw [if_neg (by omega), jp_add (by omega) (by omega), if_pos (by omega), if_pos (by omega), show ((p : Int) + (i : Int)).toNat = p + i by omega, Int.toNat_natCast, hT _ (by omega), hW c hc i h, i1]
      by_cases q : T (p + i) = (jy_wd c)[i]
      · rw [if_pos q]
        refine ih (i + 1) (by omega) (by omega) (fun j hj hj2 => ?_)
        by_cases z : j = i
        · subst z; exact q
        · exact hpre j hj (by omega)
      · rw [if_neg q, if_neg, jp_zb0]
        intro z
        exact q ((jq_sl_eq.mp z).2 i h)
    · rw [if_pos (by omega), if_pos, jp_zb1]
      exact jq_sl_eq.mpr ⟨by omega, fun j hj => hpre j hj (by omega)⟩
theorem jx12_hereL35 {T : Nat → Int} {e p c : Nat} {s : jl_Mm} (hc : jy_is c) (he : e ≤ 1600) (h3 : jl_g s 206 3 = (e : Int)) (hT : ∀ i, i < e → jl_g s 207 i = T i) (hW : jy_W s) (hp : jl_g s 206 2 = (p : Int)) : ∀ (n b : Nat), e - b < n → p ≤ b → b ≤ e → jq_we T e b = jq_we T e p → jf_X12_isHere_L35 n c (b : Int) s = some (if jq_sl T p (jq_we T e p) = jy_wd c then 1 else 0, s) := by
  have hk := jy_kd hc
  have fin : ∀ b, p ≤ b → b ≤ e → jq_we T e p = b → jf_X12_isHere_B61 c (b : Int) s = some (if jq_sl T p (jq_we T e p) = jy_wd c then 1 else 0, s) := by
    intro b hb hbe hw
    rw [jf_X12_isHere_B61, hk, hp, jp_sub (by omega) (by omega), hw]
    by_cases hl : b - p = (jy_wd c).length
    · rw [if_pos (by simp only; omega)]
      have hlen : (jy_wd c).length ≤ 1600 := by omega
      have z := jx12_hereL76 (T := T) hc he hT hW hp (by omega) jl_fu 0 (by show _ < 4000; omega) (by omega) (fun j _ h => by omega)
      rw [show ((0 : Nat) : Int) = 0 from rfl, show p + (jy_wd c).length = b by omega] at z
      exact z
    · rw [if_neg (by simp only; omega), if_neg, jp_zb0]
      intro z
      exact hl (jq_sl_eq.mp z).1
  intro n
  induction n with
  | zero => intro b h; omega
  | succ n ih =>
    intro b hn hb hbe hw
    rw [jf_X12_isHere_L35, h3]
    by_cases h : b < e
    · rw [if_neg (by omega), if_pos (by omega), Int.toNat_natCast, hT b h, jx12_letter, jp_bd]
      by_cases hl : jq_lt (T b)
      · have i1 : jl_add (b : Int) 1 = ((b + 1 : Nat) : Int) := by rw [jp_add (by omega) (by omega)]; omega
        rw [if_pos hl, if_neg (by decide), i1]
        exact ih (b + 1) (by omega) (by omega) (by omega) (by rw [← jq_we_step h hl]; exact hw)
      · rw [if_neg hl, if_pos rfl]
        exact fin b hb hbe (by rw [← hw]; exact jq_we_stop hl)
    · rw [if_pos (by omega)]
      exact fin b hb hbe (by rw [← hw]; exact jq_we_end (by omega))
/-- whether a word is here -/
theorem jx12_isHere {T : Nat → Int} {e p c : Nat} {s : jl_Mm} (hc : jy_is c) (h : jy_L T e p s) : jE (jf_X12_isHere c s) (if jq_wn T e p = (jy_wn c : Int) then 1 else 0) [(206, 2, 3)] s (fun τ => jy_L T e p τ ∧ jl_g τ 206 2 = (p : Int) ∧ jy_E T p (jl_g τ 206 4)) := by
  have hk := jy_kd hc
  rw [jf_X12_isHere, if_pos (by rw [hk]), if_pos h.2.2.2.1]
  refine jE.bd (jx12_look h) (by decide) (fun τ f ⟨z, hp, hE⟩ => ?_)
  have ⟨h1, h2, h3, h4, h5, h6, _⟩ := z
  rw [jx12_letter, jp_bd]
  have hpe := z.pe
  have no : ¬ jq_bg T e p → (if jq_wn T e p = (jy_wn c : Int) then (1 : Int) else 0) = 0 := by
    intro q
    rw [if_neg]
    intro w
    exact q ((jq_wn_iff (jy_wn_lt hc)).mp w).1
  by_cases hl : jq_lt (jq_pk T e p)
  · have hpe2 : p < e := by
      apply Classical.byContradiction
      intro q
      rw [jq_pk_end (by omega)] at hl
      revert hl; decide
    rw [jq_pk_in hpe2] at hl
    rw [jq_pk_in hpe2, if_pos hl, if_neg (by decide), hp]
    by_cases hpw : jq_pw T p
    · rw [if_pos (hE.pw.mpr hpw), no (fun q => q.2.2 hpw), jf_X12_isHere_B28, jp_zb0]
      exact jE.ret ⟨z, hp, hE⟩
    · rw [if_neg (fun q => hpw (hE.pw.mp q)), jp_let, jx12_hereL35 hc h1 h2 h3 h6 hp jl_fu p (by show _ < 4000; omega) (Nat.le_refl _) hpe.1 rfl]
      have hg : jq_bg T e p := ⟨hpe2, hl, hpw⟩
      refine jE.reti ?_ jp_fr.rf ⟨z, hp, hE⟩
      have q : jq_wn T e p = (jy_wn c : Int) ↔ (jq_bg T e p ∧ jq_sl T p (jq_we T e p) = jy_wd c) := jq_wn_iff (jy_wn_lt hc)
      by_cases w : jq_wn T e p = (jy_wn c : Int)
      · rw [if_pos w, if_pos (q.mp w).2]
      · rw [if_neg w, if_neg (fun y => w (q.mpr ⟨hg, y⟩))]
  · rw [if_neg hl, if_pos rfl, jf_X12_isHere_B28, jp_zb0, no]
    · exact jE.ret ⟨z, hp, hE⟩
    · intro q
      rw [jq_pk_in q.1] at hl
      exact hl q.2.1
theorem jq_wn_len {T : Nat → Int} {e p w : Nat} (hw : w < 38) (h : jq_wn T e p = (w : Int)) : jq_bg T e p ∧ jq_we T e p = p + (jq_WL.getD w []).length ∧ p < jq_we T e p := by
  obtain ⟨h1, h2⟩ := (jq_wn_iff hw).mp h
  have h3 := (jq_sl_eq.mp h2).1
  have h4 := jq_we_ge (T := T) (e := e) (a := p)
  have h5 := jq_we_ge (T := T) (e := e) (a := p + 1)
  rw [← jq_we_step h1.1 h1.2.1] at h5
  exact ⟨h1, by omega, by omega⟩
theorem jy_E.word {T : Nat → Int} {e p : Nat} (h : jq_bg T e p) : jy_E T (jq_we T e p) ((jq_we T e p : Nat) : Int) := by
  have h5 := jq_we_ge (T := T) (e := e) (a := p + 1)
  rw [← jq_we_step h.1 h.2.1] at h5
  refine Or.inr ⟨jq_we T e p, rfl, by omega, Nat.le_refl _, ?_, fun j h1 h2 => by omega⟩
  exact Or.inl (jq_we_l (e := e) (a := p) (by omega) (by omega))
theorem jx12_takes {T : Nat → Int} {e p c : Nat} {s : jl_Mm} (hc : jy_is c) (h : jy_L T e p s) : jE (jf_X12_takes c s) (if jq_wn T e p = (jy_wn c : Int) then 1 else 0) [(206, 2, 3), (206, 4, 5)] s (fun τ => jy_L T e (if jq_wn T e p = (jy_wn c : Int) then jq_sk T e (jq_we T e p) else p) τ ∧ (jq_wn T e p ≠ (jy_wn c : Int) → jl_g τ 206 2 = (p : Int))) := by
  have hk := jy_kd hc
  rw [jf_X12_takes, if_pos (by rw [hk])]
  refine jE.bd (jx12_isHere hc h) (by decide) (fun τ f ⟨z, hp, hE⟩ => ?_)
  have hpe := z.pe
  have he := z.1
  by_cases w : jq_wn T e p = (jy_wn c : Int)
  · simp only [if_pos w]
    obtain ⟨g1, g2, g3⟩ := jq_wn_len (jy_wn_lt hc) w
    have g4 := jq_we_ub (T := T) hpe.1
    have e1 : jl_add (jl_g τ 206 2) (((jl_kd c).2 : Nat) : Int) = ((jq_we T e p : Nat) : Int) := by
      rw [hp, hk, jp_add]
      · simp only [jy_wd]; omega
      · simp only [jy_wd]; omega
      · simp only [jy_wd]; omega
    rw [if_neg (by decide), e1]
    refine jE.lm rfl (jE.lm rfl ?_)
    rw [jp_zb1]
    refine jE.ret ⟨?_, fun q => absurd w q⟩
    refine z.mv (F := [(206, 2, 3), (206, 4, 5)]) ((jp_fr.rf.up rfl).up rfl) jy_in24 ?_ g4 ?_
    · simp (disch := omega) only [if_pos, if_neg, jp_bd, jp_lm, jp_let, jp_zb0, jp_zb1, jp_add, jp_sub, jp_g_eq, jp_g_eqg, jp_g_ne, jp_g_nei, jp_r_ne, jp_r_nei, Int.toNat_natCast]
    · have e4 : jl_g (jl_up (jl_up τ 206 2 ((jq_we T e p : Nat) : Int)) 206 4 (jl_g (jl_up τ 206 2 ((jq_we T e p : Nat) : Int)) 206 2)) 206 4 = ((jq_we T e p : Nat) : Int) := by
        simp (disch := omega) only [if_pos, if_neg, jp_bd, jp_lm, jp_let, jp_zb0, jp_zb1, jp_add, jp_sub, jp_g_eq, jp_g_eqg, jp_g_ne, jp_g_nei, jp_r_ne, jp_r_nei, Int.toNat_natCast]
      rw [e4]
      exact jy_E.word g1
  · simp only [if_neg w]
    rw [if_pos trivial, jp_zb0]
    exact jE.ret ⟨z, fun _ => hp⟩
theorem jx12_fail {T : Nat → Int} {e p k a : Nat} {s : jl_Mm} (h : jy_L T e p s) (hk : k ≠ 0) (hk2 : k < 9) (ha : a ≤ 2000) : jE (jf_X12_fail (k : Int) (a : Int) s) 0 [(206, 5, 7)] s (fun τ => jy_K k a τ) := by
  rw [jf_X12_fail, if_pos h.2.2.2.1]
  refine jE.lm rfl (jE.lm rfl (jE.ret ⟨hk, ?_, ?_⟩))
  · simp (disch := omega) only [if_pos, if_neg, jp_bd, jp_lm, jp_let, jp_zb0, jp_zb1, jp_add, jp_sub, jp_g_eq, jp_g_eqg, jp_g_ne, jp_g_nei, jp_r_ne, jp_r_nei, Int.toNat_natCast]
  · simp (disch := omega) only [if_pos, if_neg, jp_bd, jp_lm, jp_let, jp_zb0, jp_zb1, jp_add, jp_sub, jp_g_eq, jp_g_eqg, jp_g_ne, jp_g_nei, jp_r_ne, jp_r_nei, Int.toNat_natCast]
theorem jx12_asks {T : Nat → Int} {e p c : Nat} {s : jl_Mm} (hc : jy_is c) (h : jy_L T e p s) : jE (jf_X12_asks c s) 0 [(206, 2, 3), (206, 4, 5), (206, 5, 7)] s (fun τ => (jq_wn T e p = (jy_wn c : Int) → jy_L T e (jq_sk T e (jq_we T e p)) τ) ∧ (jq_wn T e p ≠ (jy_wn c : Int) → jy_K 1 p τ)) := by
  have hk := jy_kd hc
  have he := h.1
  have hpe := h.pe
  rw [jf_X12_asks, if_pos (by rw [hk]), if_pos h.2.2.2.1]
  refine jE.bd (jx12_takes hc h) (by decide) (fun τ f ⟨z, hp⟩ => ?_)
  by_cases w : jq_wn T e p = (jy_wn c : Int)
  · simp only [if_pos w] at z ⊢
    rw [if_neg (by decide), jf_X12_asks_B24]
    exact jE.ret ⟨fun _ => z, fun q => absurd w q⟩
  · simp only [if_neg w] at z ⊢
    rw [if_pos trivial, hp w]
    simp only [jf_X12_asks_B24]
    exact jE.bd (jx12_fail (k := 1) z (by decide) (by decide) (by omega)) (by decide) (fun τ2 f2 z2 => jE.ret ⟨fun q => absurd q w, fun _ => z2⟩)
theorem jy_E.step {T : Nat → Int} {p : Nat} {E : Int} (h : jy_E T p E) (hn : ¬ jq_iw (T p)) : jy_E T (p + 1) E :=
  h.sk (e := 0) (Nat.le_succ _) (fun j j1 j2 => by rw [show j = p by omega]; exact hn)
theorem jx12_takesSign {T : Nat → Int} {e p : Nat} {c : Int} {s : jl_Mm} (hc : c ≠ -1) (hn : ¬ jq_iw c) (h : jy_L T e p s) : jE (jf_X12_takesSign c s) (if jq_pk T e p = c then 1 else 0) [(206, 2, 3)] s (fun τ => jy_L T e (if jq_pk T e p = c then jq_sk T e (p + 1) else p) τ ∧ jl_g τ 206 2 = (if jq_pk T e p = c then ((p + 1 : Nat) : Int) else (p : Int))) := by
  have he := h.1
  have hpe := h.pe
  rw [jf_X12_takesSign, if_pos h.2.2.2.1]
  refine jE.bd (jx12_look h) (by decide) (fun τ f ⟨z, hp, hE⟩ => ?_)
  by_cases w : jq_pk T e p = c
  · simp only [if_pos w]
    have hlt : p < e := by
      apply Classical.byContradiction
      intro q
      rw [jq_pk_end (by omega)] at w
      exact hc w.symm
    rw [jq_pk_in hlt] at w
    rw [hp, jp_add (by omega) (by omega)]
    simp only [jp_zb1]
    refine jE.lm rfl (jE.ret ⟨?_, ?_⟩)
    · refine z.mv (F := [(206, 2, 3)]) (jp_fr.rf.up rfl) jy_in2 ?_ (by omega) ?_
      · simp (disch := omega) only [if_pos, if_neg, jp_bd, jp_lm, jp_let, jp_zb0, jp_zb1, jp_add, jp_sub, jp_g_eq, jp_g_eqg, jp_g_ne, jp_g_nei, jp_r_ne, jp_r_nei, Int.toNat_natCast]
        omega
      · rw [show jl_g (jl_up τ 206 2 ((p : Int) + 1)) 206 4 = jl_g τ 206 4 by
          simp (disch := omega) only [if_pos, if_neg, jp_bd, jp_lm, jp_let, jp_zb0, jp_zb1, jp_add, jp_sub, jp_g_eq, jp_g_eqg, jp_g_ne, jp_g_nei, jp_r_ne, jp_r_nei, Int.toNat_natCast]]
        exact hE.step (by rw [w]; exact hn)
    · simp (disch := omega) only [if_pos, if_neg, jp_bd, jp_lm, jp_let, jp_zb0, jp_zb1, jp_add, jp_sub, jp_g_eq, jp_g_eqg, jp_g_ne, jp_g_nei, jp_r_ne, jp_r_nei, Int.toNat_natCast]
      omega
  · simp only [if_neg w]
    rw [jf_X12_takesSign_B15, jp_zb0]
    exact jE.ret ⟨z, hp⟩
theorem jx12_asksSign {T : Nat → Int} {e p : Nat} {c : Int} {s : jl_Mm} (hc : c ≠ -1) (hn : ¬ jq_iw c) (h : jy_L T e p s) : jE (jf_X12_asksSign c s) 0 [(206, 2, 3), (206, 5, 7)] s (fun τ => (jq_pk T e p = c → jy_L T e (jq_sk T e (p + 1)) τ) ∧ (jq_pk T e p ≠ c → jy_K 1 p τ)) := by
  have he := h.1
  have hpe := h.pe
  rw [jf_X12_asksSign, if_pos h.2.2.2.1]
  refine jE.bd (jx12_takesSign hc hn h) (by decide) (fun τ f ⟨z, hp⟩ => ?_)
  by_cases w : jq_pk T e p = c
  · simp only [if_pos w] at z ⊢
    rw [if_neg (by decide), jf_X12_asksSign_B24]
    exact jE.ret ⟨fun _ => z, fun q => absurd w q⟩
  · simp only [if_neg w] at z hp ⊢
    rw [if_pos trivial, hp]
    simp only [jf_X12_asksSign_B24]
    exact jE.bd (jx12_fail (k := 1) z (by decide) (by decide) (by omega)) (by decide) (fun τ2 f2 z2 => jE.ret ⟨fun q => absurd q w, fun _ => z2⟩)
theorem jp_lt6 {a b : Int} (ha : jl_n6 a) (hb : jl_n6 b) : jl_i6 a < jl_i6 b ↔ a < b := by rw [Int64.lt_iff_toInt_lt, jl_to_i6 ha, jl_to_i6 hb]
theorem jp_eq6 {a b : Int} (ha : jl_n6 a) (hb : jl_n6 b) : jl_i6 a = jl_i6 b ↔ a = b := by rw [← Int64.toInt_inj, jl_to_i6 ha, jl_to_i6 hb]
theorem jp_lcmp {a b : Int} (ha : jl_n6 a) (hb : jl_n6 b) : jl_lcmp a b = if a < b then -1 else if a = b then 0 else 1 := by
  rw [jl_lcmp, lg_cmp]
  by_cases h1 : b < a
  · rw [if_pos ((jp_lt6 hb ha).mpr h1), if_neg (by omega), if_neg (by omega)]; rfl
  · rw [if_neg (fun q => h1 ((jp_lt6 hb ha).mp q))]
    by_cases h2 : a = b
    · rw [if_pos ((jp_eq6 ha hb).mpr h2), if_neg (by omega), if_pos h2]; rfl
    · rw [if_neg (fun q => h2 ((jp_eq6 ha hb).mp q)), if_pos (by omega)]; rfl
theorem jx12_isIn {v lo hi : Int} (s : jl_Mm) (h1 : jl_n6 v) (h2 : jl_n6 lo) (h3 : jl_n6 hi) : jf_X12_isIn v lo hi s = some (if lo ≤ v ∧ v ≤ hi then 1 else 0, s) := by
  rw [jf_X12_isIn, jp_lcmp h1 h2, jp_lcmp h1 h3]
  simp only [jf_X12_isIn_B17, jf_X12_isIn_B18]
  by_cases a : v < lo
  · rw [if_pos a, if_pos (by decide), if_neg (by omega), jp_zb0]
  · rw [if_neg a, if_neg (by split <;> decide)]
    by_cases b : v ≤ hi
    · rw [if_neg (by split; decide; split; decide; omega), if_pos (by omega), jp_zb1]
    · rw [if_pos (by rw [if_neg (by omega), if_neg (by omega)]; decide), if_neg (by omega), jp_zb0]
theorem jx12_numL {T : Nat → Int} {e p : Nat} {lo hi : Int} {s0 : jl_Mm} (h0 : jy_L T e p s0) (hd0 : jq_dg (T p)) (hp0 : p < e) : ∀ (k n a : Nat) (v : Int) (s : jl_Mm), jp_fr [(206, 2, 3)] s0 s → a + k = p + 4 → p ≤ a → a ≤ e → k < n → jl_g s 206 2 = (a : Int) → 0 ≤ v → (k = 4 → v = 0) → (k = 3 → v ≤ 9) → (k = 2 → v ≤ 99) → (k = 1 → v ≤ 999) → (k = 0 → v ≤ 9999) →
    ((jq_ne T e k a < e ∧ jq_dg (T (jq_ne T e k a))) → ∃ τ, jf_X12_number_L49 n lo hi (p : Int) v s = some (0, τ) ∧ jp_fr [(206, 2, 3), (206, 5, 7)] s0 τ ∧ jy_K 1 (jq_ne T e k a) τ) ∧
    (¬ (jq_ne T e k a < e ∧ jq_dg (T (jq_ne T e k a))) → ∃ τ, jf_X12_number_L49 n lo hi (p : Int) v s = jf_X12_number_B129 lo hi (p : Int) (jq_nv T (jq_ne T e k a - a) a v) τ ∧ jp_fr [(206, 2, 3)] s0 τ ∧ jl_g τ 206 2 = ((jq_ne T e k a : Nat) : Int)) := by
  obtain ⟨he, h3, hT, h5, h6, hW, -⟩ := h0
  intro k
  induction k with
  | zero =>
    intro n a v s f hk hpa ha hn hat hv v4 v3 v2 v1 v0
    cases n with
    | zero => omega
    | succ n =>
      have g3 := (f.g 206 3 rfl).trans h3
      simp only [jf_X12_number_L49, g3, hat]
      rw [jq_ne, Nat.sub_self, jq_nv]
      by_cases hae : a < e
      · rw [if_neg (by omega), if_pos (by omega), Int.toNat_natCast, (f.g 207 a rfl).trans (hT a hae), jx12_digit, jp_bd]
        by_cases hd : jq_dg (T a)
        · refine ⟨fun _ => ?_, fun q => absurd ⟨hae, hd⟩ q⟩
          rw [if_pos hd, if_neg (by decide), hat, jp_sub (by omega) (by omega), if_pos (by omega), jf_X12_fail, if_pos ((f.g 206 5 rfl).trans h5), jp_lm, jp_lm, jp_bd]
          refine ⟨_, rfl, ?_, ?_⟩
          · exact ((f.w (by decide)).up rfl).up rfl
          · refine ⟨by decide, ?_, ?_⟩
            · simp (disch := omega) only [if_pos, if_neg, jp_bd, jp_lm, jp_let, jp_zb0, jp_zb1, jp_add, jp_sub, jp_g_eq, jp_g_eqg, jp_g_ne, jp_g_nei, jp_r_ne, jp_r_nei, Int.toNat_natCast]
              omega
            · simp (disch := omega) only [if_pos, if_neg, jp_bd, jp_lm, jp_let, jp_zb0, jp_zb1, jp_add, jp_sub, jp_g_eq, jp_g_eqg, jp_g_ne, jp_g_nei, jp_r_ne, jp_r_nei, Int.toNat_natCast]
        · refine ⟨fun q => absurd q.2 hd, fun _ => ⟨s, ?_, f, hat⟩⟩
          rw [if_neg hd, if_pos rfl]
      · refine ⟨fun q => absurd q.1 hae, fun _ => ⟨s, ?_, f, hat⟩⟩
        rw [if_pos (by omega)]
  | succ k ih =>
    intro n a v s f hk hpa ha hn hat hv v4 v3 v2 v1 v0
    cases n with
    | zero => omega
    | succ n =>
      have g3 := (f.g 206 3 rfl).trans h3
      simp only [jf_X12_number_L49, g3, hat]
      by_cases hae : a < e
      · rw [if_neg (by omega), if_pos (by omega), Int.toNat_natCast, (f.g 207 a rfl).trans (hT a hae), jx12_digit, jp_bd]
        by_cases hd : jq_dg (T a)
        · obtain ⟨d1, d2⟩ := hd
          have hv' : jl_sub (jl_add (jl_mul 10 v) (T a)) 48 = 10 * v + T a - 48 := by
            rw [jp_mul (by omega) (by omega), jp_add (by omega) (by omega), jp_sub (by omega) (by omega)]
          have ha' : jl_add (a : Int) 1 = ((a + 1 : Nat) : Int) := by rw [jp_add (by omega) (by omega)]; omega
          rw [if_pos (show jq_dg (T a) from ⟨d1, d2⟩), if_neg (by decide), hat, jp_sub (by omega) (by omega), if_neg (by omega), if_pos (by omega), Int.toNat_natCast, (f.g 207 a rfl).trans (hT a hae), jp_let, jp_lm, hv', ha', jq_ne, if_pos ⟨hae, d1, d2⟩]
          have I := ih n (a + 1) (10 * v + T a - 48) (jl_up s 206 2 ((a + 1 : Nat) : Int)) (f.up rfl) (by omega) (by omega) (by omega) (by omega) (by
            simp (disch := omega) only [if_pos, if_neg, jp_bd, jp_lm, jp_let, jp_zb0, jp_zb1, jp_add, jp_sub, jp_g_eq, jp_g_eqg, jp_g_ne, jp_g_nei, jp_r_ne, jp_r_nei, Int.toNat_natCast]) (by omega) (by omega) (by omega) (by omega) (by omega) (by omega)
          have hge := (jq_ne_all (T := T) (e := e) k (a + 1) (by omega)).1
          rw [show jq_ne T e k (a + 1) - a = (jq_ne T e k (a + 1) - (a + 1)) + 1 by omega, jq_nv]
          exact I
        · rw [jq_ne, if_neg (c := a < e ∧ jq_dg (T a)) (fun q => hd q.2), Nat.sub_self, jq_nv]
          refine ⟨fun q => absurd q.2 hd, fun _ => ⟨s, ?_, f, hat⟩⟩
          rw [if_neg hd, if_pos rfl]
      · rw [jq_ne, if_neg (c := a < e ∧ jq_dg (T a)) (fun q => hae q.1), Nat.sub_self, jq_nv]
        refine ⟨fun q => absurd q.1 hae, fun _ => ⟨s, ?_, f, hat⟩⟩
        rw [if_pos (by omega)]
theorem jy_E.num {T : Nat → Int} {a b : Nat} (hab : a < b) (hd : ∀ j, a ≤ j → j < b → jq_dg (T j)) : jy_E T b ((b : Nat) : Int) :=
  Or.inr ⟨b, rfl, by omega, Nat.le_refl _, Or.inr (hd (b - 1) (by omega) (by omega)), fun j h1 h2 => by omega⟩
def jy_FN : jp_F := [(206, 2, 3), (206, 4, 5), (206, 10, 11), (206, 5, 7)]
theorem jx12_number {T : Nat → Int} {e p : Nat} {lo hi : Int} {s : jl_Mm} (hlo : jl_n3 lo) (hhi : jl_n3 hi) (h : jy_L T e p s) : ((jq_nm T e lo hi p).1 = 0 → jE (jf_X12_number lo hi s) (jq_nm T e lo hi p).2.2 jy_FN s (fun τ => jy_L T e (jq_sk T e (jq_nm T e lo hi p).2.1) τ)) ∧
    ((jq_nm T e lo hi p).1 ≠ 0 → ∃ r, jE (jf_X12_number lo hi s) r jy_FN s (fun τ => jy_K (jq_nm T e lo hi p).1 (jq_nm T e lo hi p).2.1 τ)) := by
  have hpe := h.pe
  have he := h.1
  rw [jf_X12_number, if_pos h.2.2.2.1]
  obtain ⟨τ, e1, f1, z1, hp, hE⟩ := jx12_look h
  have f1' : jp_fr jy_FN s τ := f1.w (by decide)
  have lift : ∀ {o : jl_O} {r : Int} {Q : jl_Mm → Prop}, jE o r jy_FN τ Q → jE o r jy_FN s Q := fun q => jE.fr f1' q
  rw [e1, jp_bd, jx12_digit, jp_bd]
  have bad : jq_nm T e lo hi p = (1, p, lo) → ((jq_nm T e lo hi p).1 = 0 → jE (jf_X12_number_B30 τ) (jq_nm T e lo hi p).2.2 jy_FN s (fun τ => jy_L T e (jq_sk T e (jq_nm T e lo hi p).2.1) τ)) ∧
    ((jq_nm T e lo hi p).1 ≠ 0 → ∃ r, jE (jf_X12_number_B30 τ) r jy_FN s (fun τ => jy_K (jq_nm T e lo hi p).1 (jq_nm T e lo hi p).2.1 τ)) := by
    intro q
    rw [q]
    refine ⟨fun w => by simp at w, fun _ => ⟨0, lift ?_⟩⟩
    rw [jf_X12_number_B30, hp]
    exact jE.bd (jx12_fail (k := 1) z1 (by decide) (by decide) (by omega)) (by decide) (fun τ2 _ z2 => jE.ret z2)
  by_cases hd : p < e ∧ jq_dg (T p)
  · have hd2 : jq_dg (jq_pk T e p) := by rw [jq_pk_in hd.1]; exact hd.2
    rw [if_pos hd2, if_neg (by decide), hp]
    by_cases hpw : jq_pw T p
    · rw [if_pos (hE.pw.mpr hpw)]
      exact bad (by rw [jq_nm, if_pos (Or.inr hpw)])
    · rw [if_neg (fun q => hpw (hE.pw.mp q)), jp_let]
      have I := jx12_numL (lo := lo) (hi := hi) z1 hd.2 hd.1 4 jl_fu p 0 τ jp_fr.rf rfl (Nat.le_refl _) hpe.1 (by decide) hp (Int.le_refl _) (fun _ => rfl) (by omega) (by omega) (by omega) (by omega)
      have hne := jq_ne_all (T := T) (e := e) 4 p hpe.1
      have hpb : p < jq_ne T e 4 p := by
        rw [jq_ne, if_pos hd]
        exact Nat.lt_of_lt_of_le (Nat.lt_succ_self p) (jq_ne_all (T := T) (e := e) 3 (p + 1) (by omega)).1
      have hnm : jq_nm T e lo hi p = if jq_ne T e 4 p < e ∧ jq_dg (T (jq_ne T e 4 p)) then (1, jq_ne T e 4 p, lo) else if jq_nv T (jq_ne T e 4 p - p) p 0 < lo ∨ hi < jq_nv T (jq_ne T e 4 p - p) p 0 then (2, p, lo) else (0, jq_ne T e 4 p, jq_nv T (jq_ne T e 4 p - p) p 0) := by
        rw [jq_nm, if_neg]
        rintro (z | z)
        · exact z hd
        · exact hpw z
      have hvb := jq_nv_b (T := T) (jq_ne T e 4 p - p) p 0 (Int.le_refl _) (fun j j1 j2 => hne.2.2.2 j j1 (by omega))
      have hv4 : jq_nv T (jq_ne T e 4 p - p) p 0 < 10000 := by
        have h4 : jq_ne T e 4 p - p ≤ 4 := by omega
        have : (10 : Int) ^ (jq_ne T e 4 p - p) ≤ 10000 := by
          generalize jq_ne T e 4 p - p = m at h4
          have hm : m = 0 ∨ m = 1 ∨ m = 2 ∨ m = 3 ∨ m = 4 := by omega
          rcases hm with rfl | rfl | rfl | rfl | rfl <;> decide
        omega
      by_cases h5 : jq_ne T e 4 p < e ∧ jq_dg (T (jq_ne T e 4 p))
      · rw [if_pos h5] at hnm
        obtain ⟨τ2, t1, t2, t3⟩ := I.1 h5
        rw [hnm, t1]
        exact ⟨fun w => by simp at w, fun _ => ⟨0, lift ⟨τ2, rfl, t2.w (by decide), t3⟩⟩⟩
      · rw [if_neg h5] at hnm
        obtain ⟨τ2, t1, t2, t3⟩ := I.2 h5
        rw [t1]
        generalize jq_ne T e 4 p = b at *
        generalize jq_nv T (b - p) p 0 = v at *
        have hv0 := hvb.1
        have f12 : jp_fr [(206, 2, 3), (206, 4, 5), (206, 10, 11)] τ (jl_up (jl_up τ2 206 4 (jl_g τ2 206 2)) 206 10 (p : Int)) := ((t2.w (by decide)).up rfl).up rfl
        have g2 : jl_g (jl_up (jl_up τ2 206 4 (jl_g τ2 206 2)) 206 10 (p : Int)) 206 2 = (b : Int) := by
          simp (disch := omega) only [if_pos, if_neg, jp_bd, jp_lm, jp_let, jp_zb0, jp_zb1, jp_add, jp_sub, jp_g_eq, jp_g_eqg, jp_g_ne, jp_g_nei, jp_r_ne, jp_r_nei, Int.toNat_natCast, t3]
        have g4 : jl_g (jl_up (jl_up τ2 206 4 (jl_g τ2 206 2)) 206 10 (p : Int)) 206 4 = (b : Int) := by
          simp (disch := omega) only [if_pos, if_neg, jp_bd, jp_lm, jp_let, jp_zb0, jp_zb1, jp_add, jp_sub, jp_g_eq, jp_g_eqg, jp_g_ne, jp_g_nei, jp_r_ne, jp_r_nei, Int.toNat_natCast, t3]
        have g10 : jl_g (jl_up (jl_up τ2 206 4 (jl_g τ2 206 2)) 206 10 (p : Int)) 206 10 = (p : Int) := by
          simp (disch := omega) only [if_pos, if_neg, jp_bd, jp_lm, jp_let, jp_zb0, jp_zb1, jp_add, jp_sub, jp_g_eq, jp_g_eqg, jp_g_ne, jp_g_nei, jp_r_ne, jp_r_nei, Int.toNat_natCast]
        rw [jf_X12_number_B129, jp_lm, jp_lm]
        generalize jl_up (jl_up τ2 206 4 (jl_g τ2 206 2)) 206 10 (p : Int) = υ at *
        have zL : jy_L T e (jq_sk T e b) υ := z1.mv f12 (by intro c i hc; simp [jp_in] at hc; omega) g2 hne.2.1 (by rw [g4]; exact jy_E.num hpb hne.2.2.2)
        rw [jx12_isIn υ ⟨by omega, by omega⟩ (jl_n36 hlo) (jl_n36 hhi), jp_bd]
        by_cases hr : lo ≤ v ∧ v ≤ hi
        · rw [if_neg (by omega)] at hnm
          rw [if_pos hr, if_neg (by decide), jf_X12_number_B164, hnm]
          exact ⟨fun _ => lift ⟨υ, rfl, f12.w (by decide), zL⟩, fun w => absurd rfl w⟩
        · rw [if_pos (by omega)] at hnm
          rw [if_neg hr, if_pos rfl, hnm, g10]
          refine ⟨fun w => by simp at w, fun _ => ⟨v, lift (jE.fr (f12.w (by decide)) ?_)⟩⟩
          exact jE.bd (jx12_fail (k := 2) zL (by decide) (by decide) (by omega)) (by decide) (fun τ3 _ z3 => jE.ret z3)
  · have hnd : ¬ jq_dg (jq_pk T e p) := by
      intro q
      apply hd
      by_cases w : p < e
      · rw [jq_pk_in w] at q; exact ⟨w, q⟩
      · rw [jq_pk_end (by omega)] at q; exact absurd q (by decide)
    rw [if_neg hnd, if_pos rfl]
    exact bad (by rw [jq_nm, if_pos (Or.inl hd)])
