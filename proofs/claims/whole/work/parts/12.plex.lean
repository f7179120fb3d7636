/-! PURE: bytes, blanks, words, numbers: T the bytes, e how many -/
abbrev jq_bl (c : Int) : Prop := c = 32 ∨ c = 10
abbrev jq_lt (c : Int) : Prop := 97 ≤ c ∧ c ≤ 122
abbrev jq_dg (c : Int) : Prop := 48 ≤ c ∧ c ≤ 57
abbrev jq_iw (c : Int) : Prop := (97 ≤ c ∧ c ≤ 122) ∨ (48 ≤ c ∧ c ≤ 57)
def jq_skf (T : Nat → Int) : Nat → Nat → Nat
  | 0, a => a
  | n + 1, a => if jq_bl (T a) then jq_skf T n (a + 1) else a
/-- the place behind blanks -/
def jq_sk (T : Nat → Int) (e a : Nat) : Nat := jq_skf T (e - a) a
theorem jq_sk_step {T : Nat → Int} {e a : Nat} (h : a < e) (hb : jq_bl (T a)) : jq_sk T e a = jq_sk T e (a + 1) := by
  have q : e - a = (e - (a + 1)) + 1 := by omega
  rw [jq_sk, q, jq_skf, if_pos hb, jq_sk]
theorem jq_sk_stop {T : Nat → Int} {e a : Nat} (hb : ¬ jq_bl (T a)) : jq_sk T e a = a := by
  rw [jq_sk]
  cases e - a with
  | zero => rfl
  | succ n => rw [jq_skf, if_neg hb]
theorem jq_sk_end {T : Nat → Int} {e a : Nat} (h : e ≤ a) : jq_sk T e a = a := by
  have q : e - a = 0 := by omega
  rw [jq_sk, q, jq_skf]
theorem jq_skf_all {T : Nat → Int} : ∀ (n a : Nat), a ≤ jq_skf T n a ∧ jq_skf T n a ≤ a + n ∧ (jq_skf T n a < a + n → ¬ jq_bl (T (jq_skf T n a))) ∧ ∀ j, a ≤ j → j < jq_skf T n a → jq_bl (T j) := by
  intro n
  induction n with
  | zero => intro a; refine ⟨Nat.le_refl _, Nat.le_refl _, fun h => absurd h (Nat.lt_irrefl _), fun j h1 h2 => ?_⟩; exact absurd (Nat.lt_of_le_of_lt h1 h2) (Nat.lt_irrefl _)
  | succ n ih =>
    intro a
    rw [jq_skf]
    by_cases h : jq_bl (T a)
    · rw [if_pos h]
      obtain ⟨h1, h2, h3, h4⟩ := ih (a + 1)
      refine ⟨by omega, by omega, fun q => h3 (by omega), fun j q1 q2 => ?_⟩
      by_cases hj : j = a
      · rw [hj]; exact h
      · exact h4 j (by omega) q2
    · rw [if_neg h]
      exact ⟨Nat.le_refl _, by omega, fun _ => h, fun j q1 q2 => by omega⟩
theorem jq_sk_ge {T : Nat → Int} {e a : Nat} : a ≤ jq_sk T e a := (jq_skf_all _ _).1
theorem jq_sk_ub {T : Nat → Int} {e a : Nat} (h : a ≤ e) : jq_sk T e a ≤ e := by
  have := (jq_skf_all (T := T) (e - a) a).2.1
  rw [jq_sk]
  omega
theorem jq_sk_nb {T : Nat → Int} {e a : Nat} (h : jq_sk T e a < e) : ¬ jq_bl (T (jq_sk T e a)) := by
  have q := (jq_skf_all (T := T) (e - a) a).2.2.1
  by_cases hea : a ≤ e
  · exact q (by rw [jq_sk] at h; omega)
  · have := jq_sk_ge (T := T) (e := e) (a := a)
    omega
theorem jq_sk_b {T : Nat → Int} {e a j : Nat} (h1 : a ≤ j) (h2 : j < jq_sk T e a) : jq_bl (T j) := (jq_skf_all _ _).2.2.2 j h1 h2
theorem jq_sk_idem {T : Nat → Int} {e a : Nat} : jq_sk T e (jq_sk T e a) = jq_sk T e a := by
  by_cases h : jq_sk T e a < e
  · exact jq_sk_stop (jq_sk_nb h)
  · exact jq_sk_end (by omega)
/-- the byte at a place; -1 behind the last -/
def jq_pk (T : Nat → Int) (e a : Nat) : Int := if a < e then T a else -1
theorem jq_pk_in {T : Nat → Int} {e a : Nat} (h : a < e) : jq_pk T e a = T a := if_pos h
theorem jq_pk_end {T : Nat → Int} {e a : Nat} (h : e ≤ a) : jq_pk T e a = -1 := if_neg (by omega)
/-- behind letters -/
def jq_wef (T : Nat → Int) : Nat → Nat → Nat
  | 0, a => a
  | n + 1, a => if jq_lt (T a) then jq_wef T n (a + 1) else a
def jq_we (T : Nat → Int) (e a : Nat) : Nat := jq_wef T (e - a) a
theorem jq_we_step {T : Nat → Int} {e a : Nat} (h : a < e) (hb : jq_lt (T a)) : jq_we T e a = jq_we T e (a + 1) := by
  have q : e - a = (e - (a + 1)) + 1 := by omega
  rw [jq_we, q, jq_wef, if_pos hb, jq_we]
theorem jq_we_stop {T : Nat → Int} {e a : Nat} (hb : ¬ jq_lt (T a)) : jq_we T e a = a := by
  rw [jq_we]
  cases e - a with
  | zero => rfl
  | succ n => rw [jq_wef, if_neg hb]
theorem jq_we_end {T : Nat → Int} {e a : Nat} (h : e ≤ a) : jq_we T e a = a := by
  have q : e - a = 0 := by omega
  rw [jq_we, q, jq_wef]
theorem jq_wef_all {T : Nat → Int} : ∀ (n a : Nat), a ≤ jq_wef T n a ∧ jq_wef T n a ≤ a + n ∧ (jq_wef T n a < a + n → ¬ jq_lt (T (jq_wef T n a))) ∧ ∀ j, a ≤ j → j < jq_wef T n a → jq_lt (T j) := by
  intro n
  induction n with
  | zero => intro a; refine ⟨Nat.le_refl _, Nat.le_refl _, fun h => absurd h (Nat.lt_irrefl _), fun j h1 h2 => ?_⟩; exact absurd (Nat.lt_of_le_of_lt h1 h2) (Nat.lt_irrefl _)
  | succ n ih =>
    intro a
    rw [jq_wef]
    by_cases h : jq_lt (T a)
    · rw [if_pos h]
      obtain ⟨h1, h2, h3, h4⟩ := ih (a + 1)
      refine ⟨by omega, by omega, fun q => h3 (by omega), fun j q1 q2 => ?_⟩
      by_cases hj : j = a
      · rw [hj]; exact h
      · exact h4 j (by omega) q2
    · rw [if_neg h]
      exact ⟨Nat.le_refl _, by omega, fun _ => h, fun j q1 q2 => by omega⟩
theorem jq_we_ge {T : Nat → Int} {e a : Nat} : a ≤ jq_we T e a := (jq_wef_all _ _).1
theorem jq_we_ub {T : Nat → Int} {e a : Nat} (h : a ≤ e) : jq_we T e a ≤ e := by
  have := (jq_wef_all (T := T) (e - a) a).2.1
  rw [jq_we]
  omega
theorem jq_we_l {T : Nat → Int} {e a j : Nat} (h1 : a ≤ j) (h2 : j < jq_we T e a) : jq_lt (T j) := (jq_wef_all _ _).2.2.2 j h1 h2
theorem jq_we_nl {T : Nat → Int} {e a : Nat} (h0 : a ≤ e) (h : jq_we T e a < e) : ¬ jq_lt (T (jq_we T e a)) := (jq_wef_all (T := T) (e - a) a).2.2.1 (by rw [jq_we] at h; omega)
/-- behind a byte of a word -/
abbrev jq_pw (T : Nat → Int) (a : Nat) : Prop := 0 < a ∧ jq_iw (T (a - 1))
/-- a word begins at a -/
abbrev jq_bg (T : Nat → Int) (e a : Nat) : Prop := a < e ∧ jq_lt (T a) ∧ ¬ jq_pw T a
/-- the bytes from a up to b -/
def jq_sl (T : Nat → Int) (a b : Nat) : List Int := (List.range (b - a)).map (fun i => T (a + i))
theorem jq_sl_len {T : Nat → Int} {a b : Nat} : (jq_sl T a b).length = b - a := by simp [jq_sl]
theorem jq_sl_get {T : Nat → Int} {a b i : Nat} (h : i < b - a) : (jq_sl T a b)[i]? = some (T (a + i)) := by simp [jq_sl, h]
theorem jq_sl_eq {T : Nat → Int} {a b : Nat} {u : List Int} : jq_sl T a b = u ↔ (b - a = u.length ∧ ∀ i (h : i < u.length), T (a + i) = u[i]) := by
  constructor
  · rintro rfl
    refine ⟨jq_sl_len.symm, fun i h => ?_⟩
    rw [jq_sl_len] at h
    have := jq_sl_get (T := T) h
    rw [List.getElem?_eq_getElem (by rw [jq_sl_len]; exact h)] at this
    exact (Option.some.inj this).symm
  · rintro ⟨h1, h2⟩
    apply List.ext_getElem?
    intro i
    by_cases h : i < u.length
    · rw [jq_sl_get (by omega), List.getElem?_eq_getElem h, h2 i h]
    · rw [List.getElem?_eq_none (by rw [jq_sl_len]; omega), List.getElem?_eq_none (by omega)]
/-- the first place of a word in a list of words -/
def jq_ix (u : List Int) : List (List Int) → Int → Int
  | [], _ => -1
  | w :: ws, k => if u = w then k else jq_ix u ws (k + 1)
def jq_cw (T : Nat → Int) (b w : Nat) : List Int → Int → Nat → Bool → Int
  | [], _, _, _ => -1
  | c :: cs, k, j, m => if c = 32 then (if m = true ∧ j = w then k else jq_cw T b w cs (k + 1) b true) else jq_cw T b w cs k (j + 1) (m && decide (j < w) && decide (T j = c))
theorem jq_cw_w {T : Nat → Int} {b w : Nat} : ∀ (u cs : List Int) (k : Int) (j : Nat) (m : Bool), (∀ c ∈ u, c ≠ 32) → jq_cw T b w (u ++ 32 :: cs) k j m = if m = true ∧ w = j + u.length ∧ ∀ i (h : i < u.length), T (j + i) = u[i] then k else jq_cw T b w cs (k + 1) b true := by
  intro u
  induction u with
  | nil =>
    intro cs k j m _
    simp only [List.nil_append, jq_cw, if_true]
    by_cases h : m = true ∧ j = w
    · rw [if_pos h, if_pos ⟨h.1, by simpa using h.2.symm, by simp⟩]
    · rw [if_neg h, if_neg (fun q => h ⟨q.1, by simpa using q.2.1.symm⟩)]
  | cons c u ih =>
    intro cs k j m hu
    have hc : c ≠ 32 := hu c List.mem_cons_self
    rw [List.cons_append, jq_cw, if_neg hc, ih _ _ _ _ (fun c h => hu c (List.mem_cons_of_mem _ h))]
    by_cases h : m = true ∧ w = j + (c :: u).length ∧ ∀ i (h : i < (c :: u).length), T (j + i) = (c :: u)[i]
    · rw [if_pos h, if_pos]
      obtain ⟨h1, h2, h3⟩ := h
      have h4 := h3 0 (by simp)
      simp only [List.length_cons] at h2
      refine ⟨by simp only [h1, Bool.true_and, Bool.and_eq_true, decide_eq_true_eq]; exact ⟨by omega, by simpa using h4⟩, by omega, fun i hi => ?_⟩
      have h5 := h3 (i + 1) (by simp only [List.length_cons]; omega)
      simp only [List.getElem_cons_succ] at h5
      rw [← h5]
      congr 1
      omega
    · rw [if_neg h, if_neg]
      rintro ⟨h1, h2, h3⟩
      simp only [Bool.and_eq_true, decide_eq_true_eq] at h1
      refine h ⟨h1.1.1, by simp only [List.length_cons]; omega, fun i hi => ?_⟩
      cases i with
      | zero => simpa using h1.2
      | succ i =>
        have h5 := h3 i (by simp only [List.length_cons] at hi; omega)
        simp only [List.getElem_cons_succ]
        rw [← h5]
        congr 1
        omega
theorem jq_cw_ws {T : Nat → Int} {b w : Nat} (hbw : b ≤ w) : ∀ (ws : List (List Int)) (k : Int), (∀ u ∈ ws, ∀ c ∈ u, c ≠ 32) → jq_cw T b w (ws.flatMap (fun u => u ++ [32])) k b true = jq_ix (jq_sl T b w) ws k := by
  intro ws
  induction ws with
  | nil => intro k _; rfl
  | cons u ws ih =>
    intro k hu
    have e1 : (u :: ws).flatMap (fun u => u ++ [32]) = u ++ 32 :: ws.flatMap (fun u => u ++ [32]) := by simp
    rw [e1, jq_cw_w _ _ _ _ _ (hu u List.mem_cons_self), ih _ (fun v hv => hu v (List.mem_cons_of_mem _ hv)), jq_ix]
    by_cases h : jq_sl T b w = u
    · rw [if_pos h, if_pos]
      obtain ⟨h1, h2⟩ := jq_sl_eq.mp h
      exact ⟨rfl, by omega, h2⟩
    · rw [if_neg h, if_neg]
      rintro ⟨-, h1, h2⟩
      exact h (jq_sl_eq.mpr ⟨by omega, h2⟩)
/-- the words -/
def jq_WL : List (List Int) := [[115, 116, 114, 101, 101, 116], [112, 101, 114, 115, 111, 110], [97, 116], [116, 114, 117, 115, 116], [108, 105, 101], [111, 102], [104, 97, 110, 103, 115], [111, 110], [108, 105, 103, 104, 116], [102, 111, 114], [116, 97, 108, 108, 111, 119], [100, 114, 97, 102, 116, 115], [98, 117, 114, 110, 115], [98, 101, 108, 105, 101, 118, 101, 115], [103, 117, 115, 116], [105, 110, 99, 104, 101, 115], [110, 101, 97, 114], [100, 114, 97, 102, 116], [116, 111, 108, 100], [104, 111, 117, 114], [112, 108, 97, 99, 101], [110, 117, 109, 98, 101, 114], [108, 105, 116], [104, 101, 108, 100], [119, 97, 120], [103, 108, 111, 119], [111, 114], [97, 110, 100], [110, 111, 116], [97, 108, 108], [109, 105, 110], [109, 97, 120], [102, 105, 114, 115, 116], [108, 97, 115, 116], [111, 102, 116, 101, 110], [116, 111, 116, 97, 108], [109, 111, 115, 116], [108, 101, 97, 115, 116]]
theorem jq_WL_b : ∀ u ∈ jq_WL, ∀ c ∈ u, c ≠ 32 := by decide +kernel
theorem jq_WL_f : jq_WL.flatMap (fun u => u ++ [32]) = (List.range 199).map (fun i => jl_ch ((i : Nat) : Int)) := by decide +kernel
