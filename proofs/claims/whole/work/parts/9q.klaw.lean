/-! PURE: the law, over all calls -/
def kw_P (o : jl_O) : Prop := ∃ σ, o = some (1, σ)
theorem kw_l0 (a : Int) : jl_lcmp a a = 0 := by
  have e : jl_lcmp a a = jl_lcmp (jl_i6 a).toInt (jl_i6 a).toInt := by rw [jl_lcmp, jl_lcmp, jl_i6_to]
  rw [e, jp_lcmp (jl_n6_to _) (jl_n6_to _), if_neg (Int.lt_irrefl _), if_pos rfl]
theorem kw_0 {fc fr K : jl_Mm → jl_O} {s : jl_Mm}  (hI : kI_call fc fr) (hs : kI s) (hK : ∀ u, kI u → kw_P (K u)) : kw_P ( jl_bd (fc s) (fun r t =>  jl_bd (fr t) (fun q u => if r = q then K u else none))) := by
  obtain ⟨r, τ, υ, t1, t2, t3⟩ := hI s hs
  rw [t1, jp_bd, t2, jp_bd, if_pos rfl]
  exact hK υ t3
theorem kw_1 {L i1 : Int} {fc fr K : jl_Mm → jl_O} {s : jl_Mm} (h1 : 0 ≤ i1 ∧ i1 < L) (hI : kI_call fc fr) (hs : kI s) (hK : ∀ u, kI u → kw_P (K u)) : kw_P (if 0 ≤ i1 ∧ i1 < L then jl_bd (fc s) (fun r t => if 0 ≤ i1 ∧ i1 < L then jl_bd (fr t) (fun q u => if r = q then K u else none) else none) else none) := by
  obtain ⟨r, τ, υ, t1, t2, t3⟩ := hI s hs
  rw [if_pos h1, t1, jp_bd, if_pos h1, t2, jp_bd, if_pos rfl]
  exact hK υ t3
theorem kw_2 {L i1 i2 : Int} {fc fr K : jl_Mm → jl_O} {s : jl_Mm} (h1 : 0 ≤ i1 ∧ i1 < L) (h2 : 0 ≤ i2 ∧ i2 < L) (hI : kI_call fc fr) (hs : kI s) (hK : ∀ u, kI u → kw_P (K u)) : kw_P (if 0 ≤ i1 ∧ i1 < L then if 0 ≤ i2 ∧ i2 < L then jl_bd (fc s) (fun r t => if 0 ≤ i1 ∧ i1 < L then if 0 ≤ i2 ∧ i2 < L then jl_bd (fr t) (fun q u => if r = q then K u else none) else none else none) else none else none) := by
  obtain ⟨r, τ, υ, t1, t2, t3⟩ := hI s hs
  rw [if_pos h1, if_pos h2, t1, jp_bd, if_pos h1, if_pos h2, t2, jp_bd, if_pos rfl]
  exact hK υ t3
theorem kw_3 {L i1 i2 i3 : Int} {fc fr K : jl_Mm → jl_O} {s : jl_Mm} (h1 : 0 ≤ i1 ∧ i1 < L) (h2 : 0 ≤ i2 ∧ i2 < L) (h3 : 0 ≤ i3 ∧ i3 < L) (hI : kI_call fc fr) (hs : kI s) (hK : ∀ u, kI u → kw_P (K u)) : kw_P (if 0 ≤ i1 ∧ i1 < L then if 0 ≤ i2 ∧ i2 < L then if 0 ≤ i3 ∧ i3 < L then jl_bd (fc s) (fun r t => if 0 ≤ i1 ∧ i1 < L then if 0 ≤ i2 ∧ i2 < L then if 0 ≤ i3 ∧ i3 < L then jl_bd (fr t) (fun q u => if r = q then K u else none) else none else none else none) else none else none else none) := by
  obtain ⟨r, τ, υ, t1, t2, t3⟩ := hI s hs
  rw [if_pos h1, if_pos h2, if_pos h3, t1, jp_bd, if_pos h1, if_pos h2, if_pos h3, t2, jp_bd, if_pos rfl]
  exact hK υ t3
theorem kw_5 {L i1 i2 i3 i4 i5 : Int} {fc fr K : jl_Mm → jl_O} {s : jl_Mm} (h1 : 0 ≤ i1 ∧ i1 < L) (h2 : 0 ≤ i2 ∧ i2 < L) (h3 : 0 ≤ i3 ∧ i3 < L) (h4 : 0 ≤ i4 ∧ i4 < L) (h5 : 0 ≤ i5 ∧ i5 < L) (hI : kI_call fc fr) (hs : kI s) (hK : ∀ u, kI u → kw_P (K u)) : kw_P (if 0 ≤ i1 ∧ i1 < L then if 0 ≤ i2 ∧ i2 < L then if 0 ≤ i3 ∧ i3 < L then if 0 ≤ i4 ∧ i4 < L then if 0 ≤ i5 ∧ i5 < L then jl_bd (fc s) (fun r t => if 0 ≤ i1 ∧ i1 < L then if 0 ≤ i2 ∧ i2 < L then if 0 ≤ i3 ∧ i3 < L then if 0 ≤ i4 ∧ i4 < L then if 0 ≤ i5 ∧ i5 < L then jl_bd (fr t) (fun q u => if r = q then K u else none) else none else none else none else none else none) else none else none else none else none else none) := by
  obtain ⟨r, τ, υ, t1, t2, t3⟩ := hI s hs
  rw [if_pos h1, if_pos h2, if_pos h3, if_pos h4, if_pos h5, t1, jp_bd, if_pos h1, if_pos h2, if_pos h3, if_pos h4, if_pos h5, t2, jp_bd, if_pos rfl]
  exact hK υ t3
theorem kw_0l {fc fr K : jl_Mm → jl_O} {s : jl_Mm}  (hI : kI_call fc fr) (hs : kI s) (hK : ∀ u, kI u → kw_P (K u)) : kw_P ( jl_bd (fc s) (fun r t =>  jl_bd (fr t) (fun q u => if jl_lcmp r q = 0 then K u else none))) := by
  obtain ⟨r, τ, υ, t1, t2, t3⟩ := hI s hs
  rw [t1, jp_bd, t2, jp_bd, kw_l0, if_pos rfl]
  exact hK υ t3
theorem kw_loop {L : Nat} {xs : Nat → Int32} (hL : L ≤ 3072) : ∀ (m k n : Nat) (s : jl_Mm), L < 6 * (k + m) → m < n → kI s → kw_P (jf_L_law_L18 L xs n ((6 * k : Nat) : Int) s) := by
  intro m
  induction m with
  | zero =>
    intro k n s hk hn hs
    obtain ⟨n, rfl⟩ : ∃ j, n = j + 1 := ⟨n - 1, by omega⟩
    rw [jf_L_law_L18, jp_sub (by omega) (by omega), if_pos (by omega)]
    exact ⟨s, rfl⟩
  | succ m ih =>
    intro k n s hk hn hs
    obtain ⟨n, rfl⟩ : ∃ j, n = j + 1 := ⟨n - 1, by omega⟩
    rw [jf_L_law_L18, jp_sub (by omega) (by omega)]
    by_cases c : (L : Int) - 6 < ((6 * k : Nat) : Int)
    · rw [if_pos c]; exact ⟨s, rfl⟩
    have e6 : jl_add ((6 * k : Nat) : Int) 6 = ((6 * (k + 1) : Nat) : Int) := by rw [jp_add (by omega) (by omega)]; omega
    have nx : ∀ u, kI u → kw_P (jf_L_law_B1181 L xs (jf_L_law_L18 L xs n) ((6 * k : Nat) : Int) u) := fun u hu => by
      rw [jf_L_law_B1181, e6]
      exact ih (k + 1) n u (by omega) (by omega) hu
    have hn3 := fun i : Nat => jl_n3_to (xs i)
    rw [if_neg c, if_pos (by omega), jp_let]
    have a1 : 0 ≤ jl_add ((6 * k : Nat) : Int) 1 ∧ jl_add ((6 * k : Nat) : Int) 1 < ((L : Nat) : Int) := by rw [jp_add (by omega) (by omega)]; omega
    have a2 : 0 ≤ jl_add ((6 * k : Nat) : Int) 2 ∧ jl_add ((6 * k : Nat) : Int) 2 < ((L : Nat) : Int) := by rw [jp_add (by omega) (by omega)]; omega
    have a3 : 0 ≤ jl_add ((6 * k : Nat) : Int) 3 ∧ jl_add ((6 * k : Nat) : Int) 3 < ((L : Nat) : Int) := by rw [jp_add (by omega) (by omega)]; omega
    have a4 : 0 ≤ jl_add ((6 * k : Nat) : Int) 4 ∧ jl_add ((6 * k : Nat) : Int) 4 < ((L : Nat) : Int) := by rw [jp_add (by omega) (by omega)]; omega
    have a5 : 0 ≤ jl_add ((6 * k : Nat) : Int) 5 ∧ jl_add ((6 * k : Nat) : Int) 5 < ((L : Nat) : Int) := by rw [jp_add (by omega) (by omega)]; omega
    generalize jl_and ((xs ((6 * k : Nat) : Int).toNat).toInt) 63 = X
    by_cases c0 : X = 0
    · rw [if_pos c0]
      exact kw_5 a1 a2 a3 a4 a5 kI_feed hs nx
    rw [if_neg c0]
    by_cases c1 : X = 1
    · rw [if_pos c1]
      exact kw_1 a1 kI_end hs nx
    rw [if_neg c1]
    by_cases c2 : X = 2
    · rw [if_pos c2]
      exact kw_0  kI_street hs nx
    rw [if_neg c2]
    by_cases c3 : X = 3
    · rw [if_pos c3]
      exact kw_1 a1 kI_fault hs nx
    rw [if_neg c3]
    by_cases c4 : X = 4
    · rw [if_pos c4]
      exact kw_1 a1 kI_has hs nx
    rw [if_neg c4]
    by_cases c5 : X = 5
    · rw [if_pos c5]
      exact kw_3 a1 a2 a3 (kI_letter (hn3 _) (hn3 _) (hn3 _)) hs nx
    rw [if_neg c5]
    by_cases c6 : X = 6
    · rw [if_pos c6]
      exact kw_2 a1 a2 (kI_person (hn3 _)) hs nx
    rw [if_neg c6]
    by_cases c7 : X = 7
    · rw [if_pos c7]
      exact kw_2 a1 a2 (kI_lie (hn3 _)) hs nx
    rw [if_neg c7]
    by_cases c8 : X = 8
    · rw [if_pos c8]
      exact kw_2 a1 a2 (kI_draft (hn3 _) (hn3 _)) hs nx
    rw [if_neg c8]
    by_cases c9 : X = 9
    · rw [if_pos c9]
      exact kw_2 a1 a2 (kI_plan (hn3 _) (hn3 _)) hs nx
    rw [if_neg c9]
    by_cases c10 : X = 10
    · rw [if_pos c10]
      exact kw_2 a1 a2 (kI_kept (hn3 _) (hn3 _)) hs nx
    rw [if_neg c10]
    by_cases c11 : X = 11
    · rw [if_pos c11]
      exact kw_2 a1 a2 (kI_later (hn3 _) (hn3 _)) hs nx
    rw [if_neg c11]
    by_cases c12 : X = 12
    · rw [if_pos c12]
      exact kw_2 a1 a2 (kI_held (hn3 _) (hn3 _)) hs nx
    rw [if_neg c12]
    by_cases c13 : X = 13
    · rw [if_pos c13]
      exact kw_1 a1 (kI_out (hn3 _)) hs nx
    rw [if_neg c13]
    by_cases c14 : X = 14
    · rw [if_pos c14]
      exact kw_2 a1 a2 (kI_trusted (hn3 _) (hn3 _)) hs nx
    rw [if_neg c14]
    by_cases c15 : X = 15
    · rw [if_pos c15]
      exact kw_2 a1 a2 (kI_shorts (hn3 _) (hn3 _)) hs nx
    rw [if_neg c15]
    by_cases c16 : X = 16
    · rw [if_pos c16]
      exact kw_2 a1 a2 (kI_together (hn3 _) (hn3 _)) hs nx
    rw [if_neg c16]
    by_cases c17 : X = 17
    · rw [if_pos c17]
      exact kw_2 a1 a2 (kI_keystone (hn3 _) (hn3 _)) hs nx
    rw [if_neg c17]
    by_cases c18 : X = 18
    · rw [if_pos c18]
      exact kw_2 a1 a2 (kI_change (hn3 _) (hn3 _)) hs nx
    rw [if_neg c18]
    by_cases c19 : X = 19
    · rw [if_pos c19]
      exact kw_1 a1 (kI_odds (hn3 _)) hs nx
    rw [if_neg c19]
    by_cases c20 : X = 20
    · rw [if_pos c20]
      exact kw_0  kI_sees hs nx
    rw [if_neg c20]
    by_cases c21 : X = 21
    · rw [if_pos c21]
      exact kw_2 a1 a2 (kI_inches (hn3 _) (hn3 _)) hs nx
    rw [if_neg c21]
    by_cases c22 : X = 22
    · rw [if_pos c22]
      exact kw_2 a1 a2 (kI_tells (hn3 _) (hn3 _)) hs nx
    rw [if_neg c22]
    by_cases c23 : X = 23
    · rw [if_pos c23]
      exact kw_2 a1 a2 (kI_light (hn3 _) (hn3 _)) hs nx
    rw [if_neg c23]
    by_cases c24 : X = 24
    · rw [if_pos c24]
      exact kw_1 a1 (kI_snuff (hn3 _)) hs nx
    rw [if_neg c24]
    by_cases c25 : X = 25
    · rw [if_pos c25]
      exact kw_2 a1 a2 (kI_move (hn3 _) (hn3 _)) hs nx
    rw [if_neg c25]
    by_cases c26 : X = 26
    · rw [if_pos c26]
      exact kw_1 a1 (kI_buy (hn3 _)) hs nx
    rw [if_neg c26]
    by_cases c27 : X = 27
    · rw [if_pos c27]
      exact kw_1 a1 (kI_hours (hn3 _)) hs nx
    rw [if_neg c27]
    by_cases c28 : X = 28
    · rw [if_pos c28]
      exact kw_1 a1 (kI_chance (hn3 _)) hs nx
    rw [if_neg c28]
    by_cases c29 : X = 29
    · rw [if_pos c29]
      exact kw_0  kI_undo hs nx
    rw [if_neg c29]
    by_cases c30 : X = 30
    · rw [if_pos c30]
      exact kw_1 a1 (kI_seed (hn3 _)) hs nx
    rw [if_neg c30]
    by_cases c31 : X = 31
    · rw [if_pos c31]
      exact kw_0l  kI_ask hs nx
    rw [if_neg c31]
    by_cases c32 : X = 32
    · rw [if_pos c32]
      exact kw_0  kI_image hs nx
    rw [if_neg c32]
    by_cases c33 : X = 33
    · rw [if_pos c33]
      exact kw_1 a1 kI_octet hs nx
    rw [if_neg c33]
    by_cases c34 : X = 34
    · rw [if_pos c34]
      exact kw_0  kI_on hs nx
    rw [if_neg c34]
    by_cases c35 : X = 35
    · rw [if_pos c35]
      exact kw_1 a1 (kI_status (hn3 _)) hs nx
    rw [if_neg c35]
    exact nx s hs
