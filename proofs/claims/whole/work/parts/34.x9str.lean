/-! PURE, the class's street reader: a whole street -/
/-- the class's Street H holds the street of r -/
def jz_E (H : Nat) (r : List Int × jz_Z) (τ : jl_Mm) : Prop :=
  jz_R H r.2 τ ∧ jz_X True (H + 10) r τ ∧ (0 ≤ jl_g τ H 2 ∧ jl_g τ H 2 ≤ 6) ∧ (0 ≤ jl_g τ H 3 ∧ jl_g τ H 3 ≤ 8) ∧ (0 ≤ jl_g τ H 4 ∧ jl_g τ H 4 ≤ 16)
theorem jz_pcF {T : Nat → Int} {e : Nat} {st : jq_S} (h : jq_pc T e st ≠ -1) : st.1 = 0 := by
  apply Classical.byContradiction
  intro z
  apply h
  rw [jq_pc, jq_at, if_neg z, jq_pk_end (Nat.le_refl _)]
theorem jz_stm0 {T : Nat → Int} {e k : Nat} {Z : jz_Z} {st : jq_S} (h : 0 ≤ Z.1 0 ∧ Z.1 0 ≤ (k : Int)) : 0 ≤ (jz_stm T e k Z st).2.1 0 ∧ (jz_stm T e k Z st).2.1 0 ≤ ((k + 1 : Nat) : Int) := by
  rw [jz_stm]
  split
  · show 0 ≤ Z.1 0 ∧ Z.1 0 ≤ _
    omega
  · split
    · show 0 ≤ Z.1 0 + 1 ∧ Z.1 0 + 1 ≤ _
      omega
    · show 0 ≤ Z.1 0 ∧ Z.1 0 ≤ _
      omega
theorem jz_unR {H : Nat} {r : List Int × jz_Z} {τ : jl_Mm} (h : jz_R H r.2 τ) : jz_R H (jz_un r).2 τ := by
  have u : ∀ w cs r, jz_R H r.2 τ → jz_R H (jz_ut w cs r).2 τ := by
    intro w cs r h
    rw [jz_ut]
    split
    · exact h
    · obtain ⟨h1, h2, h3, h4⟩ := h
      have e : ∀ k, k < 7 → (jz_s (jz_s r.2 (10 + w) (r.1.length : Int)) (20 + w) ((r.1.length + cs.length : Nat) : Int)).1 k = r.2.1 k := by
        intro k hk
        simp only [jz_s]
        rw [if_neg (by omega), if_neg (by omega)]
      refine ⟨fun k hk => (h1 k hk).trans (e k hk).symm, fun i hi => ?_, fun i hi => ?_, fun i hi => ?_⟩
      · rw [e 2 (by decide)] at hi; exact h2 i hi
      · rw [e 3 (by decide)] at hi; exact h3 i hi
      · rw [e 4 (by decide)] at hi; exact h4 i hi
  exact u _ _ _ (u _ _ _ (u _ _ _ h))
def jz_FA (H : Nat) : jp_F := (39, 1, 2) :: (38, 1, 2) :: jz_FC H
/-- what a street leaves -/
def jz_Q (T : Nat → Int) (e H : Nat) (r : jq_S × jz_Z) (τ : jl_Mm) : Prop :=
  jq_P T e τ ∧ jl_g τ 38 7 = (r.1.1 : Int) ∧ jl_g τ 38 8 = (if r.1.1 = 0 then -1 else (r.1.2.1 : Int)) ∧ (r.1.1 = 0 → jz_E H (jz_un (r.1.2.2, r.2)) τ) ∧ (∃ w : Nat, (w = 0 ∨ w = 1 ∨ w = 2) ∧ jl_g τ (H + 10) 5 = (w : Int))
theorem jz_FUC {H : Nat} : ((jz_FU (H + 10)).all fun x => (jz_FC H).contains x || x == (H + 10, 4, 5) || x == (H + 10, 5, 6)) = true := by simp [jz_FU, jz_FC]
theorem jx9_done {T : Nat → Int} {e H : Nat} {r : jq_S × jz_Z} {s : jl_Mm} (hH : jz_Hq H) (h : jz_I T e H r s) : jE (jf_X9_readAll_B135 H s) 0 (jz_FC H) s (jz_Q T e H r) := by
  obtain ⟨⟨w, f, hw, hB⟩, hs, hok⟩ := h
  obtain ⟨⟨c1, c2, c3, c3b, c4, c5, c6⟩, h2, h3, b0, b2, b3, b4, hR⟩ := hB
  have he := c1.1
  have hX : jz_X (r.1.1 = 0) (H + 10) (r.1.2.2, r.2) s := by
    refine ⟨⟨c3b, fun z => ?_⟩, fun z => (hok z).1, w, hw, c3⟩
    obtain ⟨-, -, k, -⟩ := c5 z
    exact ⟨k.1, k.2.2.1⟩
  have hl : r.1.1 = 0 → (r.1.2.2, r.2).1.length ≤ 1600 := by
    intro z
    have a := (c5 z).2.2.2.2
    have b := hs.1
    show r.1.2.2.length ≤ 1600
    omega
  have hw' : ∀ c i, jp_in (jz_FU (H + 10)) c i = true → jp_in (jz_FC H) c i = true := by
    intro c i
    simp [jp_in, jz_FU, jz_FC]
    omega
  have no : ∀ c i, (c < H + 10 ∨ H + 15 ≤ c) → jp_in (jz_FU (H + 10)) c i = false := by
    intro c i hc
    simp [jp_in, jz_FU]
    omega
  have hH38 : H + 14 < 38 ∧ 2 < H := by rcases hH with rfl | rfl <;> decide
  obtain ⟨τ, t1, t2, t3⟩ := jx0_untold (by rcases hH with rfl | rfl <;> decide) hX hl
  rw [jf_X9_readAll_B135, t1, jp_bd]
  refine ⟨τ, rfl, t2.ws hw', c1.fr t2 (no _ _ (by omega)) (fun i => no _ _ (by omega)), ?_, ?_, fun z => ⟨?_, ?_, ?_, ?_, ?_⟩, t3.2.2⟩
  · rw [t2.g _ _ (no _ _ (by omega))]
    by_cases z : r.1.1 = 0
    · rw [(c5 z).1, z]; rfl
    · exact (c6 z).1
  · rw [t2.g _ _ (no _ _ (by omega))]
    by_cases z : r.1.1 = 0
    · rw [(c5 z).2.1, if_pos z]
    · rw [if_neg z]; exact (c6 z).2
  · exact jz_unR ((hR z).fr t2 (fun c i _ _ => no _ _ (by omega)))
  · exact ⟨⟨t3.1.1, fun _ => t3.1.2 z⟩, fun _ => t3.2.1 z, t3.2.2⟩
  · rw [t2.g _ _ (no _ _ (by omega))]; exact b2
  · rw [t2.g _ _ (no _ _ (by omega))]; exact b3
  · rw [t2.g _ _ (no _ _ (by omega))]; exact b4
theorem jx9_loop {T : Nat → Int} {e H : Nat} (hH : jz_Hq H) : ∀ (m n k : Nat) (r : jq_S × jz_Z) (s : jl_Mm), m + k = 61 → m < n → jz_I T e H r s → (0 ≤ r.2.1 0 ∧ r.2.1 0 ≤ (k : Int)) → jE (jf_X9_readAll_L48 n H (k : Int) s) 0 (jz_FC H) s (jz_Q T e H (jz_loop T e m k r)) := by
  have self : ((jz_FC H).all fun x => (jz_FC H).contains x) = true := by simp [jz_FC]
  intro m
  induction m with
  | zero =>
    intro n k r s hm hn h hc
    obtain ⟨n, rfl⟩ : ∃ j, n = j + 1 := ⟨n - 1, by omega⟩
    rw [jf_X9_readAll_L48, if_pos (by omega), jz_loop]
    exact jx9_done hH h
  | succ m ih =>
    intro n k r s hm hn h hc
    obtain ⟨n, rfl⟩ : ∃ j, n = j + 1 := ⟨n - 1, by omega⟩
    obtain ⟨⟨w, f, hw, hB⟩, hs, hok⟩ := h
    rw [jf_X9_readAll_L48, if_neg (by omega), jz_loop]
    obtain ⟨a, a1, a2, a3, -⟩ := jx4c_peek (hH.q hw) hB.1
    have B1 := hB.rd hH a3 (fun z => z) a2 (jz_F38s (by decide))
    have I1 : jz_I T e H r a := by
      refine ⟨⟨w, f, hw, B1⟩, hs, fun z => ⟨?_, (hok z).2⟩⟩
      refine (hok z).1.fr a2 ?_ ?_ ?_ (fun _ _ => ⟨rfl, rfl⟩) <;> intro i <;> simp [jp_in] <;> rcases hH with rfl | rfl <;> omega
    have fra : jp_fr (jz_FC H) s a := a2.w (by simp [jz_FC])
    rw [a1, jp_bd]
    by_cases hp : jq_pc T e r.1 = -1
    · rw [if_pos hp, if_pos hp]
      exact jE.fr fra (jx9_done hH I1)
    · rw [if_neg hp, if_neg hp]
      obtain ⟨b, b1, b2, b3⟩ := jz_bStm (k := k) hH I1 (jz_pcF hp) ⟨hc.1, by omega⟩
      have key : (jl_bd (jf_X4_peekWord a) fun r15 s16 => jl_bd (jf_X9_faultOf r15 (k : Int) s16) fun r17 s18 => if r17 = 0 then (jl_bd (jf_X9_readOne r15 s18) fun _ s23 => jl_bd (jf_X4_expectSign 59 s23) fun _ s25 => jl_lm (jl_up s25 H 0 (jl_add (jl_g s25 H 0) 1)) fun s26 => jf_X9_readAll_B129 (jf_X9_readAll_L48 n) H (k : Int) s26) else (jl_bd (jf_X4_fail r17 (jl_g s18 38 4) s18) fun _ s21 => jf_X9_readAll_B129 (jf_X9_readAll_L48 n) H (k : Int) s21)) = jl_bd (jl_bd (jf_X4_peekWord a) fun r15 s16 => jl_bd (jf_X9_faultOf r15 (k : Int) s16) fun r17 s18 => if r17 = 0 then (jl_bd (jf_X9_readOne r15 s18) fun _ s23 => jl_bd (jf_X4_expectSign 59 s23) fun _ s25 => jl_lm (jl_up s25 H 0 (jl_add (jl_g s25 H 0) 1)) fun s26 => some (0, s26)) else (jl_bd (jf_X4_fail r17 (jl_g s18 38 4) s18) fun _ s21 => some (0, s21))) fun _ s26 => jf_X9_readAll_B129 (jf_X9_readAll_L48 n) H (k : Int) s26 := by
        rw [jp_ba]
        congr 1
        funext r15 s16
        rw [jp_ba]
        congr 1
        funext r17 s18
        by_cases z : r17 = 0
        · rw [if_pos z, if_pos z, jp_ba]
          congr 1
          funext _ s23
          rw [jp_ba]
          congr 1
        · rw [if_neg z, if_neg z, jp_ba]
          congr 1
      rw [key, b1, jp_bd, jf_X9_readAll_B129, jp_add (by omega) (by omega)]
      exact jE.fr (fra.tr b2) (ih n (k + 1) _ b (by omega) (by omega) b3 (jz_stm0 hc))
theorem jx0_clearL {q : Nat} : ∀ (m n l : Nat) (s : jl_Mm), m + l = 3 → m < n → jE (jf_X0_clear_L7 n q (l : Int) s) 0 [(q + 2, 0, 0), (q + 3, 0, 0), (q + 4, 0, 0)] s (fun τ => ∀ i, i < 3 → (l ≤ i → jl_g τ (q + 2) i = 0 ∧ jl_g τ (q + 3) i = 0) ∧ (i < l → jl_g τ (q + 2) i = jl_g s (q + 2) i ∧ jl_g τ (q + 3) i = jl_g s (q + 3) i)) := by
  intro m
  induction m with
  | zero =>
    intro n l s hm hn
    obtain ⟨n, rfl⟩ : ∃ j, n = j + 1 := ⟨n - 1, by omega⟩
    rw [jf_X0_clear_L7, if_pos (by omega)]
    exact jE.ret (fun i hi => ⟨fun z => by omega, fun z => ⟨rfl, rfl⟩⟩)
  | succ m ih =>
    intro n l s hm hn
    obtain ⟨n, rfl⟩ : ∃ j, n = j + 1 := ⟨n - 1, by omega⟩
    rw [jf_X0_clear_L7, if_neg (by omega), if_pos (by omega), Int.toNat_natCast, jp_lm, if_pos (by omega), jp_lm, if_pos (by omega), jp_lm, jp_add (by omega) (by omega)]
    have fr : jp_fr [(q + 2, 0, 0), (q + 3, 0, 0), (q + 4, 0, 0)] s (jl_up (jl_up (jl_up s (q + 2) l 0) (q + 3) l 0) (q + 4) l 0) := ((jp_fr.rf.up (by simp [jp_in])).up (by simp [jp_in])).up (by simp [jp_in])
    refine jE.fr fr (jE.mono (ih n (l + 1) _ (by omega) (by omega)) (by simp) (fun τ _ z i hi => ?_))
    obtain ⟨z1, z2⟩ := z i hi
    refine ⟨fun y => ?_, fun y => ?_⟩
    · by_cases e : i = l
      · subst e
        obtain ⟨a, b⟩ := z2 (by omega)
        refine ⟨a.trans ?_, b.trans ?_⟩
        · rw [jp_g_ne (by omega), jp_g_ne (by omega), jp_g_eq (by omega) (by omega)]
        · rw [jp_g_ne (by omega), jp_g_eq (by omega) (by omega)]
      · exact z1 (by omega)
    · obtain ⟨a, b⟩ := z2 (by omega)
      refine ⟨a.trans ?_, b.trans ?_⟩
      · rw [jp_g_ne (by omega), jp_g_ne (by omega), jp_g_nei (by omega)]
      · rw [jp_g_ne (by omega), jp_g_nei (by omega), jp_g_ne (by omega)]
