/-! PURE, the reference's street reader: from the start -/
theorem jh_L40 : ∀ (m n l : Nat) (s : jl_Mm), m + l = 6 → m < n → ∃ τ, jf_X12_street_L40 n (l : Int) s = jf_X12_street_L71 jl_fu 0 τ ∧ jp_fr [(241, 0, 6)] s τ ∧ ∀ i, i < 6 → (l ≤ i → jl_g τ 241 i = if i = 4 then 100 else 0) ∧ (i < l → jl_g τ 241 i = jl_g s 241 i) := by
  intro m
  induction m with
  | zero =>
    intro n l s hm hn
    obtain ⟨n, rfl⟩ : ∃ j, n = j + 1 := ⟨n - 1, by omega⟩
    rw [jf_X12_street_L40, if_pos (by omega)]
    exact ⟨s, rfl, jp_fr.rf, fun i hi => ⟨fun z => by omega, fun _ => rfl⟩⟩
  | succ m ih =>
    intro n l s hm hn
    obtain ⟨n, rfl⟩ : ∃ j, n = j + 1 := ⟨n - 1, by omega⟩
    have st : ∀ v : Int, v = (if l = 4 then 100 else 0) → ∃ τ, jf_X12_street_B62 (jf_X12_street_L40 n) (l : Int) (l : Int) v s = jf_X12_street_L71 jl_fu 0 τ ∧ jp_fr [(241, 0, 6)] s τ ∧ ∀ i, i < 6 → (l ≤ i → jl_g τ 241 i = if i = 4 then 100 else 0) ∧ (i < l → jl_g τ 241 i = jl_g s 241 i) := by
      intro v hv
      have hv2 : 0 ≤ v ∧ v ≤ 100 := by rw [hv]; split <;> decide
      rw [jf_X12_street_B62, if_pos (by omega), Int.toNat_natCast, jp_lm, jp_add (by omega) (by omega)]
      obtain ⟨τ, t1, t2, t3⟩ := ih n (l + 1) (jl_up s 241 l v) (by omega) (by omega)
      have f : jp_fr [(241, 0, 6)] s (jl_up s 241 l v) := jp_fr.rf.up (by simp [jp_in]; omega)
      refine ⟨τ, t1, f.tr t2, fun i hi => ⟨fun z => ?_, fun z => ?_⟩⟩
      · by_cases q : i = l
        · subst q
          rw [(t3 i hi).2 (by omega), jp_g_eq (by omega) (by omega), hv]
        · exact (t3 i hi).1 (by omega)
      · rw [(t3 i hi).2 (by omega), jp_g_nei (by omega)]
    rw [jf_X12_street_L40, if_neg (by omega)]
    by_cases q : l = 4
    · rw [if_pos (by omega)]
      exact st 100 (by rw [if_pos q])
    · rw [if_neg (by omega)]
      exact st 0 (by rw [if_neg q])
theorem jh_L71 : ∀ (m n l : Nat) (s : jl_Mm), m + l = 3 → m < n → ∃ τ, jf_X12_street_L71 n (l : Int) s = (jl_bd (jf_X12_streetTold τ) fun _ s11 => jl_lm (jl_up s11 206 53 1) fun s12 => jf_X12_street_L98 jl_fu s12) ∧ jp_fr [(246, 0, 3)] s τ ∧ ∀ i, i < 3 → (l ≤ i → jl_g τ 246 i = -1) ∧ (i < l → jl_g τ 246 i = jl_g s 246 i) := by
  intro m
  induction m with
  | zero =>
    intro n l s hm hn
    obtain ⟨n, rfl⟩ : ∃ j, n = j + 1 := ⟨n - 1, by omega⟩
    rw [jf_X12_street_L71, if_pos (by omega)]
    exact ⟨s, rfl, jp_fr.rf, fun i hi => ⟨fun z => by omega, fun _ => rfl⟩⟩
  | succ m ih =>
    intro n l s hm hn
    obtain ⟨n, rfl⟩ : ∃ j, n = j + 1 := ⟨n - 1, by omega⟩
    rw [jf_X12_street_L71, if_neg (by omega), if_pos (by omega), Int.toNat_natCast, jp_lm, jp_add (by omega) (by omega)]
    obtain ⟨τ, t1, t2, t3⟩ := ih n (l + 1) (jl_up s 246 l (-1)) (by omega) (by omega)
    have f : jp_fr [(246, 0, 3)] s (jl_up s 246 l (-1)) := jp_fr.rf.up (by simp [jp_in]; omega)
    refine ⟨τ, t1, f.tr t2, fun i hi => ⟨fun z => ?_, fun z => ?_⟩⟩
    · by_cases q : i = l
      · subst q
        rw [(t3 i hi).2 (by omega), jp_g_eq (by decide) (by decide)]
      · exact (t3 i hi).1 (by omega)
    · rw [(t3 i hi).2 (by omega), jp_g_nei (by omega)]
def jh_FT : jp_F := [(206, 1, 7), (206, 10, 11), (206, 43, 44), (206, 52, 54), (206, 55, 56), (206, 100, 101), (206, 102, 105), (241, 0, 6), (242, 0, 16), (243, 0, 12), (244, 0, 16), (245, 0, 48), (246, 0, 3), (247, 0, 3), (248, 0, 1600), (282, 0, 0), (283, 0, 0)]
theorem jh_FST {s τ : jl_Mm} (f : jp_fr jh_FS s τ) : jp_fr jh_FT s τ := by
  refine f.ws (fun c i h => ?_)
  by_cases hc : c = 206
  · subst hc
    simp [jp_in, jh_FS, jh_FC] at h
    simp [jp_in, jh_FT]
    omega
  · simp [jp_in, jh_FS, jh_FC, Ne.symm hc, hc] at h
    simp [jp_in, jh_FT, Ne.symm hc, hc]
    exact h
theorem jh_street {T : Nat → Int} {e : Nat} {s : jl_Mm} (he : e ≤ 1600) (h1 : jl_g s 206 1 = (e : Int)) (hT : ∀ i, i < e → jl_g s 207 i = T i) (hW : jy_W s) : ∃ τ, jf_X12_street s = jf_X12_street_B120 τ ∧ jp_fr jh_FT s τ ∧ jl_g τ 206 1 = 0 ∧ jh_J T e (jz_street T e) τ := by
  rw [jf_X12_street, h1, jp_lm, jp_lm, jp_lm, jp_lm, jp_lm, jp_lm, jp_lm]
  have f1 : jp_fr [(206, 1, 7), (206, 52, 53)] s (jl_up (jl_up (jl_up (jl_up (jl_up (jl_up (jl_up s 206 3 (e : Int)) 206 1 0) 206 2 0) 206 4 (-1)) 206 5 0) 206 6 (-1)) 206 52 0) := ((((((jp_fr.rf.up rfl).up rfl).up rfl).up rfl).up rfl).up rfl).up rfl
  have v1 : jl_g (jl_up (jl_up (jl_up (jl_up (jl_up (jl_up (jl_up s 206 3 (e : Int)) 206 1 0) 206 2 0) 206 4 (-1)) 206 5 0) 206 6 (-1)) 206 52 0) 206 1 = 0 := by simp (disch := omega) only [if_pos, if_neg, jp_bd, jp_lm, jp_let, jp_zb0, jp_zb1, jp_add, jp_sub, jp_g_eq, jp_g_eqg, jp_g_ne, jp_g_nei, jp_r_ne, jp_r_nei, Int.toNat_natCast]
  have v2 : jl_g (jl_up (jl_up (jl_up (jl_up (jl_up (jl_up (jl_up s 206 3 (e : Int)) 206 1 0) 206 2 0) 206 4 (-1)) 206 5 0) 206 6 (-1)) 206 52 0) 206 2 = 0 := by simp (disch := omega) only [if_pos, if_neg, jp_bd, jp_lm, jp_let, jp_zb0, jp_zb1, jp_add, jp_sub, jp_g_eq, jp_g_eqg, jp_g_ne, jp_g_nei, jp_r_ne, jp_r_nei, Int.toNat_natCast]
  have v3 : jl_g (jl_up (jl_up (jl_up (jl_up (jl_up (jl_up (jl_up s 206 3 (e : Int)) 206 1 0) 206 2 0) 206 4 (-1)) 206 5 0) 206 6 (-1)) 206 52 0) 206 3 = (e : Int) := by simp (disch := omega) only [if_pos, if_neg, jp_bd, jp_lm, jp_let, jp_zb0, jp_zb1, jp_add, jp_sub, jp_g_eq, jp_g_eqg, jp_g_ne, jp_g_nei, jp_r_ne, jp_r_nei, Int.toNat_natCast]
  have v4 : jl_g (jl_up (jl_up (jl_up (jl_up (jl_up (jl_up (jl_up s 206 3 (e : Int)) 206 1 0) 206 2 0) 206 4 (-1)) 206 5 0) 206 6 (-1)) 206 52 0) 206 4 = -1 := by simp (disch := omega) only [if_pos, if_neg, jp_bd, jp_lm, jp_let, jp_zb0, jp_zb1, jp_add, jp_sub, jp_g_eq, jp_g_eqg, jp_g_ne, jp_g_nei, jp_r_ne, jp_r_nei, Int.toNat_natCast]
  have v5 : jl_g (jl_up (jl_up (jl_up (jl_up (jl_up (jl_up (jl_up s 206 3 (e : Int)) 206 1 0) 206 2 0) 206 4 (-1)) 206 5 0) 206 6 (-1)) 206 52 0) 206 5 = 0 := by simp (disch := omega) only [if_pos, if_neg, jp_bd, jp_lm, jp_let, jp_zb0, jp_zb1, jp_add, jp_sub, jp_g_eq, jp_g_eqg, jp_g_ne, jp_g_nei, jp_r_ne, jp_r_nei, Int.toNat_natCast]
  have v6 : jl_g (jl_up (jl_up (jl_up (jl_up (jl_up (jl_up (jl_up s 206 3 (e : Int)) 206 1 0) 206 2 0) 206 4 (-1)) 206 5 0) 206 6 (-1)) 206 52 0) 206 6 = -1 := by simp (disch := omega) only [if_pos, if_neg, jp_bd, jp_lm, jp_let, jp_zb0, jp_zb1, jp_add, jp_sub, jp_g_eq, jp_g_eqg, jp_g_ne, jp_g_nei, jp_r_ne, jp_r_nei, Int.toNat_natCast]
  have v52 : jl_g (jl_up (jl_up (jl_up (jl_up (jl_up (jl_up (jl_up s 206 3 (e : Int)) 206 1 0) 206 2 0) 206 4 (-1)) 206 5 0) 206 6 (-1)) 206 52 0) 206 52 = 0 := by simp (disch := omega) only [if_pos, if_neg, jp_bd, jp_lm, jp_let, jp_zb0, jp_zb1, jp_add, jp_sub, jp_g_eq, jp_g_eqg, jp_g_ne, jp_g_nei, jp_r_ne, jp_r_nei, Int.toNat_natCast]
  generalize jl_up (jl_up (jl_up (jl_up (jl_up (jl_up (jl_up s 206 3 (e : Int)) 206 1 0) 206 2 0) 206 4 (-1)) 206 5 0) 206 6 (-1)) 206 52 0 = a at *
  have n1 : ∀ c i, c ≠ 206 → jp_in [(206, 1, 7), (206, 52, 53)] c i = false := by intro c i hc; simp [jp_in]; omega
  obtain ⟨b, b1, b2, b3⟩ := jh_L40 6 jl_fu 0 a rfl (by decide)
  obtain ⟨c, c1, c2, c3⟩ := jh_L71 3 jl_fu 0 b rfl (by decide)
  rw [show ((0 : Nat) : Int) = 0 from rfl] at b1 c1
  rw [b1, c1]
  have nb : ∀ c i, c ≠ 241 → jp_in [(241, 0, 6)] c i = false := by intro c i hc; simp [jp_in]; omega
  have nc : ∀ c i, c ≠ 246 → jp_in [(246, 0, 3)] c i = false := by intro c i hc; simp [jp_in]; omega
  have g2 : ∀ x i, x ≠ 241 → x ≠ 246 → jl_g c x i = jl_g a x i := fun x i h2 h3 => (c2.g _ _ (nc _ _ h3)).trans (b2.g _ _ (nb _ _ h2))
  have g41 : ∀ i, i < 6 → jl_g c 241 i = if i = 4 then 100 else 0 := fun i hi => (c2.g _ _ (nc _ _ (by decide))).trans ((b3 i hi).1 (Nat.zero_le _))
  have a0 : ∀ k, k ≠ 5 → jz_0.1 k = 0 := fun k hk => by simp only [jz_0]; rw [if_neg hk]
  have L : jy_L T e (jq_sk T e 0) c := by
    refine ⟨he, (g2 _ _ (by decide) (by decide)).trans v3, fun i hi => ?_, (g2 _ _ (by decide) (by decide)).trans v5, (g2 _ _ (by decide) (by decide)).trans v6, fun x hx i hi => ?_, 0, (g2 _ _ (by decide) (by decide)).trans v2, Nat.zero_le _, rfl, Or.inl ⟨(g2 _ _ (by decide) (by decide)).trans v4, fun j hj => absurd hj (Nat.not_lt_zero _)⟩⟩
    · rw [g2 _ _ (by decide) (by decide), f1.g _ _ (n1 _ _ (by decide))]; exact hT i hi
    · rw [g2 _ _ (by rcases hx with hx | hx <;> omega) (by rcases hx with hx | hx <;> omega), f1.g _ _ (n1 _ _ (by rcases hx with hx | hx <;> omega))]; exact hW x hx i hi
  have B : jh_B T e (0, jq_sk T e 0, []) jz_0 c := by
    refine ⟨⟨fun _ => L, fun y => absurd rfl y⟩, ⟨?_, ?_, ?_⟩, fun _ => ⟨fun k hk => ?_, fun i hi => ?_, fun i hi => ?_, fun i hi => ?_⟩⟩
    · rw [g41 1 (by decide)]; decide
    · rw [g41 2 (by decide)]; decide
    · rw [g41 3 (by decide)]; decide
    · rw [g41 k hk]
      simp only [jz_0]
      by_cases q : k = 4
      · rw [if_pos q, if_pos (by omega)]
      · rw [if_neg q, if_neg (by omega)]
    · rw [a0 2 (by decide)] at hi; omega
    · rw [a0 3 (by decide)] at hi; omega
    · rw [a0 4 (by decide)] at hi; omega
  have D : jh_D [] jz_0 c := by
    refine ⟨Nat.zero_le _, (g2 _ _ (by decide) (by decide)).trans v52, fun i hi => absurd hi (Nat.not_lt_zero _), fun w hw => ?_⟩
    rw [a0 (10 + w) (by omega), a0 (20 + w) (by omega)]
    exact ⟨fun y => by omega, fun _ => (c3 w hw).1 (Nat.zero_le _)⟩
  obtain ⟨τ, t1, t2, t3⟩ := jh_first B ⟨jq_sk_ub (Nat.zero_le _), fun _ => jq_sk_idem⟩ D
  refine ⟨τ, t1, ?_, ?_, t3⟩
  · refine jp_fr.tr ?_ (jh_FST t2)
    refine jp_fr.tr (f1.ws (fun x i h => ?_)) (jp_fr.tr (b2.ws (fun x i h => ?_)) (c2.ws (fun x i h => ?_)))
    · have : x = 206 ∧ ((1 ≤ i ∧ i < 7) ∨ i = 52) := by simp [jp_in] at h; omega
      obtain ⟨rfl, hh⟩ := this
      simp [jp_in, jh_FT]; omega
    · have : x = 241 ∧ i < 6 := by simp [jp_in] at h; omega
      obtain ⟨rfl, hi⟩ := this
      simp [jp_in, jh_FT]; omega
    · have : x = 246 ∧ i < 3 := by simp [jp_in] at h; omega
      obtain ⟨rfl, hi⟩ := this
      simp [jp_in, jh_FT]; omega
  · rw [t2.g 206 1 (by decide), g2 _ _ (by decide) (by decide)]; exact v1
