/-! PURE, the class's street reader: readAll -/
theorem jx9_topB {T : Nat → Int} {e H w : Nat} {s5 : jl_Mm} (hH : jz_Hq H) (hw : w = 0 ∨ w = 1 ∨ w = 2) (C5 : jq_CS T e (H + 10) w 0 (0, jq_sk T e 0, []) s5) (B5 : jz_B T e H w 0 (0, jq_sk T e 0, []) jz_0 s5) (D5 : jz_D (H + 10) [] jz_0 s5) (hs : jq_wf T e (0, jq_sk T e 0, [])) : jE (jl_bd (jf_X4_peek s5) fun r6 s7 => if r6 = -1 then (jl_bd (jf_X4_fail 1 (jl_g s7 38 4) s7) fun _ s28 => jf_X9_readAll_B46 H s28) else (jf_X9_readAll_B46 H s7)) 0 (jz_FA H) s5 (jz_Q T e H (jz_street T e)) := by
  have subC : ((jz_FC H).all fun x => (jz_FA H).contains x) = true := by simp [jz_FA, jz_FC]
  have he := C5.1.1
  have q0 := hH.q hw
  obtain ⟨a, a1, a2, a3, a4⟩ := jx4c_peek q0 C5
  have B6 := B5.rd hH a3 (fun z => z) a2 (jz_F38s (by decide))
  have D6 : jz_D (H + 10) [] jz_0 a := by
    refine D5.fr a2 ?_ ?_ ?_ (fun _ _ => ⟨rfl, rfl⟩) <;> intro i <;> simp [jp_in] <;> rcases hH with rfl | rfl <;> omega
  have fra : jp_fr (jz_FA H) s5 a := a2.w (by simp [jz_FA, jz_FC])
  rw [a1, jp_bd]
  by_cases hp : jq_pc T e (0, jq_sk T e 0, []) = -1
  · rw [if_pos hp]
    obtain ⟨b, b1, b2, b3, -⟩ := jz_bFail (k := 1) (na := jq_sk T e 0) hH hw B6 (by decide) (by decide) (by have := hs.1; simp only at this; omega)
    rw [a4, show ((1 : Nat) : Int) = 1 from rfl] at *
    rw [show jf_X4_fail 1 ((jq_at e (0, jq_sk T e 0, []) : Nat) : Int) a = some (0, b) from b1, jp_bd, jf_X9_readAll_B46, jz_street, jz_first, if_pos hp]
    have I : jz_I T e H ((1, jq_sk T e 0, []), jz_0) b := ⟨⟨w, 0, hw, b3⟩, ⟨hs.1, fun z => absurd z (show (1 : Nat) ≠ 0 by decide)⟩, fun z => absurd z (show (1 : Nat) ≠ 0 by decide)⟩
    have fb : jp_fr (jz_FA H) a b := b2.w (by simp [jz_F38, jz_FA, jz_FC])
    have Z := jx9_loop hH 61 jl_fu 0 _ _ rfl (by decide) I ⟨Int.le_refl (0 : Int), Int.le_refl (0 : Int)⟩
    obtain ⟨c, c1, c2, c3⟩ := Z
    exact ⟨c, c1, (fra.tr fb).tr (c2.w subC), c3⟩
  · rw [if_neg hp, jf_X9_readAll_B46, jz_street, jz_first, if_neg hp]
    have I : jz_I T e H ((0, jq_sk T e 0, []), jz_0) a := ⟨⟨w, 0, hw, B6⟩, hs, fun _ => ⟨D6, (by decide : (0 : Int) ≤ 0), (by decide : (0 : Int) ≤ 30)⟩⟩
    have Z := jx9_loop hH 61 jl_fu 0 _ _ rfl (by decide) I ⟨Int.le_refl (0 : Int), Int.le_refl (0 : Int)⟩
    obtain ⟨c, c1, c2, c3⟩ := Z
    exact ⟨c, c1, fra.tr (c2.w subC), c3⟩
theorem jx9_readAll {T : Nat → Int} {e H : Nat} {s : jl_Mm} (hH : jz_Hq H) (hP : jq_P T e s) (h5 : ∃ w : Nat, (w = 0 ∨ w = 1 ∨ w = 2) ∧ jl_g s (H + 10) 5 = (w : Int)) : jE (jf_X9_readAll H s) 0 (jz_FA H) s (jz_Q T e H (jz_street T e)) := by
  have self : ((jz_FA H).all fun x => (jz_FA H).contains x) = true := by simp [jz_FA, jz_FC]
  have subC : ((jz_FC H).all fun x => (jz_FA H).contains x) = true := by simp [jz_FA, jz_FC]
  have hH38 : H + 14 < 38 ∧ 2 < H := by rcases hH with rfl | rfl <;> decide
  have he := hP.1
  obtain ⟨w, hw, h5⟩ := h5
  have q0 := hH.q hw
  rw [jf_X9_readAll, if_pos (jz_kd hH)]
  refine jE.lm (by simp [jp_in, jz_FA]) ?_
  have P1 : jq_P T e (jl_up s 39 1 (H : Int)) := hP.fr (jp_fr.rf.up (F := [(39, 1, 2)]) (by simp [jp_in])) (by simp [jp_in]) (by intro i; simp [jp_in])
  have a39 : jl_up s 39 1 (H : Int) 39 1 = (H : Int) := jp_r_eq
  have a5 : jl_g (jl_up s 39 1 (H : Int)) (H + 10) 5 = (w : Int) := by rw [jp_g_ne (by omega)]; exact h5
  clear hP h5
  generalize jl_up s 39 1 (H : Int) = s1 at *
  -- the street's numbers
  rw [jf_X8_clear, if_pos (jz_kd hH), jp_lm, jp_lm, jp_lm, jp_lm, jp_lm, jp_lm, jp_lm, jp_bd]
  have fr2 : jp_fr [(H, 0, 0)] s1 (jl_up (jl_up (jl_up (jl_up (jl_up (jl_up (jl_up s1 H 0 0) H 1 0) H 2 0) H 3 0) H 4 0) H 5 100) H 6 0) := ((((((jp_fr.rf.up (by simp [jp_in])).up (by simp [jp_in])).up (by simp [jp_in])).up (by simp [jp_in])).up (by simp [jp_in])).up (by simp [jp_in])).up (by simp [jp_in])
  have v2 : ∀ k, k < 7 → jl_g (jl_up (jl_up (jl_up (jl_up (jl_up (jl_up (jl_up s1 H 0 0) H 1 0) H 2 0) H 3 0) H 4 0) H 5 100) H 6 0) H k = if k = 5 then 100 else 0 := by
    intro k hk
    obtain rfl | rfl | rfl | rfl | rfl | rfl | rfl : k = 0 ∨ k = 1 ∨ k = 2 ∨ k = 3 ∨ k = 4 ∨ k = 5 ∨ k = 6 := by omega
    all_goals first
      | rw [if_neg (by decide)]; simp (disch := omega) only [if_pos, if_neg, jp_bd, jp_lm, jp_let, jp_zb0, jp_zb1, jp_add, jp_sub, jp_g_eq, jp_g_eqg, jp_g_ne, jp_g_nei, jp_r_ne, jp_r_nei, Int.toNat_natCast]
      | rw [if_pos rfl]; simp (disch := omega) only [if_pos, if_neg, jp_bd, jp_lm, jp_let, jp_zb0, jp_zb1, jp_add, jp_sub, jp_g_eq, jp_g_eqg, jp_g_ne, jp_g_nei, jp_r_ne, jp_r_nei, Int.toNat_natCast]
  generalize jl_up (jl_up (jl_up (jl_up (jl_up (jl_up (jl_up s1 H 0 0) H 1 0) H 2 0) H 3 0) H 4 0) H 5 100) H 6 0 = s2 at *
  have n2 : ∀ c i, c ≠ H → jp_in [(H, 0, 0)] c i = false := by
    intro c i hc
    simp [jp_in]
    omega
  have P2 : jq_P T e s2 := P1.fr fr2 (n2 _ _ (by omega)) (fun i => n2 _ _ (by omega))
  have b39 : s2 39 1 = (H : Int) := (fr2 _ _ (n2 _ _ (by omega))).trans a39
  have b5 : jl_g s2 (H + 10) 5 = (w : Int) := (fr2.g _ _ (n2 _ _ (by omega))).trans a5
  refine jE.fr (fr2.w (E := jz_FA H) (by simp [jz_FA, jz_FC])) ?_
  clear P1 a39 a5 fr2 n2
  -- the reader
  rw [jf_X4_start, if_pos (jq_kdq q0), jp_lm, jf_X0_clear, if_pos (jq_kdq q0), jp_lm]
  have fr3 : jp_fr [(38, 1, 2), (H + 10, 4, 5)] s2 (jl_up (jl_up s2 38 1 ((H + 10 : Nat) : Int)) (H + 10) 4 0) := (jp_fr.rf.up (by simp [jp_in])).up (by simp [jp_in])
  have fr3A : jp_fr (jz_FA H) s2 (jl_up (jl_up s2 38 1 ((H + 10 : Nat) : Int)) (H + 10) 4 0) := (jp_fr.rf.up (by simp [jp_in, jz_FA])).up (by simp [jp_in, jz_FA, jz_FC])
  have v31 : jl_up (jl_up s2 38 1 ((H + 10 : Nat) : Int)) (H + 10) 4 0 38 1 = ((H + 10 : Nat) : Int) := by rw [jp_r_ne (by omega), jp_r_eq]
  have v34 : jl_g (jl_up (jl_up s2 38 1 ((H + 10 : Nat) : Int)) (H + 10) 4 0) (H + 10) 4 = 0 := jp_g_eq (by omega) (by omega)
  generalize jl_up (jl_up s2 38 1 ((H + 10 : Nat) : Int)) (H + 10) 4 0 = s3 at *
  have n3 : ∀ c i, (c ≠ 38 ∨ i ≠ 1) → (c ≠ H + 10 ∨ i ≠ 4) → jp_in [(38, 1, 2), (H + 10, 4, 5)] c i = false := by
    intro c i h1 h2
    simp [jp_in]
    omega
  have P3 : jq_P T e s3 := P2.fr fr3 (n3 _ _ (by omega) (by omega)) (fun i => n3 _ _ (by omega) (by omega))
  have c39 : s3 39 1 = (H : Int) := (fr3 _ _ (n3 _ _ (by omega) (by omega))).trans b39
  have c5 : jl_g s3 (H + 10) 5 = (w : Int) := (fr3.g _ _ (n3 _ _ (by omega) (by omega))).trans b5
  have v3 : ∀ k, k < 7 → jl_g s3 H k = if k = 5 then 100 else 0 := fun k hk => (fr3.g _ _ (n3 _ _ (by omega) (by omega))).trans (v2 k hk)
  refine jE.fr fr3A ?_
  clear P2 b39 b5 v2 fr3 n3
  obtain ⟨s4, t1, fr4, t3⟩ := jx0_clearL (q := H + 10) 3 jl_fu 0 s3 rfl (by decide)
  rw [show jf_X0_clear_L7 jl_fu (H + 10) 0 s3 = some (0, s4) from t1, jp_bd, jp_lm, jp_lm, jp_lm, jp_lm, jp_bd]
  have n4 : ∀ c i, (c < H + 12 ∨ H + 14 < c) → jp_in [(H + 10 + 2, 0, 0), (H + 10 + 3, 0, 0), (H + 10 + 4, 0, 0)] c i = false := by
    intro c i h1
    simp [jp_in]
    omega
  have P4 : jq_P T e s4 := P3.fr fr4 (n4 _ _ (by omega)) (fun i => n4 _ _ (by omega))
  have d39 : s4 39 1 = (H : Int) := (fr4 _ _ (n4 _ _ (by omega))).trans c39
  have d5 : jl_g s4 (H + 10) 5 = (w : Int) := (fr4.g _ _ (n4 _ _ (by omega))).trans c5
  have w31 : s4 38 1 = ((H + 10 : Nat) : Int) := (fr4 _ _ (n4 _ _ (by omega))).trans v31
  have w34 : jl_g s4 (H + 10) 4 = 0 := (fr4.g _ _ (n4 _ _ (by omega))).trans v34
  have v4 : ∀ k, k < 7 → jl_g s4 H k = if k = 5 then 100 else 0 := fun k hk => (fr4.g _ _ (n4 _ _ (by omega))).trans (v3 k hk)
  have v23 : ∀ i, i < 3 → jl_g s4 (H + 12) i = 0 ∧ jl_g s4 (H + 13) i = 0 := fun i hi => (t3 i hi).1 (by omega)
  refine jE.fr (fr4.w (E := jz_FA H) (by simp [jz_FA, jz_FC])) ?_
  clear P3 c39 c5 v31 v34 v3 t1 t3 fr4 n4
  have fr5 : jp_fr [(38, 3, 6), (38, 4, 5), (38, 7, 9)] s4 (jl_up (jl_up (jl_up (jl_up s4 38 3 0) 38 4 0) 38 7 0) 38 8 (-1)) := (((jp_fr.rf.up (by simp [jp_in])).up (by simp [jp_in])).up (by simp [jp_in])).up (by simp [jp_in])
  have y3 : jl_g (jl_up (jl_up (jl_up (jl_up s4 38 3 0) 38 4 0) 38 7 0) 38 8 (-1)) 38 3 = 0 := by simp (disch := omega) only [if_pos, if_neg, jp_bd, jp_lm, jp_let, jp_zb0, jp_zb1, jp_add, jp_sub, jp_g_eq, jp_g_eqg, jp_g_ne, jp_g_nei, jp_r_ne, jp_r_nei, Int.toNat_natCast]
  have y4 : jl_g (jl_up (jl_up (jl_up (jl_up s4 38 3 0) 38 4 0) 38 7 0) 38 8 (-1)) 38 4 = 0 := by simp (disch := omega) only [if_pos, if_neg, jp_bd, jp_lm, jp_let, jp_zb0, jp_zb1, jp_add, jp_sub, jp_g_eq, jp_g_eqg, jp_g_ne, jp_g_nei, jp_r_ne, jp_r_nei, Int.toNat_natCast]
  have y7 : jl_g (jl_up (jl_up (jl_up (jl_up s4 38 3 0) 38 4 0) 38 7 0) 38 8 (-1)) 38 7 = 0 := by simp (disch := omega) only [if_pos, if_neg, jp_bd, jp_lm, jp_let, jp_zb0, jp_zb1, jp_add, jp_sub, jp_g_eq, jp_g_eqg, jp_g_ne, jp_g_nei, jp_r_ne, jp_r_nei, Int.toNat_natCast]
  have y8 : jl_g (jl_up (jl_up (jl_up (jl_up s4 38 3 0) 38 4 0) 38 7 0) 38 8 (-1)) 38 8 = -1 := by simp (disch := omega) only [if_pos, if_neg, jp_bd, jp_lm, jp_let, jp_zb0, jp_zb1, jp_add, jp_sub, jp_g_eq, jp_g_eqg, jp_g_ne, jp_g_nei, jp_r_ne, jp_r_nei, Int.toNat_natCast]
  generalize jl_up (jl_up (jl_up (jl_up s4 38 3 0) 38 4 0) 38 7 0) 38 8 (-1) = s5 at *
  have n5 : ∀ c i, (c ≠ 38 ∨ i < 3) → jp_in [(38, 3, 6), (38, 4, 5), (38, 7, 9)] c i = false := by
    intro c i h1
    simp [jp_in]
    omega
  have P5 : jq_P T e s5 := P4.fr fr5 (n5 _ _ (by omega)) (fun i => n5 _ _ (by omega))
  have e39 : s5 39 1 = (H : Int) := (fr5 _ _ (n5 _ _ (by omega))).trans d39
  have e5 : jl_g s5 (H + 10) 5 = (w : Int) := (fr5.g _ _ (n5 _ _ (by omega))).trans d5
  have x31 : s5 38 1 = ((H + 10 : Nat) : Int) := (fr5 _ _ (n5 _ _ (by omega))).trans w31
  have x34 : jl_g s5 (H + 10) 4 = 0 := (fr5.g _ _ (n5 _ _ (by omega))).trans w34
  have v5 : ∀ k, k < 7 → jl_g s5 H k = if k = 5 then 100 else 0 := fun k hk => (fr5.g _ _ (n5 _ _ (by omega))).trans (v4 k hk)
  have u23 : ∀ i, i < 3 → jl_g s5 (H + 12) i = 0 ∧ jl_g s5 (H + 13) i = 0 := fun i hi => ⟨(fr5.g _ _ (n5 _ _ (by omega))).trans (v23 i hi).1, (fr5.g _ _ (n5 _ _ (by omega))).trans (v23 i hi).2⟩
  refine jE.fr (fr5.w (E := jz_FA H) (by simp [jz_FA, jz_FC])) ?_
  clear P4 d39 d5 w31 w34 v4 v23 fr5 n5
  -- so it stands at the start
  have C5 : jq_CS T e (H + 10) w 0 (0, jq_sk T e 0, []) s5 := by
    refine ⟨P5, x31, e5, by omega, ⟨0, y4, Nat.zero_le _, rfl⟩, fun _ => ⟨y7, y8, ⟨x34, (u23 w (by omega)).2, fun i hi => absurd hi (Nat.not_lt_zero _), ?_, ?_⟩, Nat.le_refl _, Nat.zero_le _⟩, fun z => absurd rfl z⟩ <;> (intro hm; simp at hm)
  have B5 : jz_B T e H w 0 (0, jq_sk T e 0, []) jz_0 s5 := by
    refine ⟨C5, e39, y3, trivial, ?_, ?_, ?_, fun _ => ⟨v5, fun i hi => ?_, fun i hi => ?_, fun i hi => ?_⟩⟩
    · rw [v5 2 (by decide)]; decide
    · rw [v5 3 (by decide)]; decide
    · rw [v5 4 (by decide)]; decide
    · exact absurd hi (by show ¬ ((i : Int) < 0); omega)
    · exact absurd hi (by show ¬ ((i : Int) < 0); omega)
    · exact absurd hi (by show ¬ ((i : Int) < 0); omega)
  have D5 : jz_D (H + 10) [] jz_0 s5 := by
    intro i hi
    obtain ⟨a, b⟩ := u23 i hi
    have z1 : jz_0.1 (10 + i) = 0 := by simp only [jz_0]; rw [if_neg (by omega)]
    have z2 : jz_0.1 (20 + i) = 0 := by simp only [jz_0]; rw [if_neg (by omega)]
    rw [z1, z2]
    refine ⟨a, b, Int.le_refl _, Int.le_refl _, Int.le_refl _, ?_, ?_⟩ <;> (intro hm; simp at hm)
  have hs : jq_wf T e (0, jq_sk T e 0, []) := ⟨jq_sk_ub (Nat.zero_le _), fun _ => jq_sk_idem⟩
  exact jx9_topB hH hw C5 B5 D5 hs
