/-! PURE, the reference's street reader: rows laid, what hangs -/
theorem jh_light {T : Nat → Int} {e : Nat} {st : jq_S} {Z : jz_Z} {s : jl_Mm} {v : Int} (h : jh_B T e st Z s) (h0 : st.1 = 0) (hs : jq_wf T e st) (hfull : Z.1 4 < 16) : jE (jf_X12_lightTold v s) 0 jh_FA s (jh_B T e (jz_light T e Z st).1 (jz_light T e Z st).2) := by
  have hR0 := h.2.2 h0
  have hm := h.2.1
  have hN0 := hR0.1 3 (by decide)
  have hP0 := hR0.1 2 (by decide)
  simp only [Nat.reduceAdd] at hN0 hP0
  have key : ∃ N : Nat, Z.1 4 = (N : Int) ∧ N < 16 := ⟨(Z.1 4).toNat, by have := hm.2.2; omega, by have := hm.2.2; omega⟩
  obtain ⟨N, hN, hN16⟩ := key
  rw [jf_X12_lightTold, show jf_X12_isFull 3 16 v s = some (0, s) from jh_isFull (k := 3) h.1 h0 (by decide) (by omega), jp_bd, if_pos rfl]
  obtain ⟨r4, ⟨a, a1, a2, a3, -⟩, a4⟩ := jh_named (k := 1) (w := 4) (Or.inr ⟨rfl, rfl⟩) h hs
  have wA : jq_wf T e (jz_rn (jz_find Z 4 (jz_name T e st).2) (jq_at e st) (jz_name T e st).1) := jz_rn_wf (jz_name_wf hs) hs.at
  have hp : jz_light T e Z st = ((jz_num T e 1 99 (jz_ew T e 9 (jz_num T e 0 999 (jz_ew T e 2 (jz_rn (jz_find Z 4 (jz_name T e st).2) (jq_at e st) (jz_name T e st).1))).1)).1, jz_s (jz_a (jz_a (jz_a Z 7 (Z.1 4) (jz_find Z 4 (jz_name T e st).2)) 8 (Z.1 4) (jz_num T e 0 999 (jz_ew T e 2 (jz_rn (jz_find Z 4 (jz_name T e st).2) (jq_at e st) (jz_name T e st).1))).2) 9 (Z.1 4) (jz_num T e 1 99 (jz_ew T e 9 (jz_num T e 0 999 (jz_ew T e 2 (jz_rn (jz_find Z 4 (jz_name T e st).2) (jq_at e st) (jz_name T e st).1))).1)).2) 4 (Z.1 4 + 1)) := rfl
  rw [hp]
  clear hp
  generalize jz_rn (jz_find Z 4 (jz_name T e st).2) (jq_at e st) (jz_name T e st).1 = S2 at *
  generalize jz_find Z 4 (jz_name T e st).2 = i at *
  obtain ⟨b, b1, b2, b3⟩ := jh_asks (c := 211) (w := 2) (Or.inl (by omega)) rfl a3.1
  have Bb := a3.st b2 b3 (fun y => jz_ew_k y)
  obtain ⟨r8, ⟨c, c1, c2, c3⟩, c4⟩ := jh_num (lo := 0) (hi := 999) (jp_n3s (by decide)) (jp_n3s (by decide)) b3
  have Bc := Bb.st c2 c3 (fun y => by rw [(jz_num_k y).1]; exact y)
  obtain ⟨d, d1, d2, d3⟩ := jh_asks (c := 218) (w := 9) (Or.inl (by omega)) rfl c3
  have Bd := Bc.st d2 d3 (fun y => jz_ew_k y)
  obtain ⟨r12, ⟨f, f1, f2, f3⟩, f4⟩ := jh_num (lo := 1) (hi := 99) (jp_n3s (by decide)) (jp_n3s (by decide)) d3
  have Bf := Bd.st f2 f3 (fun y => by rw [(jz_num_k y).1]; exact y)
  simp only [show ((2 : Nat) : Int) = 2 from rfl, show ((9 : Nat) : Int) = 9 from rfl, show ((1 : Nat) : Int) = 1 from rfl] at *
  have frs : jp_fr jh_FA s f := ((((a2.tr b2).tr c2).tr d2).tr f2).w jh_FA1
  rw [a1, jp_bd, b1, jp_bd, c1, jp_bd, d1, jp_bd, f1, jp_bd, f3.m]
  have n1 : (jz_ew T e 2 S2).1 ≠ 0 → (jz_num T e 1 99 (jz_ew T e 9 (jz_num T e 0 999 (jz_ew T e 2 S2)).1)).1.1 ≠ 0 := fun y => by
    rw [(jz_num_k y).1]
    have y2 : (jz_ew T e 9 (jz_ew T e 2 S2)).1 ≠ 0 := jz_ew_k y
    rw [(jz_num_k y2).1]; exact y2
  by_cases z : (jz_num T e 1 99 (jz_ew T e 9 (jz_num T e 0 999 (jz_ew T e 2 S2)).1)).1.1 = 0
  · have z4 : (jz_num T e 0 999 (jz_ew T e 2 S2)).1.1 = 0 := Classical.byContradiction (fun y => by
      have y2 : (jz_ew T e 9 (jz_num T e 0 999 (jz_ew T e 2 S2)).1).1 ≠ 0 := jz_ew_k y
      rw [(jz_num_k y2).1] at z; exact y2 z)
    have z3 : (jz_ew T e 2 S2).1 = 0 := Classical.byContradiction (fun y => n1 y z)
    have z2 : S2.1 = 0 := Classical.byContradiction (fun y => (jz_ew_k (T := T) (e := e) (v := 2) y) z3)
    obtain ⟨e1, e2, e3⟩ := a4 z2
    have e8 := c4 z4
    have e12 := f4 z
    have w8 : jl_n3 r8 := by rw [e8]; exact jz_num_b (jz_ew_wf wA (by decide)) (Or.inl rfl) (by decide)
    have w12 : jl_n3 r12 := by rw [e12]; exact jz_num_b (jz_ew_wf (jz_num_wf (jz_ew_wf wA (by decide))) (by decide)) (Or.inr (Or.inl rfl)) (by decide)
    have gN : jl_g f 241 3 = (N : Int) := by
      have q := (Bf.2.2 z).1 3 (by decide)
      simp only [Nat.reduceAdd] at q
      rw [q, hN]
    have h21 : Z.1 (2 + 1) = Z.1 3 := rfl
    rw [if_pos (by omega), show (3 : Int).toNat = 3 from rfl, gN, jp_mul (by omega) (by omega), jp_let, if_pos (by omega), jp_lm, jp_add (by omega) (by omega), if_pos (by omega), jp_lm]
    have x2 : jl_add (3 * (N : Int)) 2 = 3 * (N : Int) + 2 := jp_add (by omega) (by omega)
    rw [x2, if_pos (by omega), jp_lm]
    have gN2 : jl_g (jl_up (jl_up (jl_up f 245 (3 * (N : Int)).toNat r4) 245 (3 * (N : Int) + 1).toNat r8) 245 (3 * (N : Int) + 2).toNat r12) 241 3 = (N : Int) := by
      rw [jp_g_ne (by decide), jp_g_ne (by decide), jp_g_ne (by decide)]; exact gN
    rw [gN2, jp_lm, jp_add (by omega) (by omega), show (3 * (N : Int)).toNat = 3 * N by omega, show (3 * (N : Int) + 1).toNat = 3 * N + 1 by omega, show (3 * (N : Int) + 2).toNat = 3 * N + 2 by omega, e1, e8, e12]
    rw [e8] at w8
    rw [e12] at w12
    rw [e1] at e2 e3
    exact jE.fr frs (jh_addR Bf z hN hN16 (jp_n3s (by have := hm.2.1; omega)) w8 w12)
  · rw [if_neg (by omega)]
    exact ⟨f, rfl, frs, Bf.1, Bf.2.1, fun y => absurd y z⟩
theorem jh_setB {T : Nat → Int} {e i : Nat} {st : jq_S} {Z : jz_Z} {s : jl_Mm} {b : Int} (h : jh_B T e st Z s) (hb : jl_n3 b) : jh_B T e st (jz_a Z 6 (i : Int) b) (jl_up s 244 (2 * i + 1) b) := by
  obtain ⟨hL, hM, hR⟩ := h
  obtain ⟨b1, b2⟩ := hb
  have f : jp_fr [(244, 0, 0)] s (jl_up s 244 (2 * i + 1) b) := jp_fr.rf.up rfl
  refine ⟨jh_Lc hL f (by intro c i hc; simp [jp_in] at hc; omega), hM.fr f (by intro i; simp [jp_in]), fun z => ?_⟩
  obtain ⟨r1, r2, r3, r4⟩ := hR z
  refine ⟨fun k hk => (f.g _ _ (by simp [jp_in])).trans (r1 k hk), fun j hj => ?_, fun j hj => ?_, fun j hj => ?_⟩
  · obtain ⟨x1, x2, x3, x4⟩ := r2 j hj
    rw [f.gl _ _ (by simp [jp_in]), f.g _ _ (by simp [jp_in]), f.g _ _ (by simp [jp_in])]
    exact ⟨x1, x2, x3, x4⟩
  · obtain ⟨x1, x2, x3, x4⟩ := r3 j hj
    rw [f.gl _ _ (by simp [jp_in]), jp_g_nei (show 2 * j ≠ 2 * i + 1 by omega)]
    refine ⟨x1, x2, x3, ?_⟩
    simp only [jz_a, true_and]
    by_cases q : j = i
    · subst q
      rw [if_pos rfl, jp_g_eq (by omega) (by omega)]
    · rw [if_neg (by omega), jp_g_nei (by omega)]
      exact x4
  · obtain ⟨x1, x2, x3⟩ := r4 j hj
    rw [f.g _ _ (by simp [jp_in]), f.g _ _ (by simp [jp_in]), f.g _ _ (by simp [jp_in])]
    exact ⟨x1, x2, x3⟩
theorem jh_hang2 {T : Nat → Int} {e i : Nat} {r1 : Int} {st : jq_S} {Z : jz_Z} {s : jl_Mm} (h : jh_B T e st Z s) (hs : jq_wf T e st) (hi : st.1 = 0 → r1 = (i : Int) ∧ i < 8) : jE (jf_X12_hangsTold_B36 r1 s) 0 jh_FA s (fun τ => ∀ st7, st7 = (if (i : Int) ≤ jz_find Z 4 (jz_name T e (jz_ew T e 7 st)).2 then jq_fl 3 (jq_at e (jz_ew T e 7 st)) (jz_rn (jz_find Z 4 (jz_name T e (jz_ew T e 7 st)).2) (jq_at e (jz_ew T e 7 st)) (jz_name T e (jz_ew T e 7 st)).1) else jz_rn (jz_find Z 4 (jz_name T e (jz_ew T e 7 st)).2) (jq_at e (jz_ew T e 7 st)) (jz_name T e (jz_ew T e 7 st)).1) → jh_B T e st7 (jz_a Z 6 (i : Int) (jz_find Z 4 (jz_name T e (jz_ew T e 7 st)).2)) τ) := by
  obtain ⟨a, a1, a2, a3⟩ := jh_asks (c := 216) (w := 7) (Or.inl (by omega)) rfl h.1
  have Ba := h.st a2 a3 (fun y => jz_ew_k y)
  have wA : jq_wf T e (jz_ew T e ((7 : Nat) : Int) st) := jz_ew_wf hs (by decide)
  have kA : st.1 ≠ 0 → (jz_ew T e ((7 : Nat) : Int) st).1 ≠ 0 := fun y => jz_ew_k y
  obtain ⟨r6, ⟨b, b1, b2, b3, b4⟩, b5⟩ := jh_named (k := 1) (w := 4) (Or.inr ⟨rfl, rfl⟩) Ba wA
  simp only [show ((7 : Nat) : Int) = 7 from rfl, show ((1 : Nat) : Int) = 1 from rfl] at *
  have kB : (jz_ew T e 7 st).1 ≠ 0 → (jz_rn (jz_find Z 4 (jz_name T e (jz_ew T e 7 st)).2) (jq_at e (jz_ew T e 7 st)) (jz_name T e (jz_ew T e 7 st)).1).1 ≠ 0 := fun y => by
    have y2 : (jz_name T e (jz_ew T e 7 st)).1.1 ≠ 0 := jz_name_k y
    rw [jz_rn_k y2]; exact y2
  have hat := wA.at
  have hat0 : (jz_ew T e 7 st).1 = 0 → jq_at e (jz_ew T e 7 st) = (jz_ew T e 7 st).2.1 := fun y => jq_at0 y
  have hwz : (jz_ew T e 7 st).1 = 0 → e ≤ 1600 := fun y => (a3.1 y).1
  rw [jf_X12_hangsTold_B36, a1, jp_bd, b1, jp_bd, b3.1.m]
  have frs : jp_fr jh_FA s b := (a2.tr b2).w jh_FA1
  generalize hq : jz_rn (jz_find Z 4 (jz_name T e (jz_ew T e 7 st)).2) (jq_at e (jz_ew T e 7 st)) (jz_name T e (jz_ew T e 7 st)).1 = S6 at *
  generalize jz_find Z 4 (jz_name T e (jz_ew T e 7 st)).2 = bb at *
  generalize jz_ew T e 7 st = S4 at *
  by_cases z : S6.1 = 0
  · have z4 : S4.1 = 0 := Classical.byContradiction (fun y => kB y z)
    have z0 : st.1 = 0 := Classical.byContradiction (fun y => kA y z4)
    obtain ⟨e1, e2, e3⟩ := b5 z
    obtain ⟨i1, i2⟩ := hi z0
    have h43 := b4 z
    have he := hwz z4
    have m5 : jl_g b 206 5 = 0 := by rw [b3.1.m, z]; rfl
    rw [if_pos (by omega)]
    by_cases q : r6 < r1
    · rw [if_pos q, jf_X12_hangsTold_B71, if_pos m5, i1, jp_mul (by omega) (by omega), jp_add (by omega) (by omega), if_pos (by omega), jp_lm, jf_X12_hangsTold_B89, show (2 * (i : Int) + 1).toNat = 2 * i + 1 by omega]
      refine ⟨_, rfl, frs.up (by simp [jp_in, jh_FA]; omega), fun st7 h7 => ?_⟩
      rw [if_neg (by omega)] at h7
      rw [h7, ← e1]
      exact jh_setB b3 (jp_n3s (by omega))
    · rw [if_neg q, jh_fail0 m5, jp_bd, h43, jf_X12_hangsTold_B71, if_neg (by rw [jp_g_nei (by decide), jp_g_eq (by decide) (by decide)]; decide), jf_X12_hangsTold_B89]
      refine ⟨_, rfl, (frs.up (by simp [jp_in, jh_FA])).up (by simp [jp_in, jh_FA]), fun st7 h7 => ?_⟩
      rw [if_pos (by omega)] at h7
      rw [h7, hat0 z4]
      have fu : jp_fr [(206, 5, 7)] b (jl_up (jl_up b 206 5 3) 206 6 (S4.2.1 : Int)) := (jp_fr.rf.up rfl).up rfl
      exact ⟨jh_K3 b3.1 z (by have := hat0 z4; omega), b3.2.1.fr fu (by intro i; simp [jp_in]), fun y => absurd y (jh_fl_k (by decide))⟩
  · rw [if_neg (by omega), jf_X12_hangsTold_B71, if_neg (by rw [b3.1.m]; omega), jf_X12_hangsTold_B89]
    refine ⟨b, rfl, frs, fun st7 h7 => ?_⟩
    have e7 : st7 = S6 := by
      rw [h7]; split
      · exact jq_flk z
      · rfl
    rw [e7]
    exact ⟨b3.1, b3.2.1, fun y => absurd y z⟩
