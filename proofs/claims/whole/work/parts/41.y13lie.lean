/-! PURE, the reference's street reader: lies, what hangs, rows laid -/
theorem jh_addL {T : Nat → Int} {e N : Nat} {st : jq_S} {Z : jz_Z} {s : jl_Mm} {u : List Int} {a : Int} (h : jh_B T e st Z s) (h0 : st.1 = 0) (hN : Z.1 3 = (N : Int)) (h8 : N < 8) (hu : jz_vn u) (ha : jl_n3 a) : jE (some (0, jl_up (jl_up (jl_up (jl_up s 242 (8 + N) (jh_cn u)) 244 (2 * N) a) 244 (2 * N + 1) (-1)) 241 2 ((N : Int) + 1))) 0 jh_FA s (jh_B T e st (jz_s (jz_a (jz_a (jz_n Z 4 (Z.1 3) u) 5 (Z.1 3) a) 6 (Z.1 3) (-1)) 3 (Z.1 3 + 1))) := by
  obtain ⟨hL, hM, hR⟩ := h
  obtain ⟨r1, r2, r3, r4⟩ := hR h0
  obtain ⟨m1, m2, m3⟩ := hM
  have hc := jh_cn_n hu
  obtain ⟨a1, a2⟩ := ha
  have f : jp_fr [(242, 8, 16), (244, 0, 16), (241, 2, 3)] s (jl_up (jl_up (jl_up (jl_up s 242 (8 + N) (jh_cn u)) 244 (2 * N) a) 244 (2 * N + 1) (-1)) 241 2 ((N : Int) + 1)) := (((jp_fr.rf.up (by simp [jp_in]; omega)).up (by simp [jp_in]; omega)).up (by simp [jp_in]; omega)).up rfl
  have v1 : jl_g (jl_up (jl_up (jl_up (jl_up s 242 (8 + N) (jh_cn u)) 244 (2 * N) a) 244 (2 * N + 1) (-1)) 241 2 ((N : Int) + 1)) 241 2 = (N : Int) + 1 := jp_g_eq (by omega) (by omega)
  have v2 : ∀ i, jl_gl (jl_up (jl_up (jl_up (jl_up s 242 (8 + N) (jh_cn u)) 244 (2 * N) a) 244 (2 * N + 1) (-1)) 241 2 ((N : Int) + 1)) 242 i = if i = 8 + N then jh_cn u else jl_gl s 242 i := by
    intro i
    rw [jp_gl_ne (by decide), jp_gl_ne (by decide), jp_gl_ne (by decide)]
    by_cases q : i = 8 + N
    · subst q; rw [if_pos rfl, jp_gl_eq (by omega) (by omega)]
    · rw [if_neg q, jp_gl_nei q]
  have v3 : ∀ i, jl_g (jl_up (jl_up (jl_up (jl_up s 242 (8 + N) (jh_cn u)) 244 (2 * N) a) 244 (2 * N + 1) (-1)) 241 2 ((N : Int) + 1)) 244 i = if i = 2 * N + 1 then -1 else if i = 2 * N then a else jl_g s 244 i := by
    intro i
    rw [jp_g_ne (by decide)]
    by_cases q : i = 2 * N + 1
    · subst q; rw [if_pos rfl, jp_g_eq (by omega) (by omega)]
    · rw [if_neg q, jp_g_nei q]
      by_cases q2 : i = 2 * N
      · subst q2; rw [if_pos rfl, jp_g_eq (by omega) (by omega)]
      · rw [if_neg q2, jp_g_nei q2, jp_g_ne (by decide)]
  generalize jl_up (jl_up (jl_up (jl_up s 242 (8 + N) (jh_cn u)) 244 (2 * N) a) 244 (2 * N + 1) (-1)) 241 2 ((N : Int) + 1) = τ at *
  have n1 : ∀ i, i ≠ 2 → jp_in [(242, 8, 16), (244, 0, 16), (241, 2, 3)] 241 i = false := by intro i hi; simp [jp_in]; omega
  refine ⟨τ, rfl, f.ws ?_, jh_Lc hL f ?_, ⟨?_, ?_, ?_⟩, fun _ => ⟨fun k hk => ?_, fun i hi => ?_, fun i hi => ?_, fun i hi => ?_⟩⟩
  · intro c i hc; simp [jp_in, jh_FA] at hc ⊢; omega
  · intro c i hc; simp [jp_in] at hc; omega
  · rw [f.g _ _ (n1 1 (by decide))]; exact m1
  · rw [v1]; omega
  · rw [f.g _ _ (n1 3 (by decide))]; exact m3
  · by_cases q : k = 2
    · subst q; rw [v1]; simp only [jz_s]; rw [if_pos trivial, hN]
    · rw [f.g _ _ (n1 k q), r1 k hk]; simp only [jz_s]; rw [if_neg (by omega)]; rfl
  · have r1' := r1 1 (by decide)
    simp only [Nat.reduceAdd] at r1'
    simp only [jz_s, jz_a, jz_n] at hi ⊢
    rw [if_neg (by decide)] at hi
    obtain ⟨x1, x2, x3, x4⟩ := r2 i hi
    rw [v2, if_neg (by omega), f.g _ _ (by simp [jp_in]), f.g _ _ (by simp [jp_in])]
    simp only [show ¬ ((1 : Nat) = 4) by decide, show ¬ ((2 : Nat) = 5) by decide, show ¬ ((2 : Nat) = 6) by decide, show ¬ ((3 : Nat) = 5) by decide, show ¬ ((3 : Nat) = 6) by decide, false_and, if_false]
    exact ⟨x1, x2, x3, x4⟩
  · simp only [jz_s, jz_a, jz_n, if_true] at hi ⊢
    rw [v2, v3, v3, if_neg (show ¬ 2 * i = 2 * N + 1 by omega)]
    by_cases q : i = N
    · subst q
      have hN' : ((i : Nat) : Int) = Z.1 3 := hN.symm
      simp only [if_pos, hN', and_self, if_true]
      exact ⟨trivial, hu, by simp, by simp⟩
    · obtain ⟨x1, x2, x3, x4⟩ := r3 i (by omega)
      have hN' : ¬ ((i : Nat) : Int) = Z.1 3 := by omega
      rw [if_neg (show ¬ 8 + i = 8 + N by omega), if_neg (show ¬ 2 * i = 2 * N by omega), if_neg (show ¬ 2 * i + 1 = 2 * N + 1 by omega), if_neg (show ¬ 2 * i + 1 = 2 * N by omega)]
      simp only [hN', and_false, if_false]
      exact ⟨x1, x2, x3, x4⟩
  · simp only [jz_s, jz_a, jz_n] at hi ⊢
    rw [if_neg (by decide)] at hi
    obtain ⟨x1, x2, x3⟩ := r4 i hi
    rw [f.g _ _ (by simp [jp_in]), f.g _ _ (by simp [jp_in]), f.g _ _ (by simp [jp_in])]
    simp only [show ¬ ((7 : Nat) = 5) by decide, show ¬ ((7 : Nat) = 6) by decide, show ¬ ((8 : Nat) = 5) by decide, show ¬ ((8 : Nat) = 6) by decide, show ¬ ((9 : Nat) = 5) by decide, show ¬ ((9 : Nat) = 6) by decide, false_and, if_false]
    exact ⟨x1, x2, x3⟩
theorem jh_lie {T : Nat → Int} {e : Nat} {st : jq_S} {Z : jz_Z} {s : jl_Mm} {v : Int} (h : jh_B T e st Z s) (h0 : st.1 = 0) (hs : jq_wf T e st) (hfull : Z.1 3 < 8) : jE (jf_X12_lieTold v s) 0 jh_FA s (jh_B T e (jz_lie T e Z st).1 (jz_lie T e Z st).2) := by
  have hR0 := h.2.2 h0
  have hm := h.2.1
  have hN0 := hR0.1 2 (by decide)
  have hP0 := hR0.1 1 (by decide)
  simp only [Nat.reduceAdd] at hN0 hP0
  have key : ∃ N : Nat, Z.1 3 = (N : Int) ∧ N < 8 := ⟨(Z.1 3).toNat, by have := hm.2.1; omega, by have := hm.2.1; omega⟩
  obtain ⟨N, hN, hN8⟩ := key
  rw [jf_X12_lieTold, show jf_X12_isFull 2 8 v s = some (0, s) from jh_isFull (k := 2) h.1 h0 (by decide) (by omega), jp_bd, if_pos rfl]
  obtain ⟨r4, ⟨a, a1, a2, a3⟩, a4⟩ := jh_newName h hs
  have wA : jq_wf T e (jz_rk Z (jz_name T e st).2 (jq_at e st) (jz_name T e st).1) := jz_rk_wf (jz_name_wf hs) hs.at
  have hp : jz_lie T e Z st = (jz_rn (jz_find Z 1 (jz_name T e (jz_ew T e 5 (jz_rk Z (jz_name T e st).2 (jq_at e st) (jz_name T e st).1))).2) (jq_at e (jz_ew T e 5 (jz_rk Z (jz_name T e st).2 (jq_at e st) (jz_name T e st).1))) (jz_name T e (jz_ew T e 5 (jz_rk Z (jz_name T e st).2 (jq_at e st) (jz_name T e st).1))).1, jz_s (jz_a (jz_a (jz_n Z 4 (Z.1 3) (jz_name T e st).2) 5 (Z.1 3) (jz_find Z 1 (jz_name T e (jz_ew T e 5 (jz_rk Z (jz_name T e st).2 (jq_at e st) (jz_name T e st).1))).2)) 6 (Z.1 3) (-1)) 3 (Z.1 3 + 1)) := rfl
  rw [hp]
  clear hp
  generalize jz_rk Z (jz_name T e st).2 (jq_at e st) (jz_name T e st).1 = S2 at *
  generalize (jz_name T e st).2 = u at *
  obtain ⟨b, b1, b2, b3⟩ := jh_asks (c := 214) (w := 5) (Or.inl (by omega)) rfl a3.1
  have Bb := a3.st b2 b3 (fun y => jz_ew_k y)
  have wB : jq_wf T e (jz_ew T e ((5 : Nat) : Int) S2) := jz_ew_wf wA (by decide)
  obtain ⟨r8, ⟨c, c1, c2, c3, -⟩, c4⟩ := jh_named (k := 0) (w := 1) (Or.inl ⟨rfl, rfl⟩) Bb wB
  simp only [show ((5 : Nat) : Int) = 5 from rfl, show ((0 : Nat) : Int) = 0 from rfl] at *
  have frs : jp_fr jh_FA s c := ((a2.tr b2).tr c2).w jh_FA1
  rw [a1, jp_bd, b1, jp_bd, c1, jp_bd, c3.1.m]
  have k3 : S2.1 ≠ 0 → (jz_rn (jz_find Z 1 (jz_name T e (jz_ew T e 5 S2)).2) (jq_at e (jz_ew T e 5 S2)) (jz_name T e (jz_ew T e 5 S2)).1).1 ≠ 0 := fun y => by
    have y2 : (jz_name T e (jz_ew T e 5 S2)).1.1 ≠ 0 := jz_name_k (jz_ew_k y)
    rw [jz_rn_k y2]; exact y2
  generalize jz_rn (jz_find Z 1 (jz_name T e (jz_ew T e 5 S2)).2) (jq_at e (jz_ew T e 5 S2)) (jz_name T e (jz_ew T e 5 S2)).1 = S5 at *
  generalize jz_find Z 1 (jz_name T e (jz_ew T e 5 S2)).2 = i at *
  by_cases z : S5.1 = 0
  · have z2 : S2.1 = 0 := Classical.byContradiction (fun y => k3 y z)
    obtain ⟨e1, e2⟩ := a4 z2
    obtain ⟨e8, e9, e10⟩ := c4 z
    have gN : jl_g c 241 2 = (N : Int) := by
      have q := (c3.2.2 z).1 2 (by decide)
      simp only [Nat.reduceAdd] at q
      rw [q, hN]
    have h10 : Z.1 (2 + 0) = Z.1 2 := rfl
    rw [if_pos (by omega), show (2 : Int).toNat = 2 from rfl, gN, jp_let, jp_add (by omega) (by omega), if_pos (by omega), jp_lm, jp_mul (by omega) (by omega), if_pos (by omega), jp_lm, jp_add (by omega) (by omega), if_pos (by omega), jp_lm]
    have gN2 : jl_g (jl_up (jl_up (jl_up c 242 (8 + (N : Int)).toNat r4) 244 (2 * (N : Int)).toNat r8) 244 (2 * (N : Int) + 1).toNat (-1)) 241 2 = (N : Int) := by
      rw [jp_g_ne (by decide), jp_g_ne (by decide), jp_g_ne (by decide)]; exact gN
    rw [gN2, jp_lm, jp_add (by omega) (by omega), show (8 + (N : Int)).toNat = 8 + N by omega, show (2 * (N : Int)).toNat = 2 * N by omega, show (2 * (N : Int) + 1).toNat = 2 * N + 1 by omega, e1, e8]
    exact jE.fr frs (jh_addL c3 z hN hN8 e2 (jp_n3s (by have := hm.1; omega)))
  · rw [if_neg (by omega)]
    exact ⟨c, rfl, frs, c3.1, c3.2.1, fun y => absurd y z⟩
theorem jh_addR {T : Nat → Int} {e N : Nat} {st : jq_S} {Z : jz_Z} {s : jl_Mm} {a b d : Int} (h : jh_B T e st Z s) (h0 : st.1 = 0) (hN : Z.1 4 = (N : Int)) (h16 : N < 16) (ha : jl_n3 a) (hb : jl_n3 b) (hd : jl_n3 d) : jE (some (0, jl_up (jl_up (jl_up (jl_up s 245 (3 * N) a) 245 (3 * N + 1) b) 245 (3 * N + 2) d) 241 3 ((N : Int) + 1))) 0 jh_FA s (jh_B T e st (jz_s (jz_a (jz_a (jz_a Z 7 (Z.1 4) a) 8 (Z.1 4) b) 9 (Z.1 4) d) 4 (Z.1 4 + 1))) := by
  obtain ⟨hL, hM, hR⟩ := h
  obtain ⟨r1, r2, r3, r4⟩ := hR h0
  obtain ⟨m1, m2, m3⟩ := hM
  obtain ⟨a1, a2⟩ := ha
  obtain ⟨b1, b2⟩ := hb
  obtain ⟨d1, d2⟩ := hd
  have f : jp_fr [(245, 0, 48), (241, 3, 4)] s (jl_up (jl_up (jl_up (jl_up s 245 (3 * N) a) 245 (3 * N + 1) b) 245 (3 * N + 2) d) 241 3 ((N : Int) + 1)) := (((jp_fr.rf.up (by simp [jp_in]; omega)).up (by simp [jp_in]; omega)).up (by simp [jp_in]; omega)).up rfl
  have v1 : jl_g (jl_up (jl_up (jl_up (jl_up s 245 (3 * N) a) 245 (3 * N + 1) b) 245 (3 * N + 2) d) 241 3 ((N : Int) + 1)) 241 3 = (N : Int) + 1 := jp_g_eq (by omega) (by omega)
  have v3 : ∀ i, jl_g (jl_up (jl_up (jl_up (jl_up s 245 (3 * N) a) 245 (3 * N + 1) b) 245 (3 * N + 2) d) 241 3 ((N : Int) + 1)) 245 i = if i = 3 * N + 2 then d else if i = 3 * N + 1 then b else if i = 3 * N then a else jl_g s 245 i := by
    intro i
    rw [jp_g_ne (by decide)]
    by_cases q : i = 3 * N + 2
    · subst q; rw [if_pos rfl, jp_g_eq (by omega) (by omega)]
    · rw [if_neg q, jp_g_nei q]
      by_cases q2 : i = 3 * N + 1
      · subst q2; rw [if_pos rfl, jp_g_eq (by omega) (by omega)]
      · rw [if_neg q2, jp_g_nei q2]
        by_cases q3 : i = 3 * N
        · subst q3; rw [if_pos rfl, jp_g_eq (by omega) (by omega)]
        · rw [if_neg q3, jp_g_nei q3]
  generalize jl_up (jl_up (jl_up (jl_up s 245 (3 * N) a) 245 (3 * N + 1) b) 245 (3 * N + 2) d) 241 3 ((N : Int) + 1) = τ at *
  have n1 : ∀ i, i ≠ 3 → jp_in [(245, 0, 48), (241, 3, 4)] 241 i = false := by intro i hi; simp [jp_in]; omega
  refine ⟨τ, rfl, f.ws ?_, jh_Lc hL f ?_, ⟨?_, ?_, ?_⟩, fun _ => ⟨fun k hk => ?_, fun i hi => ?_, fun i hi => ?_, fun i hi => ?_⟩⟩
  · intro c i hc; simp [jp_in, jh_FA] at hc ⊢; omega
  · intro c i hc; simp [jp_in] at hc; omega
  · rw [f.g _ _ (n1 1 (by decide))]; exact m1
  · rw [f.g _ _ (n1 2 (by decide))]; exact m2
  · rw [v1]; omega
  · by_cases q : k = 3
    · subst q; rw [v1]; simp only [jz_s]; rw [if_pos trivial, hN]
    · rw [f.g _ _ (n1 k q), r1 k hk]; simp only [jz_s]; rw [if_neg (by omega)]; rfl
  · simp only [jz_s, jz_a] at hi ⊢
    rw [if_neg (by decide)] at hi
    obtain ⟨x1, x2, x3, x4⟩ := r2 i hi
    rw [f.gl _ _ (by simp [jp_in]), f.g _ _ (by simp [jp_in]), f.g _ _ (by simp [jp_in])]
    simp only [show ¬ ((2 : Nat) = 7) by decide, show ¬ ((2 : Nat) = 8) by decide, show ¬ ((2 : Nat) = 9) by decide, show ¬ ((3 : Nat) = 7) by decide, show ¬ ((3 : Nat) = 8) by decide, show ¬ ((3 : Nat) = 9) by decide, false_and, if_false]
    exact ⟨x1, x2, x3, x4⟩
  · simp only [jz_s, jz_a] at hi ⊢
    rw [if_neg (by decide)] at hi
    obtain ⟨x1, x2, x3, x4⟩ := r3 i hi
    rw [f.gl _ _ (by simp [jp_in]), f.g _ _ (by simp [jp_in]), f.g _ _ (by simp [jp_in])]
    simp only [show ¬ ((5 : Nat) = 7) by decide, show ¬ ((5 : Nat) = 8) by decide, show ¬ ((5 : Nat) = 9) by decide, show ¬ ((6 : Nat) = 7) by decide, show ¬ ((6 : Nat) = 8) by decide, show ¬ ((6 : Nat) = 9) by decide, false_and, if_false]
    exact ⟨x1, x2, x3, x4⟩
  · simp only [jz_s, jz_a, if_true] at hi ⊢
    rw [v3, v3, v3, if_neg (show ¬ 3 * i = 3 * N + 2 by omega), if_neg (show ¬ 3 * i = 3 * N + 1 by omega), if_neg (show ¬ 3 * i + 1 = 3 * N + 2 by omega)]
    by_cases q : i = N
    · subst q
      have hN' : ((i : Nat) : Int) = Z.1 4 := hN.symm
      simp only [if_pos, hN', and_self, if_true]
      refine ⟨?_, ?_, ?_⟩ <;> simp
    · obtain ⟨x1, x2, x3⟩ := r4 i (by omega)
      have hN' : ¬ ((i : Nat) : Int) = Z.1 4 := by omega
      rw [if_neg (show ¬ 3 * i = 3 * N by omega), if_neg (show ¬ 3 * i + 1 = 3 * N + 1 by omega), if_neg (show ¬ 3 * i + 1 = 3 * N by omega), if_neg (show ¬ 3 * i + 2 = 3 * N + 2 by omega), if_neg (show ¬ 3 * i + 2 = 3 * N + 1 by omega), if_neg (show ¬ 3 * i + 2 = 3 * N by omega)]
      simp only [hN', and_false, if_false]
      exact ⟨x1, x2, x3⟩
