/-! PURE, the class: how things stand at HOUR 0 -/
theorem jp_cp_d {s : jl_Mm} {a d n i : Nat} (h : i < n) : jl_g (jl_cp s a 0 d 0 n) d i = jl_g s a i := by
  simp only [jl_g, jl_cp, if_true]
  rw [if_pos (by omega), show 0 + (i - 0) = i by omega]
theorem jp_cp_fr {s : jl_Mm} {a d n : Nat} : jp_fr [(d, 0, 0)] s (jl_cp s a 0 d 0 n) := by
  intro c i h
  have hc : c ≠ d := by
    intro e
    subst e
    simp [jp_in] at h
  simp only [jl_cp]
  rw [if_neg hc]
theorem jx7_beginL {q : Nat} (hq : (jl_kd q).1 = 7) : ∀ (m n l : Nat) (s : jl_Mm), m + l = 8 → m < n → jE (jf_X7_beginAt_L30 n q (l : Int) s) 0 [(q + 2, 0, 0), (q + 3, 0, 0)] s (fun τ => ∀ i, i < 8 → (l ≤ i → jl_g τ (q + 2) i = 0 ∧ jl_g τ (q + 3) i = 0) ∧ (i < l → jl_g τ (q + 2) i = jl_g s (q + 2) i ∧ jl_g τ (q + 3) i = jl_g s (q + 3) i)) := by
  intro m
  induction m with
  | zero =>
    intro n l s hm hn
    obtain ⟨n, rfl⟩ : ∃ j, n = j + 1 := ⟨n - 1, by omega⟩
    rw [jf_X7_beginAt_L30, if_pos (by omega)]
    exact jE.ret (fun i hi => ⟨fun z => by omega, fun _ => ⟨rfl, rfl⟩⟩)
  | succ m ih =>
    intro n l s hm hn
    obtain ⟨n, rfl⟩ : ∃ j, n = j + 1 := ⟨n - 1, by omega⟩
    rw [jf_X7_beginAt_L30, if_neg (by omega), jf_X7_putOut, if_pos hq, jf_X7_setCandle, if_pos hq, if_pos (by omega), Int.toNat_natCast, jp_lm, if_pos (by omega), jp_lm, jp_bd, jp_bd, jp_add (by omega) (by omega)]
    have f : jp_fr [(q + 2, 0, 0), (q + 3, 0, 0)] s (jl_up (jl_up s (q + 2) l 0) (q + 3) l 0) := (jp_fr.rf.up (by simp [jp_in])).up (by simp [jp_in])
    refine jE.fr f (jE.mono (ih n (l + 1) _ (by omega) (by omega)) (by simp) (fun τ _ z i hi => ?_))
    obtain ⟨z1, z2⟩ := z i hi
    refine ⟨fun y => ?_, fun y => ?_⟩
    · by_cases e : i = l
      · subst e
        obtain ⟨a, b⟩ := z2 (by omega)
        refine ⟨a.trans ?_, b.trans ?_⟩
        · rw [jp_g_ne (by omega), jp_g_eq (by omega) (by omega)]
        · rw [jp_g_eq (by omega) (by omega)]
      · exact z1 (by omega)
    · obtain ⟨a, b⟩ := z2 (by omega)
      refine ⟨a.trans ?_, b.trans ?_⟩
      · rw [jp_g_ne (by omega), jp_g_nei (by omega)]
      · rw [jp_g_nei (by omega), jp_g_ne (by omega)]
theorem jx7_begin {H : Nat} {s : jl_Mm} (hH : jz_Hq H) : jE (jf_X7_beginAt 40 H s) 0 [(40, 0, 2), (41, 0, 0), (42, 0, 0), (43, 0, 0)] s (fun τ => jl_g τ 40 0 = 0 ∧ jl_g τ 40 1 = jl_g s H 5 ∧ (∀ i, i < 6 → jl_g τ 41 i = jl_g s (H + 2) i) ∧ ∀ i, i < 8 → jl_g τ 42 i = 0 ∧ jl_g τ 43 i = 0) := by
  have hH38 : H + 14 < 38 ∧ 2 < H := by rcases hH with rfl | rfl <;> decide
  have h7 : (jl_kd 40).1 = 7 := by decide +kernel
  have e5 : jl_g (jl_up s 40 0 0) H 5 = jl_g s H 5 := jp_g_ne (by omega)
  rw [jf_X7_beginAt, if_pos h7, if_pos (jz_kd hH), jp_lm, e5, jp_lm, if_pos (by decide), jp_lm, show (0 : Int).toNat = 0 from rfl, show (6 : Int).toNat = 6 from rfl]
  have f1 : jp_fr [(40, 0, 2)] s (jl_up (jl_up s 40 0 0) 40 1 (jl_g s H 5)) := (jp_fr.rf.up rfl).up rfl
  have v0 : jl_g (jl_up (jl_up s 40 0 0) 40 1 (jl_g s H 5)) 40 0 = 0 := by rw [jp_g_nei (by decide), jp_g_eq (by decide) (by decide)]
  have v1 : jl_g (jl_up (jl_up s 40 0 0) 40 1 (jl_g s H 5)) 40 1 = jl_g s H 5 := jp_g_eqg
  generalize jl_up (jl_up s 40 0 0) 40 1 (jl_g s H 5) = a at *
  have n1 : ∀ x i, x ≠ 40 → jp_in [(40, 0, 2)] x i = false := by intro x i hx; simp [jp_in]; omega
  have f2 : jp_fr [(41, 0, 0)] a (jl_cp a (H + 2) 0 (40 + 1) 0 6) := jp_cp_fr
  have w : ∀ i, i < 6 → jl_g (jl_cp a (H + 2) 0 (40 + 1) 0 6) 41 i = jl_g a (H + 2) i := fun i hi => jp_cp_d hi
  generalize jl_cp a (H + 2) 0 (40 + 1) 0 6 = b at *
  obtain ⟨τ, t1, t2, t3⟩ := jx7_beginL (q := 40) h7 8 jl_fu 0 b rfl (by decide)
  rw [show ((0 : Nat) : Int) = 0 from rfl] at t1
  refine ⟨τ, t1, (f1.w (by decide)).tr ((f2.w (by decide)).tr (t2.w (by decide))), ?_, ?_, fun i hi => ?_, fun i hi => (t3 i hi).1 (Nat.zero_le _)⟩
  · rw [t2.g _ _ (by decide), f2.g _ _ (by decide)]; exact v0
  · rw [t2.g _ _ (by decide), f2.g _ _ (by decide)]; exact v1
  · rw [t2.g _ _ (by simp [jp_in]), w i hi, f1.g _ _ (n1 _ _ (by omega))]
