/-! THE MEMORY AT THE START OF THE LAW'S LOOP: kI stands -/
def k0_s1 : jl_Mm := k0_X12m (k0_X11m jl_df)
def k0_Z : jz_Z := (fun _ => 0, fun _ _ => 0, fun _ _ => [])
def k0_a : Nat → Int := fun _ => 0
def k0_dd : kD := fun k i => if k = 1 ∧ i = 1 then -1 else if k = 8 ∧ i = 0 then 1 else 0
theorem k0_kzN : kz_N k0_Z (fun _ => []) k0_a := by
  refine ⟨⟨⟨Int.le_refl 0, (by decide : (0 : Int) ≤ 2000)⟩, ⟨Int.le_refl 0, (by decide : (0 : Int) ≤ 999)⟩, fun p hp => absurd hp (Nat.not_lt_zero p), fun l hl => ⟨⟨Int.le_refl 0, (by decide : (0 : Int) ≤ 99)⟩, ⟨Int.le_refl 0, (by decide : (0 : Int) ≤ 99)⟩, fun _ => rfl, fun _ => rfl⟩⟩, fun h => absurd h (by decide), (by decide : (0 : Int) ≤ 999), Int.le_refl 0, (by decide : (0 : Int) ≤ 40)⟩
theorem k0_vac {P : Prop} {i : Nat} (h : (i : Int) < 0) : P := absurd h (by omega)
theorem k0_kzV : kz_V k0_Z := by
  refine ⟨⟨Int.le_refl 0, (by decide : (0 : Int) ≤ 30)⟩, ⟨Int.le_refl 0, (by decide : (0 : Int) ≤ 6)⟩, ⟨Int.le_refl 0, (by decide : (0 : Int) ≤ 8)⟩, ⟨Int.le_refl 0, (by decide : (0 : Int) ≤ 16)⟩, ⟨Int.le_refl 0, (by decide : (0 : Int) ≤ 999)⟩, ⟨Int.le_refl 0, (by decide : (0 : Int) ≤ 100)⟩, fun i h => k0_vac h, fun i h => k0_vac h, fun i h => k0_vac h⟩
theorem k0_kIv : kIv k0_Z (fun _ => []) k0_a k0_dd 0 0 := by
  refine ⟨k0_kzN, ⟨by decide, by decide⟩, ⟨by decide, by decide⟩, fun i h => k0_vac h, ⟨by decide, by decide⟩, fun i h => k0_vac h, ⟨by decide, by decide⟩, ⟨by decide, by decide⟩, fun j h => absurd h (Nat.not_lt_zero j)⟩
set_option maxRecDepth 100000 in
theorem k0_kIc : kIc k0_Z (fun _ => []) k0_a k0_dd 0 0 k0_s1 := by
  refine ⟨8, 23, ⟨⟨k0_kzV, Or.inl rfl, by decide +kernel, by decide +kernel, ?_, fun i h => k0_vac h, fun i h => k0_vac h, fun i h => k0_vac h⟩, fun h => absurd h (by decide), ?_, ?_, fun i h => absurd h.2 (Nat.not_lt_zero i), ?_, ?_⟩, ⟨?_, 0, by decide, by decide +kernel, fun k h => k0_vac h⟩, ⟨by decide +kernel, Or.inr rfl, by decide⟩, ?_, ⟨?_, ⟨by decide +kernel, by decide +kernel⟩, ⟨by decide +kernel, fun i h => k0_vac h⟩, ⟨by decide +kernel, fun i h => k0_vac h⟩, ⟨by decide +kernel, fun i h => k0_vac h⟩, by decide +kernel⟩, ⟨by decide +kernel, by decide +kernel, fun j h => absurd h (Nat.not_lt_zero j)⟩⟩
  · exact (by decide +kernel : ∀ k, k < 7 → jl_g k0_s1 8 k = 0)
  · exact (by decide +kernel : jl_g k0_s1 40 0 = 0)
  · exact (by decide +kernel : jl_g k0_s1 40 1 = 0)
  · exact (by decide +kernel : ∀ i, i < 8 → jl_g k0_s1 42 i = 0)
  · exact (by decide +kernel : ∀ i, i < 8 → jl_g k0_s1 43 i = 0)
  · exact (by decide +kernel : jl_g k0_s1 44 3 = 0)
  · rintro q (rfl | rfl | rfl)
    · exact ⟨0, Or.inl rfl, by decide +kernel⟩
    · exact ⟨0, Or.inl rfl, by decide +kernel⟩
    · exact ⟨0, Or.inl rfl, by decide +kernel⟩
  · exact (by decide +kernel : ∀ i, i < 6 → jl_g k0_s1 205 i = k0_dd 0 i)
theorem k0_jyW : jy_W k0_s1 := by
  have z1 : ∀ c, c < 32 → ∀ i, i < (jy_wd (209 + c)).length → (jy_wd (209 + c))[i]? = some (jl_g k0_s1 (209 + c) i) := by decide +kernel
  have z2 : ∀ c, c < 24 → ∀ i, i < (jy_wd (258 + c)).length → (jy_wd (258 + c))[i]? = some (jl_g k0_s1 (258 + c) i) := by decide +kernel
  intro c hc i h
  rcases hc with hc | hc
  · obtain ⟨e, rfl⟩ : ∃ e, c = 209 + e := ⟨c - 209, by omega⟩
    have := z1 e (by omega) i h
    rw [List.getElem?_eq_getElem h] at this
    exact (Option.some.inj this).symm
  · obtain ⟨e, rfl⟩ : ∃ e, c = 258 + e := ⟨c - 258, by omega⟩
    have := z2 e (by omega) i h
    rw [List.getElem?_eq_getElem h] at this
    exact (Option.some.inj this).symm
theorem k0_kIr : kIr k0_Z (fun _ => []) k0_a k0_dd 0 0 k0_s1 := by
  refine ⟨⟨⟨k0_kzV, ?_, fun i h => k0_vac h, fun i h => k0_vac h, fun i h => k0_vac h⟩, fun h => absurd h (by decide), ?_, by decide +kernel, by decide +kernel⟩, ⟨?_, ⟨by decide +kernel, by decide +kernel⟩, ⟨by decide +kernel, fun i h => k0_vac h⟩, ⟨by decide +kernel, fun i h => k0_vac h⟩, ⟨by decide +kernel, fun i h => k0_vac h⟩, by decide +kernel⟩, ⟨by decide +kernel, by decide +kernel, fun j h => absurd h (Nat.not_lt_zero j)⟩, k0_jyW, fun i h => k0_vac h, fun i h => k0_vac h⟩
  · exact (by decide +kernel : ∀ k, k < 6 → jl_g k0_s1 241 (6 + k) = 0)
  · exact (by decide +kernel : ∀ i, i < 105 → jl_g k0_s1 249 i = 0)
  · exact (by decide +kernel : ∀ i, i < 6 → jl_g k0_s1 208 i = k0_dd 0 i)
theorem k0_kI : kI k0_s1 := ⟨k0_Z, fun _ => [], k0_a, k0_dd, 0, 0, k0_kIv, k0_kIc, k0_kIr⟩
/-! the references that never change hold as constants -/
theorem k0_lo : ∀ c, c < 286 → (jl_kd c).1 < 20 → ∀ i, i < jl_nf (jl_kd c).1 → jl_lk c i = none ∨ (jl_lk c i = some (k0_s1 c i).toNat ∧ 0 ≤ k0_s1 c i ∧ jl_ft (jl_kd c).1 i = 2) := by decide +kernel
theorem k0_lq : ∀ c, c < 286 → 24 ≤ (jl_kd c).1 → (c = 48 ∧ jl_kd c = (24, 20)) ∨ (c = 49 ∧ jl_kd c = (25, 20)) := by decide +kernel
theorem k0_l8 : ∀ i, i < 20 → jl_lk 48 i = some (k0_s1 48 i).toNat ∧ 0 ≤ k0_s1 48 i := by decide +kernel
theorem k0_l9 : ∀ i, i < 20 → jl_lk 49 i = some (k0_s1 49 i).toNat ∧ 0 ≤ k0_s1 49 i := by decide +kernel
theorem k0_ra {ad : Nat → Nat} {c : Nat} (hc : c = 48 ∨ c = 49) : jl_ra ad jl_lk c (k0_s1 c) = jl_ra ad jl_l0 c (k0_s1 c) := by
  funext i
  by_cases hi : i < 20
  · rcases hc with rfl | rfl
    · obtain ⟨h1, h2⟩ := k0_l8 i hi
      have h3 : ¬ k0_s1 48 i < 0 := by omega
      simp only [jl_ra, h1, jl_l0, if_neg h3]
    · obtain ⟨h1, h2⟩ := k0_l9 i hi
      have h3 : ¬ k0_s1 49 i < 0 := by omega
      simp only [jl_ra, h1, jl_l0, if_neg h3]
  · have h1 : jl_lk c i = none := by
      rcases hc with rfl | rfl
      · show (if (48 : Nat) = 48 ∧ i < 20 then some (50 + 7 * i) else none) = none
        exact if_neg (fun h => hi h.2)
      · show (if (49 : Nat) = 49 ∧ i < 20 then some (54 + 7 * i) else none) = none
        exact if_neg (fun h => hi h.2)
    simp only [jl_ra, h1, jl_l0]
theorem k0_en {ad : Nat → Nat} {cA : Nat → ClassId} {c : Nat} (hc : c < 286) : jl_en ad cA jl_lk c (k0_s1 c) = jl_en ad cA jl_l0 c (k0_s1 c) := by
  by_cases h20 : (jl_kd c).1 < 20
  · simp only [jl_en, if_pos h20]
    refine congrArg (fun z => Sum.inr ((jl_kd c).1, z)) ?_
    refine List.map_congr_left (fun i hi => ?_)
    rcases k0_lo c hc h20 i (List.mem_range.mp hi) with h | ⟨h1, h2, h3⟩
    · simp only [jl_f1, h, jl_l0]
    · have h4 : ¬ k0_s1 c i < 0 := by omega
      simp only [jl_f1, h1, jl_l0, h3, jl_fv, if_neg h4, va_rf]
  · simp only [jl_en, if_neg h20]
    refine congrArg (fun z => Sum.inl (cA (jl_kd c).1, (jl_kd c).2, z)) ?_
    by_cases h21 : (jl_kd c).1 = 21
    · simp only [jl_ar, if_pos h21]
    · by_cases h24 : 24 ≤ (jl_kd c).1
      · simp only [jl_ar, if_neg h21, if_pos h24]
        rw [k0_ra]
        rcases k0_lq c hc h24 with h | h
        · exact Or.inl h.1
        · exact Or.inr h.1
      · simp only [jl_ar, if_neg h21, if_neg h24]
theorem k0_lws (G : jl_GC) : jl_ws jl_lk G k0_s1 286 = jl_ws jl_l0 G k0_s1 286 := by
  unfold jl_ws jl_w
  refine List.map_congr_left (fun c hc => ?_)
  rw [k0_en (List.mem_range.mp hc)]
theorem k0_lkJ {G : jl_GC} {M : jl_MC} {E : jl_EC} {ce sl pc : Nat} {ls : List (Nat × Value)} {st : List Value} {o : jl_O} (k : jl_J jl_lk G M E 286 ce sl pc ls st k0_s1 o) : jl_J jl_l0 G M (k0_EA E) 286 ce sl pc ls st k0_s1 o := by
  intro r τ ho p e s m args below meth c H locs la C X S L T hT XX
  obtain ⟨t, a1, b1⟩ := k r τ ho p e s m args below meth c H locs la C ⟨by rw [k0_lws]; exact X.1, by rw [k0_lws]; exact X.2.1, fun c i hc _ hr => X.2.2 c i hc rfl hr⟩ S L T hT XX
  exact ⟨t, a1, fun _ => b1⟩
