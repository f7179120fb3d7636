/-! PURE, the reference: a street stands -/
theorem jh_cp {LOOP : Nat → Int → jl_Mm → jl_O} {NEXT : jl_Mm → jl_O} {c N off B : Nat} {W : Int} (hc : c ≠ 206) (hN : N ≤ off) (hB : off + N ≤ B) (hB9 : B ≤ 9999) (hL : ∀ n l s, jl_g s 206 52 = W → LOOP (n + 1) l s = if (N : Int) ≤ l then NEXT s else if 0 ≤ l ∧ l < (B : Int) then if 0 ≤ jl_add (off : Int) l ∧ jl_add (off : Int) l < (B : Int) then jl_lm (jl_up s c (jl_add (off : Int) l).toNat (jl_g s c l.toNat)) fun s1 => LOOP n (jl_add l 1) s1 else none else none) : ∀ (m n l : Nat) (s : jl_Mm), m + l = N → m < n → jl_g s 206 52 = W → ∃ τ, LOOP n (l : Int) s = NEXT τ ∧ jp_fr [(c, off, off + N)] s τ ∧ ∀ i, i < N → (l ≤ i → jl_g τ c (off + i) = jl_g s c i) ∧ (i < l → jl_g τ c (off + i) = jl_g s c (off + i)) := by
  intro m
  induction m with
  | zero =>
    intro n l s hm hn hW
    obtain ⟨n, rfl⟩ : ∃ j, n = j + 1 := ⟨n - 1, by omega⟩
    rw [hL _ _ _ hW, if_pos (by omega)]
    exact ⟨s, rfl, jp_fr.rf, fun i hi => ⟨fun z => by omega, fun _ => rfl⟩⟩
  | succ m ih =>
    intro n l s hm hn hW
    obtain ⟨n, rfl⟩ : ∃ j, n = j + 1 := ⟨n - 1, by omega⟩
    have ea : jl_add (off : Int) (l : Int) = ((off + l : Nat) : Int) := by rw [jp_add (by omega) (by omega)]; omega
    rw [hL _ _ _ hW, if_neg (by omega), if_pos (by omega), ea, if_pos (by omega), jp_lm, Int.toNat_natCast, Int.toNat_natCast, jp_add (by omega) (by omega)]
    have f : jp_fr [(c, off, off + N)] s (jl_up s c (off + l) (jl_g s c l)) := jp_fr.rf.up (by simp [jp_in]; omega)
    obtain ⟨τ, t1, t2, t3⟩ := ih n (l + 1) (jl_up s c (off + l) (jl_g s c l)) (by omega) (by omega) (by rw [jp_g_ne (Ne.symm hc)]; exact hW)
    refine ⟨τ, t1, f.tr t2, fun i hi => ⟨fun z => ?_, fun z => ?_⟩⟩
    · by_cases q : i = l
      · subst q
        rw [(t3 i hi).2 (by omega), jp_g_eqg]
      · rw [(t3 i hi).1 (by omega), jp_g_nei (by omega)]
    · rw [(t3 i hi).2 (by omega), jp_g_nei (by omega)]
theorem jh_cp7 (s : jl_Mm) : ∃ τ, jf_X12_stands_L7 jl_fu 0 s = jf_X12_stands_L36 jl_fu 0 τ ∧ jp_fr [(241, 6, 12)] s τ ∧ ∀ i, i < 6 → jl_g τ 241 (6 + i) = jl_g s 241 i := by
  obtain ⟨τ, a, b, c⟩ := jh_cp (LOOP := jf_X12_stands_L7) (NEXT := jf_X12_stands_L36 jl_fu 0) (c := 241) (N := 6) (off := 6) (B := 12) (by decide) (by decide) (by decide) (by decide) (fun n l s _ => rfl) 6 jl_fu 0 s rfl (by decide) rfl
  exact ⟨τ, a, b, fun i hi => (c i hi).1 (Nat.zero_le _)⟩
theorem jh_cp121 (s : jl_Mm) : ∃ τ, jf_X12_stands_L121 jl_fu 0 s = jf_X12_stands_L150 jl_fu 0 τ ∧ jp_fr [(243, 12, 24)] s τ ∧ ∀ i, i < 12 → jl_g τ 243 (12 + i) = jl_g s 243 i := by
  obtain ⟨τ, a, b, c⟩ := jh_cp (LOOP := jf_X12_stands_L121) (NEXT := jf_X12_stands_L150 jl_fu 0) (c := 243) (N := 12) (off := 12) (B := 24) (by decide) (by decide) (by decide) (by decide) (fun n l s _ => rfl) 12 jl_fu 0 s rfl (by decide) rfl
  exact ⟨τ, a, b, fun i hi => (c i hi).1 (Nat.zero_le _)⟩
theorem jh_cp150 (s : jl_Mm) : ∃ τ, jf_X12_stands_L150 jl_fu 0 s = jf_X12_stands_L179 jl_fu 0 τ ∧ jp_fr [(245, 48, 96)] s τ ∧ ∀ i, i < 48 → jl_g τ 245 (48 + i) = jl_g s 245 i := by
  obtain ⟨τ, a, b, c⟩ := jh_cp (LOOP := jf_X12_stands_L150) (NEXT := jf_X12_stands_L179 jl_fu 0) (c := 245) (N := 48) (off := 48) (B := 96) (by decide) (by decide) (by decide) (by decide) (fun n l s _ => rfl) 48 jl_fu 0 s rfl (by decide) rfl
  exact ⟨τ, a, b, fun i hi => (c i hi).1 (Nat.zero_le _)⟩
theorem jh_cp179 {N : Nat} (s : jl_Mm) (hN : N ≤ 1600) (h : jl_g s 206 52 = (N : Int)) : ∃ τ, jf_X12_stands_L179 jl_fu 0 s = jf_X12_stands_L211 jl_fu 0 τ ∧ jp_fr [(248, 1600, 1600 + N)] s τ ∧ ∀ i, i < N → jl_g τ 248 (1600 + i) = jl_g s 248 i := by
  obtain ⟨τ, a, b, c⟩ := jh_cp (LOOP := jf_X12_stands_L179) (NEXT := jf_X12_stands_L211 jl_fu 0) (c := 248) (N := N) (off := 1600) (B := 3200) (W := (N : Int)) (by decide) hN (by omega) (by decide) (fun n l s hs => by rw [jf_X12_stands_L179, hs]; rfl) N jl_fu 0 s rfl (by show N < 4000; omega) h
  exact ⟨τ, a, b, fun i hi => (c i hi).1 (Nat.zero_le _)⟩
theorem jh_cp36 : ∀ (m n l : Nat) (s : jl_Mm), m + l = 3 → m < n → ∃ τ, jf_X12_stands_L36 n (l : Int) s = jf_X12_stands_L77 jl_fu 0 τ ∧ jp_fr [(246, 3, 6), (247, 3, 6)] s τ ∧ ∀ i, i < 3 → (l ≤ i → jl_g τ 246 (3 + i) = jl_g s 246 i ∧ jl_g τ 247 (3 + i) = jl_g s 247 i) ∧ (i < l → jl_g τ 246 (3 + i) = jl_g s 246 (3 + i) ∧ jl_g τ 247 (3 + i) = jl_g s 247 (3 + i)) := by
  intro m
  induction m with
  | zero =>
    intro n l s hm hn
    obtain ⟨n, rfl⟩ : ∃ j, n = j + 1 := ⟨n - 1, by omega⟩
    rw [jf_X12_stands_L36, if_pos (by omega)]
    exact ⟨s, rfl, jp_fr.rf, fun i hi => ⟨fun z => by omega, fun _ => ⟨rfl, rfl⟩⟩⟩
  | succ m ih =>
    intro n l s hm hn
    obtain ⟨n, rfl⟩ : ∃ j, n = j + 1 := ⟨n - 1, by omega⟩
    have ea : jl_add 3 (l : Int) = ((3 + l : Nat) : Int) := by rw [jp_add (by omega) (by omega)]; omega
    rw [jf_X12_stands_L36, if_neg (by omega), if_pos (by omega), ea, if_pos (by omega), jp_lm, if_pos (by omega), if_pos (by omega), jp_lm, Int.toNat_natCast, Int.toNat_natCast, jp_add (by omega) (by omega)]
    have f : jp_fr [(246, 3, 6), (247, 3, 6)] s (jl_up (jl_up s 246 (3 + l) (jl_g s 246 l)) 247 (3 + l) (jl_g (jl_up s 246 (3 + l) (jl_g s 246 l)) 247 l)) := (jp_fr.rf.up (by simp [jp_in]; omega)).up (by simp [jp_in]; omega)
    obtain ⟨τ, t1, t2, t3⟩ := ih n (l + 1) (jl_up (jl_up s 246 (3 + l) (jl_g s 246 l)) 247 (3 + l) (jl_g (jl_up s 246 (3 + l) (jl_g s 246 l)) 247 l)) (by omega) (by omega)
    refine ⟨τ, t1, f.tr t2, fun i hi => ⟨fun z => ?_, fun z => ?_⟩⟩
    · by_cases q : i = l
      · subst q
        obtain ⟨x, y⟩ := (t3 i hi).2 (by omega)
        refine ⟨x.trans ?_, y.trans ?_⟩
        · rw [jp_g_ne (by decide), jp_g_eqg]
        · rw [jp_g_eqg, jp_g_ne (by decide)]
      · obtain ⟨x, y⟩ := (t3 i hi).1 (by omega)
        refine ⟨x.trans ?_, y.trans ?_⟩
        · rw [jp_g_ne (by decide), jp_g_nei (by omega)]
        · rw [jp_g_nei (by omega), jp_g_ne (by decide)]
    · obtain ⟨x, y⟩ := (t3 i hi).2 (by omega)
      refine ⟨x.trans ?_, y.trans ?_⟩
      · rw [jp_g_ne (by decide), jp_g_nei (by omega)]
      · rw [jp_g_nei (by omega), jp_g_ne (by decide)]
theorem jh_cp77 : ∀ (m n l : Nat) (s : jl_Mm), m + l = 16 → m < n → ∃ τ, jf_X12_stands_L77 n (l : Int) s = jf_X12_stands_L121 jl_fu 0 τ ∧ jp_fr [(242, 16, 32), (244, 16, 32)] s τ ∧ ∀ i, i < 16 → (l ≤ i → jl_gl τ 242 (16 + i) = jl_gl s 242 i ∧ jl_g τ 244 (16 + i) = jl_g s 244 i) ∧ (i < l → jl_gl τ 242 (16 + i) = jl_gl s 242 (16 + i) ∧ jl_g τ 244 (16 + i) = jl_g s 244 (16 + i)) := by
  intro m
  induction m with
  | zero =>
    intro n l s hm hn
    obtain ⟨n, rfl⟩ : ∃ j, n = j + 1 := ⟨n - 1, by omega⟩
    rw [jf_X12_stands_L77, if_pos (by omega)]
    exact ⟨s, rfl, jp_fr.rf, fun i hi => ⟨fun z => by omega, fun _ => ⟨rfl, rfl⟩⟩⟩
  | succ m ih =>
    intro n l s hm hn
    obtain ⟨n, rfl⟩ : ∃ j, n = j + 1 := ⟨n - 1, by omega⟩
    have ea : jl_add 16 (l : Int) = ((16 + l : Nat) : Int) := by rw [jp_add (by omega) (by omega)]; omega
    have gn : jl_n6 (jl_gl s 242 l) := jl_n6_to _
    obtain ⟨gn1, gn2⟩ := gn
    rw [jf_X12_stands_L77, if_neg (by omega), if_pos (by omega), ea, if_pos (by omega), jp_lm, if_pos (by omega), if_pos (by omega), jp_lm, Int.toNat_natCast, Int.toNat_natCast, jp_add (by omega) (by omega)]
    have f : jp_fr [(242, 16, 32), (244, 16, 32)] s (jl_up (jl_up s 242 (16 + l) (jl_gl s 242 l)) 244 (16 + l) (jl_g (jl_up s 242 (16 + l) (jl_gl s 242 l)) 244 l)) := (jp_fr.rf.up (by simp [jp_in]; omega)).up (by simp [jp_in]; omega)
    obtain ⟨τ, t1, t2, t3⟩ := ih n (l + 1) (jl_up (jl_up s 242 (16 + l) (jl_gl s 242 l)) 244 (16 + l) (jl_g (jl_up s 242 (16 + l) (jl_gl s 242 l)) 244 l)) (by omega) (by omega)
    refine ⟨τ, t1, f.tr t2, fun i hi => ⟨fun z => ?_, fun z => ?_⟩⟩
    · by_cases q : i = l
      · subst q
        obtain ⟨x, y⟩ := (t3 i hi).2 (by omega)
        refine ⟨x.trans ?_, y.trans ?_⟩
        · rw [jp_gl_ne (by decide), jp_gl_eq gn1 gn2]
        · rw [jp_g_eqg, jp_g_ne (by decide)]
      · obtain ⟨x, y⟩ := (t3 i hi).1 (by omega)
        refine ⟨x.trans ?_, y.trans ?_⟩
        · rw [jp_gl_ne (by decide), jp_gl_nei (by omega)]
        · rw [jp_g_nei (by omega), jp_g_ne (by decide)]
    · obtain ⟨x, y⟩ := (t3 i hi).2 (by omega)
      refine ⟨x.trans ?_, y.trans ?_⟩
      · rw [jp_gl_ne (by decide), jp_gl_nei (by omega)]
      · rw [jp_g_nei (by omega), jp_g_ne (by decide)]
