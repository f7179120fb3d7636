/-! PURE, the reference: street, all of it -/
def jh_FO : jp_F := jh_FT ++ (206, 7, 9) :: jh_FZ
def jh_FK : jp_F := jh_FT ++ [(206, 7, 9), (208, 1, 2)]
theorem jx12_street {T : Nat → Int} {e : Nat} {s : jl_Mm} (he : e ≤ 1600) (h1 : jl_g s 206 1 = (e : Int)) (hT : ∀ i, i < e → jl_g s 207 i = T i) (hW : jy_W s) :
    ((jz_street T e).1.1 = 0 → jE (jf_X12_street s) ((jz_street T e).2.1 0) jh_FO s (fun τ => jh_T ((jz_street T e).1.2.2, (jz_street T e).2) τ ∧ jh_0 (jz_street T e).2 τ ∧ jl_g τ 206 1 = 0 ∧ jl_g τ 206 7 = 0 ∧ jl_g τ 206 8 = -1)) ∧
    ((jz_street T e).1.1 ≠ 0 → jE (jf_X12_street s) (-1) jh_FK s (fun τ => jl_g τ 206 1 = 0 ∧ jl_g τ 206 7 = ((jz_street T e).1.1 : Int) ∧ jl_g τ 206 8 = ((jz_street T e).1.2.1 : Int) ∧ jl_g τ 208 1 = jl_add (jl_g s 208 1) 1)) := by
  obtain ⟨a, a1, a2, a3, a4⟩ := jh_street he h1 hT hW
  rw [a1]
  generalize jz_street T e = R at *
  rw [jf_X12_street_B120, jp_lm, jp_lm]
  have f7 : jp_fr [(206, 7, 9)] a (jl_up (jl_up a 206 7 (jl_g a 206 5)) 206 8 (jl_g (jl_up a 206 7 (jl_g a 206 5)) 206 6)) := (jp_fr.rf.up rfl).up rfl
  have v7 : jl_g (jl_up (jl_up a 206 7 (jl_g a 206 5)) 206 8 (jl_g (jl_up a 206 7 (jl_g a 206 5)) 206 6)) 206 7 = jl_g a 206 5 := by rw [jp_g_nei (by decide), jp_g_eqg]
  have v8 : jl_g (jl_up (jl_up a 206 7 (jl_g a 206 5)) 206 8 (jl_g (jl_up a 206 7 (jl_g a 206 5)) 206 6)) 206 8 = jl_g a 206 6 := by rw [jp_g_eqg, jp_g_nei (by decide)]
  generalize jl_up (jl_up a 206 7 (jl_g a 206 5)) 206 8 (jl_g (jl_up a 206 7 (jl_g a 206 5)) 206 6) = b at *
  have n7 : ∀ x i, (x ≠ 206 ∨ (i ≠ 7 ∧ i ≠ 8)) → jp_in [(206, 7, 9)] x i = false := by intro x i hx; simp [jp_in]; omega
  have b5 : jl_g b 206 5 = (R.1.1 : Int) := (f7.g _ _ (n7 _ _ (by omega))).trans a4.1.1.m
  rw [b5]
  refine ⟨fun z => ?_, fun z => ?_⟩
  · rw [if_pos (by omega)]
    have Jb : jh_J T e R b := by
      obtain ⟨⟨hL, hM, hR⟩, hw, hok⟩ := a4
      refine ⟨⟨hL.fr f7 (fun i hi => n7 _ _ (by omega)) (fun i => n7 _ _ (by omega)) (fun c i hc => n7 _ _ (by rcases hc with hc | hc <;> omega)), hM.fr f7 (fun i => n7 _ _ (by omega)), fun y => (hR y).fr f7 (fun c i x1 x2 => n7 _ _ (by omega))⟩, hw, fun y => ?_⟩
      obtain ⟨d1, d2, d3, d4, d5, d6⟩ := hok y
      exact ⟨d1.fr f7 (n7 _ _ (by omega)) (fun c i x1 x2 => n7 _ _ (by omega)) (fun _ _ => ⟨rfl, rfl⟩), d2, d3, (f7.g _ _ (n7 _ _ (by omega))).trans d4, d5, d6⟩
    obtain ⟨c, c1, c2, c3, c4⟩ := jh_stands Jb z
    have hL := a4.1.1.1 z
    rw [c1, jp_bd, c3.2.1]
    refine ⟨c, rfl, (a2.w (by decide)).tr ((f7.w (by decide)).tr (c2.w (by decide))), c3, c4, ?_, ?_, ?_⟩
    · rw [c2.g _ _ (by decide), f7.g _ _ (by decide)]; exact a3
    · rw [c2.g _ _ (by decide), v7]; exact hL.2.2.2.1
    · rw [c2.g _ _ (by decide), v8]; exact hL.2.2.2.2.1
  · rw [if_neg (by omega)]
    obtain ⟨-, k1, k2⟩ := a4.1.1.2 z
    rw [jf_X12_refuses, if_pos (by decide), if_pos (by decide), jp_lm, show (1 : Int).toNat = 1 from rfl, jp_bd]
    refine ⟨_, rfl, (a2.w (by decide)).tr ((f7.w (by decide)).tr (jp_fr.rf.up (by decide))), ?_, ?_, ?_, ?_⟩
    · rw [jp_g_ne (by decide), f7.g _ _ (by decide)]; exact a3
    · rw [jp_g_ne (by decide), v7]; exact k1
    · rw [jp_g_ne (by decide), v8]; exact k2
    · have e : jl_g (jl_up b 208 1 (jl_add (jl_g b 208 1) 1)) 208 1 = jl_add (jl_g b 208 1) 1 := jp_g_eq (jl_n3_to _).1 (jl_n3_to _).2
      rw [e, f7.g 208 1 (by decide), a2.g 208 1 (by decide)]
