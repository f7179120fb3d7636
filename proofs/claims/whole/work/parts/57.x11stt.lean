/-! PURE, the class: street taken -/
theorem jx11_streetT {T : Nat → Int} {e H G : Nat} {s : jl_Mm} (hH : jz_Hq H) (hG : jz_Hq G) (hne : G ≠ H) (h3 : s 0 3 = (H : Int)) (h2 : s 0 2 = (G : Int)) (hP : jq_P T e s) (h5 : ∃ w : Nat, (w = 0 ∨ w = 1 ∨ w = 2) ∧ jl_g s (H + 10) 5 = (w : Int)) (hf : (jz_street T e).1.1 = 0) : jE (jf_X11_street s) ((jz_un ((jz_street T e).1.2.2, (jz_street T e).2)).2.1 0) (jz_FA H ++ [(0, 15, 17), (1, 1, 2), (0, 2, 4), (190, 0, 1), (40, 0, 2), (41, 0, 0), (42, 0, 0), (43, 0, 0), (44, 3, 4), (47, 3, 4), (200, 4, 5)]) s (fun τ => jz_E H (jz_un ((jz_street T e).1.2.2, (jz_street T e).2)) τ ∧ jl_g τ 1 1 = 0 ∧ jl_g τ 0 15 = 0 ∧ jl_g τ 0 16 = -1 ∧ τ 0 2 = (H : Int) ∧ τ 0 3 = (G : Int) ∧ τ 190 0 = (H : Int) ∧ jl_g τ 40 0 = 0 ∧ jl_g τ 40 1 = jl_g τ H 5 ∧ (∀ i, i < 6 → jl_g τ 41 i = jl_g τ (H + 2) i) ∧ (∀ i, i < 8 → jl_g τ 42 i = 0 ∧ jl_g τ 43 i = 0) ∧ jl_g τ 44 3 = 0 ∧ jl_g τ 47 3 = 0 ∧ jl_g τ 200 4 = 0) := by
  have hH38 : H + 14 < 38 ∧ 2 < H := by rcases hH with rfl | rfl <;> decide
  have hG38 : G + 14 < 38 ∧ 2 < G := by rcases hG with rfl | rfl <;> decide
  have g3 : jl_gr s 0 3 = H := by rw [jl_gr, h3]; exact Int.toNat_natCast _
  obtain ⟨a, a1, a2, a3, a4, a5, a6, a7⟩ := jx9_readAll hH hP h5
  obtain ⟨b, b1, b2, b3, b4, b5⟩ := jx11_take (s := a)
  generalize jz_street T e = R at *
  have Ea := a6 hf
  have Eb : jz_E H (jz_un (R.1.2.2, R.2)) b := Ea.fr b2 (fun c i x y => by simp [jp_in]; omega)
  have nA : ∀ x i, x < 3 → jp_in (jz_FA H) x i = false := by intro x i hx; simp [jp_in, jz_FA, jz_FC]; omega
  have q2 : b 0 2 = (G : Int) := (b2 _ _ (by decide)).trans ((a2 _ _ (nA _ _ (by decide))).trans h2)
  have q3 : b 0 3 = (H : Int) := (b2 _ _ (by decide)).trans ((a2 _ _ (nA _ _ (by decide))).trans h3)
  have r2 : jl_gr b 0 2 = G := by rw [jl_gr, q2]; exact Int.toNat_natCast _
  have r3 : jl_gr b 0 3 = H := by rw [jl_gr, q3]; exact Int.toNat_natCast _
  have b0 : jl_g b 0 15 = 0 := by rw [b3, a4, hf]; rfl
  rw [jf_X11_street, g3, if_pos ⟨by omega, jz_kd hH⟩, a1, jp_bd, b1, jp_bd, b0, if_pos rfl, r2, r3, if_pos ⟨by omega, jz_kd hG⟩, if_pos ⟨by omega, jz_kd hH⟩, jp_lm, jp_lm]
  have f1 : jp_fr [(0, 2, 4)] b (jl_up (jl_up b 0 2 (H : Int)) 0 3 (G : Int)) := (jp_fr.rf.up rfl).up rfl
  have u2 : jl_up (jl_up b 0 2 (H : Int)) 0 3 (G : Int) 0 2 = (H : Int) := by rw [jp_r_nei (by decide), jp_r_eq]
  have u3 : jl_up (jl_up b 0 2 (H : Int)) 0 3 (G : Int) 0 3 = (G : Int) := jp_r_eq
  generalize jl_up (jl_up b 0 2 (H : Int)) 0 3 (G : Int) = c at *
  have gc : jl_gr c 0 2 = H := by rw [jl_gr, u2]; exact Int.toNat_natCast _
  rw [gc, if_pos ⟨by omega, jz_kd hH⟩, jp_lm]
  have f2 : jp_fr [(190, 0, 1)] c (jl_up c 190 0 (H : Int)) := jp_fr.rf.up rfl
  have w0 : jl_up c 190 0 (H : Int) 190 0 = (H : Int) := jp_r_eq
  generalize jl_up c 190 0 (H : Int) = d at *
  have d2 : d 0 2 = (H : Int) := (f2 _ _ (by decide)).trans u2
  have gd : jl_gr d 0 2 = H := by rw [jl_gr, d2]; exact Int.toNat_natCast _
  obtain ⟨x, x1, x2, x3, x4, x5, x6⟩ := jx7_begin (s := d) hH
  rw [gd, if_pos ⟨by omega, jz_kd hH⟩, x1, jp_bd, jf_X11_forgetActs, jp_lm, jp_lm, jp_bd, jp_lm]
  have f3 : jp_fr [(44, 3, 4), (47, 3, 4), (200, 4, 5)] x (jl_up (jl_up (jl_up x 44 3 0) 47 3 0) 200 4 0) := ((jp_fr.rf.up rfl).up rfl).up rfl
  have y1 : jl_g (jl_up (jl_up (jl_up x 44 3 0) 47 3 0) 200 4 0) 44 3 = 0 := by simp (disch := omega) only [if_pos, if_neg, jp_bd, jp_lm, jp_let, jp_zb0, jp_zb1, jp_add, jp_sub, jp_g_eq, jp_g_eqg, jp_g_ne, jp_g_nei, jp_r_ne, jp_r_nei, Int.toNat_natCast]
  have y2 : jl_g (jl_up (jl_up (jl_up x 44 3 0) 47 3 0) 200 4 0) 47 3 = 0 := by simp (disch := omega) only [if_pos, if_neg, jp_bd, jp_lm, jp_let, jp_zb0, jp_zb1, jp_add, jp_sub, jp_g_eq, jp_g_eqg, jp_g_ne, jp_g_nei, jp_r_ne, jp_r_nei, Int.toNat_natCast]
  have y3 : jl_g (jl_up (jl_up (jl_up x 44 3 0) 47 3 0) 200 4 0) 200 4 = 0 := by simp (disch := omega) only [if_pos, if_neg, jp_bd, jp_lm, jp_let, jp_zb0, jp_zb1, jp_add, jp_sub, jp_g_eq, jp_g_eqg, jp_g_ne, jp_g_nei, jp_r_ne, jp_r_nei, Int.toNat_natCast]
  generalize jl_up (jl_up (jl_up x 44 3 0) 47 3 0) 200 4 0 = τ at *
  have t2 : τ 0 2 = (H : Int) := (f3 _ _ (by decide)).trans ((x2 _ _ (by decide)).trans d2)
  have gt : jl_gr τ 0 2 = H := by rw [jl_gr, t2]; exact Int.toNat_natCast _
  rw [gt, if_pos ⟨by omega, jz_kd hH⟩]
  have n1 : ∀ z i, z ≠ 0 → jp_in [(0, 2, 4)] z i = false := by intro z i hz; simp [jp_in]; omega
  have n2 : ∀ z i, z ≠ 190 → jp_in [(190, 0, 1)] z i = false := by intro z i hz; simp [jp_in]; omega
  have n3 : ∀ z i, z < 40 → jp_in [(40, 0, 2), (41, 0, 0), (42, 0, 0), (43, 0, 0)] z i = false := by intro z i hz; simp [jp_in]; omega
  have n4 : ∀ z i, z < 44 → jp_in [(44, 3, 4), (47, 3, 4), (200, 4, 5)] z i = false := by intro z i hz; simp [jp_in]; omega
  have Et : jz_E H (jz_un (R.1.2.2, R.2)) τ := (((Eb.fr f1 (fun c i _ _ => n1 _ _ (by omega))).fr f2 (fun c i _ _ => n2 _ _ (by omega))).fr x2 (fun c i _ _ => n3 _ _ (by omega))).fr f3 (fun c i _ _ => n4 _ _ (by omega))
  refine ⟨τ, by rw [Et.1.1 0 (by decide)], ?_, Et, ?_, ?_, ?_, t2, ?_, ?_, ?_, ?_, fun i hi => ?_, fun i hi => ?_, y1, y2, y3⟩
  · refine (a2.w ?_).tr ((b2.w ?_).tr ((f1.w ?_).tr ((f2.w ?_).tr ((x2.w ?_).tr (f3.w ?_)))))
    · simp [jz_FA, jz_FC]
    · simp
    · simp
    · simp
    · simp
    · simp
  · rw [f3.g _ _ (by decide), x2.g _ _ (by decide), f2.g _ _ (by decide), f1.g _ _ (by decide)]; exact b5
  · rw [f3.g _ _ (by decide), x2.g _ _ (by decide), f2.g _ _ (by decide), f1.g _ _ (by decide)]; exact b0
  · rw [f3.g _ _ (by decide), x2.g _ _ (by decide), f2.g _ _ (by decide), f1.g _ _ (by decide), b4, a5, if_pos hf]
  · exact (f3 _ _ (by decide)).trans ((x2 _ _ (by decide)).trans ((f2 _ _ (by decide)).trans u3))
  · exact (f3 _ _ (by decide)).trans ((x2 _ _ (by decide)).trans w0)
  · rw [f3.g _ _ (by decide)]; exact x3
  · rw [f3.g 40 1 (by decide), f3.g H 5 (n4 _ _ (by omega)), x2.g H 5 (n3 _ _ (by omega))]; exact x4
  · rw [f3.g 41 i (n4 _ _ (by omega)), f3.g (H + 2) i (n4 _ _ (by omega)), x2.g (H + 2) i (n3 _ _ (by omega))]; exact x5 i hi
  · rw [f3.g 42 i (n4 _ _ (by omega)), f3.g 43 i (n4 _ _ (by omega))]; exact x6 i hi
