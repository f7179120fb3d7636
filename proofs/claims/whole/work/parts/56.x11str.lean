/-! PURE, the class: street -/
theorem jz_E.fr {H : Nat} {r : List Int × jz_Z} {s τ : jl_Mm} {F : jp_F} (h : jz_E H r s) (f : jp_fr F s τ) (w : ∀ c i, H ≤ c → c < H + 15 → jp_in F c i = false) : jz_E H r τ := by
  obtain ⟨h1, ⟨h2, h3, w', h4, h5⟩, h6, h7, h8⟩ := h
  refine ⟨h1.fr f (fun c i a b => w c i a (by omega)), ⟨h2.fr f (w _ _ (by omega) (by omega)) (fun i => w _ _ (by omega) (by omega)), fun z => (h3 z).fr f (fun i => w _ _ (by omega) (by omega)) (fun i => w _ _ (by omega) (by omega)) (fun i => w _ _ (by omega) (by omega)) (fun _ _ => ⟨rfl, rfl⟩), w', h4, (f.g _ _ (w _ _ (by omega) (by omega))).trans h5⟩, ?_, ?_, ?_⟩
  · rw [f.g _ _ (w _ _ (by omega) (by omega))]; exact h6
  · rw [f.g _ _ (w _ _ (by omega) (by omega))]; exact h7
  · rw [f.g _ _ (w _ _ (by omega) (by omega))]; exact h8
theorem jx11_take {s : jl_Mm} : jE (jf_X11_takeFault s) 0 [(0, 15, 17), (1, 1, 2)] s (fun τ => jl_g τ 0 15 = jl_g s 38 7 ∧ jl_g τ 0 16 = jl_g s 38 8 ∧ jl_g τ 1 1 = 0) := by
  rw [jf_X11_takeFault, jp_lm, jp_lm, jp_lm]
  refine ⟨_, rfl, ((jp_fr.rf.up rfl).up rfl).up rfl, ?_, ?_, ?_⟩
  · rw [jp_g_ne (by decide), jp_g_nei (by decide), jp_g_eqg]
  · rw [jp_g_ne (by decide), jp_g_eqg, jp_g_ne (by decide)]
  · rw [jp_g_eq (by decide) (by decide)]
/-- a street refused -/
theorem jx11_streetF {T : Nat → Int} {e H : Nat} {s : jl_Mm} (hH : jz_Hq H) (h3 : s 0 3 = (H : Int)) (hP : jq_P T e s) (h5 : ∃ w : Nat, (w = 0 ∨ w = 1 ∨ w = 2) ∧ jl_g s (H + 10) 5 = (w : Int)) (hf : (jz_street T e).1.1 ≠ 0) : jE (jf_X11_street s) (-1) (jz_FA H ++ [(0, 15, 17), (1, 1, 2), (205, 1, 2)]) s (fun τ => jl_g τ 1 1 = 0 ∧ jl_g τ 0 15 = ((jz_street T e).1.1 : Int) ∧ jl_g τ 0 16 = ((jz_street T e).1.2.1 : Int) ∧ jl_g τ 205 1 = jl_add (jl_g s 205 1) 1 ∧ ∃ w : Nat, (w = 0 ∨ w = 1 ∨ w = 2) ∧ jl_g τ (H + 10) 5 = (w : Int)) := by
  have hH38 : H + 14 < 38 ∧ 2 < H := by rcases hH with rfl | rfl <;> decide
  have g3 : jl_gr s 0 3 = H := by rw [jl_gr, h3]; exact Int.toNat_natCast _
  obtain ⟨a, a1, a2, a3, a4, a5, a6, a7⟩ := jx9_readAll hH hP h5
  obtain ⟨b, b1, b2, b3, b4, b5⟩ := jx11_take (s := a)
  generalize jz_street T e = R at *
  rw [jf_X11_street, g3, if_pos ⟨by omega, jz_kd hH⟩, a1, jp_bd, b1, jp_bd, b3, a4, if_neg (by omega), jf_X11_refuse, if_pos (by decide), if_pos (by decide), jp_lm, show (1 : Int).toNat = 1 from rfl, jp_bd]
  have v : jl_g (jl_up b 205 1 (jl_add (jl_g b 205 1) 1)) 205 1 = jl_add (jl_g b 205 1) 1 := jp_g_eq (jl_n3_to _).1 (jl_n3_to _).2
  obtain ⟨w, hw, hw5⟩ := a7
  have nA : jp_in (jz_FA H) 205 1 = false := by simp [jp_in, jz_FA, jz_FC]; omega
  refine ⟨_, rfl, ?_, ?_, ?_, ?_, ?_, w, hw, ?_⟩
  · refine (a2.w ?_).tr ((b2.w ?_).tr (jp_fr.rf.up ?_))
    · simp [jz_FA, jz_FC]
    · simp
    · simp [jp_in]
  · rw [jp_g_ne (by decide)]; exact b5
  · rw [jp_g_ne (by decide), b3]; exact a4
  · rw [jp_g_ne (by decide), b4, a5, if_neg hf]
  · rw [v, b2.g _ _ (by decide), a2.g _ _ nA]
  · rw [jp_g_ne (by omega), b2.g _ _ (by simp [jp_in] <;> omega)]; exact hw5
