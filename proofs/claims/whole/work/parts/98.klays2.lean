/-! PURE, the reference: all lengths -/
def kt_L (Z : jz_Z) (Ds : Nat → List Int) (a : Nat → Int) (d : kD) (m l n : Nat) (τ : jl_Mm) : Prop :=
  jl_g τ 206 68 = kt_cnt Z Ds a d m l n ∧ (∀ j, j < n → jl_g τ 254 (j + 1) = if kt_fit Z Ds a d m l (j + 1) = true then 1 else 0) ∧
  ∀ j h w, j < n → h ≤ 30 → w < ks_nw Z → jl_g τ 255 (930 * (j + 1) + 30 * h + w) = ks_in Z (ks_hrs Z Ds (ks_u a (8 + l) ((j + 1 : Nat) : Int)) h) (w : Int)
theorem kt_L.fr {Z : jz_Z} {Ds : Nat → List Int} {a : Nat → Int} {d : kD} {m l n : Nat} {s τ : jl_Mm} {F : jp_F} (h : kt_L Z Ds a d m l n s) (f : jp_fr F s τ) (w : ∀ i, jp_in F 254 i = false ∧ jp_in F 255 i = false) (w2 : jp_in F 206 68 = false) : kt_L Z Ds a d m l n τ :=
  ⟨(f.g _ _ w2).trans h.1, fun j hj => (f.g _ _ (w _).1).trans (h.2.1 j hj), fun j i k hj hi hk => (f.g _ _ (w _).2).trans (h.2.2 j i k hj hi hk)⟩
theorem kr_lays1 {Z : jz_Z} {Ds : Nat → List Int} {a : Nat → Int} {d : kD} {l m n f : Nat} {s : jl_Mm} (hV : kz_N Z Ds a) (hm : m ≤ 16) (hl : l < ks_nl Z) (hn : n < 99) (hTh : kr_Th Z Ds a a s) (hR : kt_R d m s) (hL : kt_L Z Ds a d m l n s) :
    ∃ τ, jf_X12_laysInches_L11 (f + 1) (l : Int) ((n + 1 : Nat) : Int) s = jf_X12_laysInches_L11 f (l : Int) ((n + 2 : Nat) : Int) τ ∧ jp_fr kr_FL s τ ∧ kr_Th Z Ds a a τ ∧ kt_R d m τ ∧ kt_L Z Ds a d m l (n + 1) τ := by
  have hZ := hTh.1.1
  have h8 := hZ.l
  have e8 : jl_add 8 (l : Int) = ((8 + l : Nat) : Int) := by rw [jp_add (by omega) (by omega)]; omega
  have ea : jl_add ((n + 1 : Nat) : Int) 1 = ((n + 2 : Nat) : Int) := by rw [jp_add (by omega) (by omega)]; omega
  have V2 := hV.1.u8 (l := l) (v := ((n + 1 : Nat) : Int)) hZ hl (by omega)
  have A2 := hTh.2.2.1.up (i := 8 + l) (v := ((n + 1 : Nat) : Int)) ⟨by omega, by omega⟩
  have f1 : jp_fr [(249, 0, 0)] s (jl_up s 249 (8 + l) ((n + 1 : Nat) : Int)) := jp_fr.rf.up (by simp [jp_in])
  have n1 : ∀ {c i : Nat}, c ≠ 249 → jp_in [(249, 0, 0)] c i = false := by intro c i h; simp [jp_in]; omega
  rw [jf_X12_laysInches_L11, if_neg (by omega), e8, if_pos (by omega), jp_lm, Int.toNat_natCast, if_pos (by omega), jp_lm, Int.toNat_natCast]
  have T1 : kr_Th Z Ds a (ks_u a (8 + l) ((n + 1 : Nat) : Int)) (jl_up s 249 (8 + l) ((n + 1 : Nat) : Int)) := ⟨hTh.1.fr f1 (fun c i _ _ => n1 (by omega)), hTh.2.1.fr f1 (fun c i _ _ => n1 (by omega)), A2, fun i hi => (f1.g _ _ (n1 (by decide))).trans (hTh.2.2.2.1 i hi), (f1.g _ _ (n1 (by decide))).trans hTh.2.2.2.2⟩
  have L1 := hL.fr f1 (fun i => ⟨n1 (by decide), n1 (by decide)⟩) (n1 (by decide))
  have R1 := hR.fr f1 (fun i => n1 (by decide)) (n1 (by decide))
  generalize jl_up s 249 (8 + l) ((n + 1 : Nat) : Int) = s1 at *
  have f2 : jp_fr [(254, 0, 0)] s1 (jl_up s1 254 (n + 1) 1) := jp_fr.rf.up (by simp [jp_in])
  have g2 : jl_g (jl_up s1 254 (n + 1) 1) 254 (n + 1) = 1 := jp_g_eq (by decide) (by decide)
  have o2 : ∀ x, x ≠ n + 1 → jl_g (jl_up s1 254 (n + 1) 1) 254 x = jl_g s1 254 x := fun x hx => jp_g_nei hx
  generalize jl_up s1 254 (n + 1) 1 = s2 at *
  have n2 : ∀ {c i : Nat}, c ≠ 254 → jp_in [(254, 0, 0)] c i = false := by intro c i h; simp [jp_in]; omega
  have T2 := T1.f3 f2 (fun c i _ _ => n2 (by omega)) (n2 (by decide))
  have R2 := R1.fr f2 (fun i => n2 (by decide)) (n2 (by decide))
  have I0 : kt_I Z Ds a (ks_u a (8 + l) ((n + 1 : Nat) : Int)) d m (n + 1) 0 s2 s2 := ⟨jp_fr.rf, T2, R2, by rw [g2]; rfl, fun h' w hh => by omega, fun _ _ => rfl, fun _ _ => rfl, rfl⟩
  have eu0 : ks_u a (8 + l) ((n + 1 : Nat) : Int) 0 = a 0 := ks_un (by omega)
  have eu24 : ks_u a (8 + l) ((n + 1 : Nat) : Int) 24 = a 24 := ks_un (by omega)
  have loop : ∃ τ, (∃ g, jf_X12_laysInches_L36 (jf_X12_laysInches_L11 f) jl_fu (l : Int) ((n + 1 : Nat) : Int) 0 s2 = jf_X12_laysInches_L36 (jf_X12_laysInches_L11 f) (g + 1) (l : Int) ((n + 1 : Nat) : Int) ((31 : Nat) : Int) τ) ∧ kt_I Z Ds a (ks_u a (8 + l) ((n + 1 : Nat) : Int)) d m (n + 1) 31 s2 τ := by
    refine ku_for (α := jl_Mm) (G := fun g h τ => jf_X12_laysInches_L36 (jf_X12_laysInches_L11 f) g (l : Int) ((n + 1 : Nat) : Int) ((h : Nat) : Int) τ) (N := 31) (P := fun o => ∃ τ, (∃ g, o = jf_X12_laysInches_L36 (jf_X12_laysInches_L11 f) (g + 1) (l : Int) ((n + 1 : Nat) : Int) ((31 : Nat) : Int) τ) ∧ kt_I Z Ds a (ks_u a (8 + l) ((n + 1 : Nat) : Int)) d m (n + 1) 31 s2 τ) (I := fun h τ => kt_I Z Ds a (ks_u a (8 + l) ((n + 1 : Nat) : Int)) d m (n + 1) h s2 τ) (fun g h τ hh hI => Or.inr ?_) (fun g τ hI => ⟨τ, ⟨g, rfl⟩, hI⟩) 31 0 jl_fu s2 (by decide) (by decide) I0
    exact kr_lays36 hZ hV.2.1 V2 (by rw [eu24]; exact hV.2.2.2) (by rw [eu0]; exact hV.2.2.1) hm (by omega) (by omega) hI
  obtain ⟨s3, ⟨g, e⟩, i1, i2, i3, i4, i5, i6, i7, i8⟩ := loop
  have hh' := ks_hrs_V (Ds := Ds) hZ V2 31 (by rw [eu0]; have := hV.2.2.1; omega)
  obtain ⟨s4, t4, f4, T4⟩ := kr_anew i2 (fun j hj => by rw [hh'.2.2.1 j hj, ks_un (by omega)])
  have F4 : jp_fr kr_FL s s4 := ((f1.w (by decide)).tr (f2.w (by decide))).tr (i1.tr (f4.w (by decide)))
  have R4 := i3.fr f4 (fun i => n1 (by decide)) (n1 (by decide))
  have g4 : jl_g s4 254 (n + 1) = (if kt_fit Z Ds a d m l (n + 1) = true then 1 else 0) := (f4.g _ _ (n1 (by decide))).trans i4
  have c4 : jl_g s4 206 68 = kt_cnt Z Ds a d m l n := by rw [f4.g _ _ (n1 (by decide)), i8, f2.g _ _ (n2 (by decide))]; exact L1.1
  have p4 : ∀ j, j < n + 1 → jl_g s4 254 (j + 1) = if kt_fit Z Ds a d m l (j + 1) = true then 1 else 0 := fun j hj => by
    by_cases c : j = n
    · subst c; exact g4
    · rw [f4.g _ _ (n1 (by decide)), i6 _ (by omega), o2 _ (by omega)]; exact L1.2.1 j (by omega)
  have w4 : ∀ j h w, j < n + 1 → h ≤ 30 → w < ks_nw Z → jl_g s4 255 (930 * (j + 1) + 30 * h + w) = ks_in Z (ks_hrs Z Ds (ks_u a (8 + l) ((j + 1 : Nat) : Int)) h) (w : Int) := fun j h w hj hh hw => by
    have h30 := hZ.w
    rw [f4.g _ _ (n1 (by decide))]
    by_cases c : j = n
    · subst c; exact i5 h w (by omega) hw
    · rw [i7 _ (by omega), f2.g _ _ (n2 (by decide))]; exact L1.2.2 j h w (by omega) hh hw
  have cb : 0 ≤ kt_cnt Z Ds a d m l n ∧ kt_cnt Z Ds a d m l n ≤ (n : Int) := ku_n_ge (fun j => kt_fit Z Ds a d m l (j + 1)) n
  have e' : jf_X12_laysInches_L36 (jf_X12_laysInches_L11 f) jl_fu (l : Int) ((n + 1 : Nat) : Int) (0 : Int) s2 = _ := e
  rw [e', jf_X12_laysInches_L36, if_pos (by decide), t4, jp_bd, if_pos (by omega), Int.toNat_natCast, g4, jf_X12_laysInches_B145, ea]
  by_cases c : kt_fit Z Ds a d m l (n + 1) = true
  · rw [if_pos c, if_neg (by decide), c4, jp_add (a := kt_cnt Z Ds a d m l n) (by omega) (by omega), jp_lm, jf_X12_laysInches_B145, ea]
    have f5 : jp_fr [(206, 68, 69)] s4 (jl_up s4 206 68 (kt_cnt Z Ds a d m l n + 1)) := jp_fr.rf.up (by decide)
    have n5 : ∀ {c i : Nat}, c ≠ 206 → jp_in [(206, 68, 69)] c i = false := by intro c i h; simp [jp_in]; omega
    refine ⟨_, rfl, F4.up (by decide), T4.f3 f5 (fun c i _ _ => n5 (by omega)) (by decide), R4.fr f5 (fun i => n5 (by decide)) (by decide), ?_, fun j hj => ?_, fun j h w hj hh hw => ?_⟩
    · rw [jp_g_eq (by omega) (by omega), kt_cnt_S, if_pos c]
    · rw [jp_g_ne (by decide)]; exact p4 j hj
    · rw [jp_g_ne (by decide)]; exact w4 j h w hj hh hw
  · rw [if_neg c, if_pos rfl]
    exact ⟨s4, rfl, F4, T4, R4, by rw [c4, kt_cnt_S, if_neg c], p4, w4⟩
