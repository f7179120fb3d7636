/-! PURE, the reference: all lengths -/
def kt_L (Z : jz_Z) (Ds : Nat → List Int) (a : Nat → Int) (d : kD) (m l n : Nat) (τ : jl_Mm) : Prop :=
  jl_g τ 206 68 = kt_cnt Z Ds a d m l n ∧ (∀ j, j < n → jl_g τ 254 (j + 1) = if kt_fit Z Ds a d m l (j + 1) = true then 1 else 0) ∧
  ∀ j h w, j < n → h ≤ 30 → w < ks_nw Z → jl_g τ 255 (930 * (j + 1) + 30 * h + w) = ks_in Z (ks_hrs Z Ds (ks_u a (8 + l) ((j + 1 : Nat) : Int)) h) (w : Int)
theorem kt_L.fr {Z : jz_Z} {Ds : Nat → List Int} {a : Nat → Int} {d : kD} {m l n : Nat} {s τ : jl_Mm} {F : jp_F} (h : kt_L Z Ds a d m l n s) (f : jp_fr F s τ) (w : ∀ i, jp_in F 254 i = false ∧ jp_in F 255 i = false) (w2 : jp_in F 206 68 = false) : kt_L Z Ds a d m l n τ :=
  ⟨(f.g _ _ w2).trans h.1, fun j hj => (f.g _ _ (w _).1).trans (h.2.1 j hj), fun j i k hj hi hk => (f.g _ _ (w _).2).trans (h.2.2 j i k hj hi hk)⟩
theorem kr_lays1 {Z : jz_Z} {Ds : Nat → List Int} {a : Nat → Int} {d : kD} {l m n f : Nat} {s : jl_Mm} (hV : kz_N Z Ds a) (hm : m ≤ 16) (hl : l < ks_nl Z) (hn : n < 99) (hTh : kr_Th Z Ds a a s) (hR : kt_R d m s) (hL : kt_L Z Ds a d m l n s) :
    ∃ τ, jf_X12_laysInches_L11 (f + 1) (l : Int) ((n + 1 : Nat) : Int) s = jf_X12_laysInches_L11 f (l : Int) ((n + 2 : Nat) : Int) τ ∧ jp_fr kr_FL s τ ∧ kr_Th Z Ds a a τ ∧ kt_R d m τ ∧ kt_L Z Ds a d m l (n + 1) τ := by
  have hZ := hTh.1.1
  have h8 := hZ.l
  have e8 : jl_add 8 (l : Int) = ((8 + l : Nat) : Int) := by rw [jp_add (by omega) (by omega)]; omega
  have ea : jl_add ((n + 1 : Nat) : Int) 1 = ((n + 2 : Nat) : Int) := by rw [jp_add (by omega) (by omega)]; omega
  have V2 := hV.1.u8 (l := l) (v := ((n + 1 : Nat) : Int)) hZ hl (by omega)
  have A2 := hTh.2.2.1.up (i := 8 + l) (v := ((n + 1 : Nat) : Int)) ⟨by omega, by omega⟩
  have f1 : jp_fr [(249, 0, 0)] s (jl_up s 249 (8 + l) ((n + 1 : Nat) : Int)) := jp_fr.rf.up (by simp [jp_in])
  have n1 : ∀ {c i : Nat}, c ≠ 249 → jp_in [(249, 0, 0)] c i = false := by intro c i h; simp [jp_in]; omega
  rw [jf_X12_laysInches_L11, if_neg (by omega), e8, if_pos (by omega), jp_lm, Int.toNat_natCast, if_pos (by omega), jp_lm, Int.toNat_natCast]
  have T1 : kr_Th Z Ds a (ks_u a (8 + l) ((n + 1 : Nat) : Int)) (jl_up s 249 (8 + l) ((n + 1 : Nat) : Int)) := ⟨hTh.1.fr f1 (fun c i _ _ => n1 (by omega)), hTh.2.1.fr f1 (fun c i _ _ => n1 (by omega)), A2, fun i hi => (f1.g _ _ (n1 (by decide))).trans (hTh.2.2.2.1 i hi), (f1.g _ _ (n1 (by decide))).trans hTh.2.2.2.2⟩
  have L1 := hL.fr f1 (fun i => ⟨n1 (by decide), n1 (by decide)⟩) (n1 (by decide))
  have R1 := hR.fr f1 (fun i => n1 (by decide)) (n1 (by decide))
  generalize jl_up s 249 (8 + l) ((n + 1 : Nat) : Int) = s1 at *
  have f2 : jp_fr [(254, 0, 0)] s1 (jl_up s1 254 (n + 1) 1) := jp_fr.rf.up (by simp [jp_in])
  have g2 : jl_g (jl_up s1 254 (n + 1) 1) 254 (n + 1) = 1 := jp_g_eq (by decide) (by decide)
  have o2 : ∀ x, x ≠ n + 1 → jl_g (jl_up s1 254 (n + 1) 1) 254 x = jl_g s1 254 x := fun x hx => jp_g_nei hx
  generalize jl_up s1 254 (n + 1) 1 = s2 at *
  have n2 : ∀ {c i : Nat}, c ≠ 254 → jp_in [(254, 0, 0)] c i = false := by intro c i h; simp [jp_in]; omega
  have T2 := T1.f3 f2 (fun c i _ _ => n2 (by omega)) (n2 (by decide))
  have R2 := R1.fr f2 (fun i => n2 (by decide)) (n2 (by decide))
  have I0 : kt_I Z Ds a (ks_u a (8 + l) ((n + 1 : Nat) : Int)) d m (n + 1) 0 s2 s2 := ⟨jp_fr.rf, T2, R2, by rw [g2]; rfl, fun h' w hh => by omega, fun _ _ => rfl, fun _ _ => rfl, rfl⟩
  have eu0 : ks_u a (8 + l) ((n + 1 : Nat) : Int) 0 = a 0 := ks_un (by omega)
  have eu24 : ks_u a (8 + l) ((n + 1 : Nat) : Int) 24 = a 24 := ks_un (by omega)
  have loop : ∃ τ, (∃ g, jf_X12_laysInches_L36 (jf_X12_laysInches_L11 f) jl_fu (l : Int) ((n + 1 : Nat) : Int) 0 s2 = jf_X12_laysInches_L36 (jf_X12_laysInches_L11 f) (g + 1) (l : Int) ((n + 1 : Nat) : Int) ((31 : Nat) : Int) τ) ∧ kt_I Z Ds a (ks_u a (8 + l) ((n + 1 : Nat) : Int)) d m (n + 1) 31 s2 τ := by
    refine ku_for (α := jl_Mm) (G := fun g h τ => jf_X12_laysInches_L36 (jf_X12_laysInches_L11 f) g (l : Int) ((n + 1 : Nat) : Int) ((h : Nat) : Int) τ) (N := 31) (P := fun o => ∃ τ, (∃ g, o = jf_X12_laysInches_L36 (jf_X12_laysInches_L11 f) (g + 1) (l : Int) ((n + 1 : Nat) : Int) ((31 : Nat) : Int) τ) ∧ kt_I Z Ds a (ks_u a (8 + l) ((n + 1 : Nat) : Int)) d m (n + 1) 31 s2 τ) (I := fun h τ => kt_I Z Ds a (ks_u a (8 + l) ((n + 1 : Nat) : Int)) d m (n + 1) h s2 τ) (fun g h τ hh hI => Or.inr ?_) (fun g τ hI => ⟨τ, ⟨g, rfl⟩, hI⟩) 31 0 jl_fu s2 (by decide) (by decide) I0
    exact kr_lays36 hZ hV.2.1 V2 (by rw [eu24]; exact hV.2.2.2) (by rw [eu0]; exact hV.2.2.1) hm (by omega) (by omega) hI
  obtain ⟨s3, ⟨g, e⟩, i1, i2, i3, i4, i5, i6, i7, i8⟩ := loop
  have hh' := ks_hrs_V (Ds := Ds) hZ V2 31 (by rw [eu0]; have := hV.2.2.1; omega)
  obtain ⟨s4, t4, f4, T4⟩ := kr_anew i2 (fun j hj => by rw [hh'.2.2.1 j hj, ks_un (by omega)])
  have F4 : jp_fr kr_FL s s4 := ((f1.w (by decide)).tr (f2.w (by decide))).tr (i1.tr (f4.w (by decide)))
  have R4 := i3.fr f4 (fun i => n1 (by decide)) (n1 (by decide))
  have g4 : jl_g s4 254 (n + 1) = (if kt_fit Z Ds a d m l (n + 1) = true then 1 else 0) := (f4.g _ _ (n1 (by decide))).trans i4
  have c4 : jl_g s4 206 68 = kt_cnt Z Ds a d m l n := by rw [f4.g _ _ (n1 (by decide)), i8, f2.g _ _ (n2 (by decide))]; exact L1.1
  have p4 : ∀ j, j < n + 1 → jl_g s4 254 (j + 1) = if kt_fit Z Ds a d m l (j + 1) = true then 1 else 0 := fun j hj => by
    by_cases c : j = n
    · subst c; exact g4
    · rw [f4.g _ _ (n1 (by decide)), i6 _ (by omega), o2 _ (by omega)]; exact L1.2.1 j (by omega)
  have w4 : ∀ j h w, j < n + 1 → h ≤ 30 → w < ks_nw Z → jl_g s4 255 (930 * (j + 1) + 30 * h + w) = ks_in Z (ks_hrs Z Ds (ks_u a (8 + l) ((j + 1 : Nat) : Int)) h) (w : Int) := fun j h w hj hh hw => by
    have h30 := hZ.w
    rw [f4.g _ _ (n1 (by decide))]
    by_cases c : j = n
    · subst c; exact i5 h w (by omega) hw
    · rw [i7 _ (by omega), f2.g _ _ (n2 (by decide))]; exact L1.2.2 j h w (by omega) hh hw
  have cb : 0 ≤ kt_cnt Z Ds a d m l n ∧ kt_cnt Z Ds a d m l n ≤ (n : Int) := ku_n_ge (fun j => kt_fit Z Ds a d m l (j + 1)) n
  have e' : jf_X12_laysInches_L36 (jf_X12_laysInches_L11 f) jl_fu (l : Int) ((n + 1 : Nat) : Int) (0 : Int) s2 = _ := e
  rw [e', jf_X12_laysInches_L36, if_pos (by decide), t4, jp_bd, if_pos (by omega), Int.toNat_natCast, g4, jf_X12_laysInches_B145, ea]
  by_cases c : kt_fit Z Ds a d m l (n + 1) = true
  · rw [if_pos c, if_neg (by decide), c4, jp_add (a := kt_cnt Z Ds a d m l n) (by omega) (by omega), jp_lm, jf_X12_laysInches_B145, ea]
    have f5 : jp_fr [(206, 68, 69)] s4 (jl_up s4 206 68 (kt_cnt Z Ds a d m l n + 1)) := jp_fr.rf.up (by decide)
    have n5 : ∀ {c i : Nat}, c ≠ 206 → jp_in [(206, 68, 69)] c i = false := by intro c i h; simp [jp_in]; omega
    refine ⟨_, rfl, F4.up (by decide), T4.f3 f5 (fun c i _ _ => n5 (by omega)) (by decide), R4.fr f5 (fun i => n5 (by decide)) (by decide), ?_, fun j hj => ?_, fun j h w hj hh hw => ?_⟩
    · rw [jp_g_eq (by omega) (by omega), kt_cnt_S, if_pos c]
    · rw [jp_g_ne (by decide)]; exact p4 j hj
    · rw [jp_g_ne (by decide)]; exact w4 j h w hj hh hw
  · rw [if_neg c, if_pos rfl]
    exact ⟨s4, rfl, F4, T4, R4, by rw [c4, kt_cnt_S, if_neg c], p4, w4⟩
theorem kr_lays {Z : jz_Z} {Ds : Nat → List Int} {a : Nat → Int} {d : kD} {l m : Nat} {s : jl_Mm} (hN : kr_N Z Ds a s) (hV : kz_N Z Ds a) (hm : m ≤ 16) (hl : l < ks_nl Z) (hR : kt_R d m s) : jE (jf_X12_laysInches (l : Int) s) 0 kr_FL s (fun τ => kr_N Z Ds a τ ∧ kt_L Z Ds a d m l 99 τ) := by
  have f1 : jp_fr [(206, 68, 69)] s (jl_up s 206 68 0) := jp_fr.rf.up (by decide)
  have n1 : ∀ {c i : Nat}, (c = 206 → i ≠ 68) → jp_in [(206, 68, 69)] c i = false := by intro c i h; simp [jp_in]; omega
  have g1 : jl_g (jl_up s 206 68 0) 206 68 = 0 := jp_g_eq (by decide) (by decide)
  rw [jf_X12_laysInches, jp_lm]
  generalize jl_up s 206 68 0 = s1 at *
  have N1 := hN.fr f1 (fun c i _ _ => n1 (by omega)) ⟨n1 (by decide), n1 (by decide)⟩
  have R1 := hR.fr f1 (fun i => n1 (by intro z; omega)) (n1 (by decide))
  obtain ⟨s2, t2, f2, T2⟩ := kr_aside N1.1 N1.2.1 N1.2.2.1
  have R2 := R1.fr f2 (fun i => kr_FAn (by decide) (by intro z; omega) (by decide)) (kr_FAn (by decide) (by decide) (by decide))
  have F2 : jp_fr kr_FL s s2 := (f1.w (by decide)).tr (f2.w (by decide))
  have g2 : jl_g s2 206 68 = 0 := (f2.g _ _ (by decide)).trans g1
  rw [t2, jp_bd]
  refine ku_for (α := jl_Mm) (G := fun g n τ => jf_X12_laysInches_L11 g (l : Int) ((n + 1 : Nat) : Int) τ) (N := 99) (P := fun o => jE o 0 kr_FL s (fun τ => kr_N Z Ds a τ ∧ kt_L Z Ds a d m l 99 τ)) (I := fun n τ => jp_fr kr_FL s τ ∧ kr_Th Z Ds a a τ ∧ kt_R d m τ ∧ kt_L Z Ds a d m l n τ) (fun g n τ hn hI => Or.inr ?_) (fun g τ hI => ?_) 99 0 jl_fu s2 (by decide) (by decide) ⟨F2, T2, R2, g2, fun j hj => by omega, fun j h w hj => by omega⟩
  · obtain ⟨i1, i2, i3, i4⟩ := hI
    obtain ⟨υ, u1, u2, u3, u4, u5⟩ := kr_lays1 (f := g) hV hm hl hn i2 i3 i4
    exact ⟨υ, u1, i1.tr u2, u3, u4, u5⟩
  · obtain ⟨i1, i2, i3, i4⟩ := hI
    show jE (jf_X12_laysInches_L11 (g + 1) (l : Int) ((100 : Nat) : Int) τ) _ _ _ _
    obtain ⟨υ, u1, u2, u3, u4⟩ := kr_back i2 (fun _ _ => rfl)
    have n3 : ∀ {c i : Nat}, c ≠ 249 → (c = 206 → i ≠ 63) → jp_in [(249, 0, 0), (206, 63, 64)] c i = false := by intro c i h h2; simp [jp_in]; omega
    have F : jp_fr kr_FL s υ := i1.tr (u2.w (by decide))
    rw [jf_X12_laysInches_L11, if_pos (by decide), u1, jp_bd]
    exact ⟨υ, rfl, F, ⟨i2.1.fr u2 (fun c i _ _ => n3 (by omega) (by omega)), i2.2.1.fr u2 (fun c i _ _ => n3 (by omega) (by omega)), u3, u4, (F.g _ _ (by decide)).trans hN.2.2.2.2⟩, i4.fr u2 (fun i => ⟨n3 (by decide) (by intro z; omega), n3 (by decide) (by intro z; omega)⟩) (n3 (by decide) (by decide))⟩
/-- the k-th that fits -/
def kt_kth (Z : jz_Z) (Ds : Nat → List Int) (a : Nat → Int) (d : kD) (m l : Nat) (k : Int) : Nat → Int
  | 0 => -1
  | n + 1 => if kt_fit Z Ds a d m l (n + 1) = true ∧ kt_cnt Z Ds a d m l n = k then ((n + 1 : Nat) : Int) else kt_kth Z Ds a d m l k n
theorem kt_kth_of {Z : jz_Z} {Ds : Nat → List Int} {a : Nat → Int} {d : kD} {m l j : Nat} {k : Int} (hf : kt_fit Z Ds a d m l (j + 1) = true) (hk : kt_cnt Z Ds a d m l j = k) : ∀ n, j < n → kt_kth Z Ds a d m l k n = ((j + 1 : Nat) : Int)
  | 0, h => by omega
  | n + 1, h => by
    rw [kt_kth]
    by_cases c : j = n
    · subst c; rw [if_pos ⟨hf, hk⟩]
    · have := kt_cnt_lt hf n (by omega)
      rw [if_neg (fun q => by have := q.2; omega)]
      exact kt_kth_of hf hk n (by omega)
theorem kt_kth_no {Z : jz_Z} {Ds : Nat → List Int} {a : Nat → Int} {d : kD} {m l : Nat} {k : Int} : ∀ n, (∀ j, j < n → ¬ (kt_fit Z Ds a d m l (j + 1) = true ∧ kt_cnt Z Ds a d m l j = k)) → kt_kth Z Ds a d m l k n = -1
  | 0, _ => rfl
  | n + 1, h => by rw [kt_kth, if_neg (h n (by omega))]; exact kt_kth_no n (fun j hj => h j (by omega))
theorem kt_ex {Z : jz_Z} {Ds : Nat → List Int} {a : Nat → Int} {d : kD} {m l : Nat} {k : Int} (h0 : 0 ≤ k) : ∀ n, k < kt_cnt Z Ds a d m l n → ∃ j, j < n ∧ kt_fit Z Ds a d m l (j + 1) = true ∧ kt_cnt Z Ds a d m l j = k
  | 0, h => by have : kt_cnt Z Ds a d m l 0 = 0 := rfl; omega
  | n + 1, h => by
    rw [kt_cnt_S] at h
    by_cases c : k < kt_cnt Z Ds a d m l n
    · obtain ⟨j, x, y, z⟩ := kt_ex h0 n c
      exact ⟨j, by omega, y, z⟩
    · by_cases f : kt_fit Z Ds a d m l (n + 1) = true
      · rw [if_pos f] at h
        exact ⟨n, by omega, f, by omega⟩
      · rw [if_neg f] at h; omega
theorem kt_kth_hi {Z : jz_Z} {Ds : Nat → List Int} {a : Nat → Int} {d : kD} {m l n : Nat} {k : Int} (h : ¬ (0 ≤ k ∧ k < kt_cnt Z Ds a d m l n)) : kt_kth Z Ds a d m l k n = -1 := by
  refine kt_kth_no n (fun j hj q => h ?_)
  have := kt_cnt_lt q.1 n hj
  have cb : 0 ≤ kt_cnt Z Ds a d m l j := (ku_n_ge (fun j => kt_fit Z Ds a d m l (j + 1)) j).1
  have := q.2
  omega
theorem kr_inL {Z : jz_Z} {Ds : Nat → List Int} {a : Nat → Int} {d : kD} {m l : Nat} {k : Int} {s : jl_Mm} (hk : 0 ≤ k ∧ k < 2147483648) (h : kt_L Z Ds a d m l 99 s) : jf_X12_inches_L44 jl_fu k 0 1 s = some (kt_kth Z Ds a d m l k 99, s) := by
  refine ku_for (α := Unit) (G := fun g n _ => jf_X12_inches_L44 g k (kt_cnt Z Ds a d m l n) ((n + 1 : Nat) : Int) s) (N := 99) (P := fun o => o = some (kt_kth Z Ds a d m l k 99, s)) (I := fun n _ => ∀ j, j < n → ¬ (kt_fit Z Ds a d m l (j + 1) = true ∧ kt_cnt Z Ds a d m l j = k)) (fun g n u hn hI => ?_) (fun g u hI => ?_) 99 0 jl_fu () (by decide) (by decide) (fun j hj => by omega)
  · have ea : jl_add ((n + 1 : Nat) : Int) 1 = ((n + 2 : Nat) : Int) := by rw [jp_add (by omega) (by omega)]; omega
    have cb : 0 ≤ kt_cnt Z Ds a d m l n ∧ kt_cnt Z Ds a d m l n ≤ (n : Int) := ku_n_ge (fun j => kt_fit Z Ds a d m l (j + 1)) n
    show jf_X12_inches_L44 (g + 1) k (kt_cnt Z Ds a d m l n) ((n + 1 : Nat) : Int) s = _ ∨ ∃ _ : Unit, jf_X12_inches_L44 (g + 1) k (kt_cnt Z Ds a d m l n) ((n + 1 : Nat) : Int) s = jf_X12_inches_L44 g k (kt_cnt Z Ds a d m l (n + 1)) ((n + 2 : Nat) : Int) s ∧ _
    rw [jf_X12_inches_L44, if_neg (by omega), if_pos (by omega), Int.toNat_natCast, h.2.1 n hn, kt_cnt_S]
    by_cases c : kt_fit Z Ds a d m l (n + 1) = true
    · by_cases e : kt_cnt Z Ds a d m l n = k
      · left
        rw [if_pos c, if_neg (by decide), if_pos e, kt_kth_of c e 99 hn]
      · right
        refine ⟨(), by rw [if_pos c, if_neg (by decide), if_neg e, jf_X12_inches_B75, ea, jp_add (by omega) (by omega), if_pos c], fun j hj => ?_⟩
        by_cases q : j = n
        · subst q; exact fun z => e z.2
        · exact hI j (by omega)
    · right
      refine ⟨(), by rw [if_neg c, if_pos rfl, jf_X12_inches_B75, ea, if_neg c], fun j hj => ?_⟩
      by_cases q : j = n
      · subst q; exact fun z => c z.1
      · exact hI j (by omega)
  · show jf_X12_inches_L44 (g + 1) k (kt_cnt Z Ds a d m l 99) ((100 : Nat) : Int) s = _
    rw [jf_X12_inches_L44, if_pos (by decide), kt_kth_no 99 hI]
