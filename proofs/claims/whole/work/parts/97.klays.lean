/-! PURE, the reference: the lengths that fit -/
def kt_R (d : kD) (m : Nat) (s : jl_Mm) : Prop := jl_g s 206 65 = (m : Int) ∧ ∀ i, i < 3 * m → jl_g s 253 i = d 4 i
theorem kr_asSeen {n m : Nat} {Z : jz_Z} {b : Nat → Int} {d : kD} {s : jl_Mm} (hW : kr_W Z s) (hB : kr_A b s) (hS : kt_R d m s) (hm : m ≤ 16) (hn : n ≤ 100) :
    jf_X12_isAsSeen (n : Int) s = some (if ku_all (kt_row Z b d n) m = true then 1 else 0, s) := by
  have z : jf_X12_isAsSeen_B61 s = some (0, s) := by rw [jf_X12_isAsSeen_B61, jp_zb0]
  have step : ∀ f k, k < m → jf_X12_isAsSeen_L2 (f + 1) (n : Int) ((k : Nat) : Int) s = if kt_row Z b d n k = true then jf_X12_isAsSeen_L2 f (n : Int) ((k + 1 : Nat) : Int) s else some (0, s) := by
    intro f k hk
    have e0 : jl_mul 3 (k : Int) = ((3 * k : Nat) : Int) := by rw [jp_mul (by omega) (by omega)]; omega
    have e1 : jl_add ((3 * k : Nat) : Int) 1 = ((3 * k + 1 : Nat) : Int) := by rw [jp_add (by omega) (by omega)]; omega
    have e2 : jl_add ((3 * k : Nat) : Int) 2 = ((3 * k + 2 : Nat) : Int) := by rw [jp_add (by omega) (by omega)]; omega
    have e3 : jl_add (k : Int) 1 = ((k + 1 : Nat) : Int) := by rw [jp_add (by omega) (by omega)]; omega
    rw [jf_X12_isAsSeen_L2, hS.1, if_neg (by omega), e0, if_pos (by omega), Int.toNat_natCast, hS.2 _ (by omega), kt_row]
    by_cases c : d 4 (3 * k) = ((n : Nat) : Int)
    · rw [if_pos c, decide_eq_true c, show ((0 : Int) : Int).toNat = 0 from rfl, hB 0 (by decide)]
      by_cases c9 : 999 < b 0
      · rw [if_pos c9, z, decide_eq_false (show ¬ b 0 ≤ 999 by omega)]; rfl
      · rw [if_neg c9, decide_eq_true (show b 0 ≤ 999 by omega), e1, if_pos (by omega), Int.toNat_natCast, hS.2 _ (by omega), kr_inW hW hB, jp_bd, e2, if_pos (by omega), Int.toNat_natCast, hS.2 _ (by omega)]
        by_cases q : ks_in Z b (d 4 (3 * k + 1)) = d 4 (3 * k + 2)
        · rw [if_pos q, decide_eq_true q, jf_X12_isAsSeen_B63, e3]; rfl
        · rw [if_neg q, decide_eq_false q, z]; rfl
    · rw [if_neg c, decide_eq_false c, jf_X12_isAsSeen_B63, e3]; rfl
  have last : ∀ f, jf_X12_isAsSeen_L2 (f + 1) (n : Int) ((m : Nat) : Int) s = some (1, s) := by
    intro f
    rw [jf_X12_isAsSeen_L2, hS.1, if_pos (Int.le_refl _), jp_zb1]
  rw [jf_X12_isAsSeen]
  by_cases h : ku_all (kt_row Z b d n) m = true
  · have h' := (ku_all_T m).mp h
    rw [if_pos h]
    refine ku_forU (G := fun f k => jf_X12_isAsSeen_L2 f (n : Int) ((k : Nat) : Int) s) (N := m) (fun f k hk => ?_) (fun f => last f) m 0 jl_fu (Nat.zero_add _) (by show m < 4000; omega)
    show jf_X12_isAsSeen_L2 (f + 1) (n : Int) ((k : Nat) : Int) s = _
    rw [step f k hk, if_pos (h' k hk)]
  · rw [if_neg h]
    refine ku_for (α := Unit) (G := fun f k _ => jf_X12_isAsSeen_L2 f (n : Int) ((k : Nat) : Int) s) (N := m) (P := fun o => o = some (0, s)) (I := fun k _ => ∀ j, j < k → kt_row Z b d n j = true) (fun f k u hk hI => ?_) (fun f u hI => absurd ((ku_all_T m).mpr hI) h) m 0 jl_fu () (Nat.zero_add _) (by show m < 4000; omega) (by intro j hj; omega)
    show jf_X12_isAsSeen_L2 (f + 1) (n : Int) ((k : Nat) : Int) s = some (0, s) ∨ ∃ _ : Unit, jf_X12_isAsSeen_L2 (f + 1) (n : Int) ((k : Nat) : Int) s = jf_X12_isAsSeen_L2 f (n : Int) ((k + 1 : Nat) : Int) s ∧ ∀ j, j < k + 1 → kt_row Z b d n j = true
    rw [step f k hk]
    by_cases c : kt_row Z b d n k = true
    · right
      refine ⟨(), if_pos c, fun j hj => ?_⟩
      by_cases e : j = k
      · subst e; exact c
      · exact hI j (by omega)
    · left; exact if_neg c
theorem ks_in_b {Z : jz_Z} {b : Nat → Int} {w : Int} (hZ : kz_V Z) : 0 ≤ ks_in Z b w ∧ ks_in Z b w ≤ 8 := by
  have := ku_n_ge (ks_inP Z b w) (ks_nl Z)
  have h8 := hZ.l
  rw [ks_in]; omega
/-- one hour of one length: its windows -/
theorem kr_ways {Z : jz_Z} {b : Nat → Int} {l v h : Nat} {R11 : Int → Int → jl_Mm → jl_O} {R36 : Int → Int → Int → jl_Mm → jl_O} {s : jl_Mm} (hW : kr_W Z s) (hB : kr_A b s) (hv : v < 100) (hh : h ≤ 30) :
    ∃ τ, jf_X12_laysInches_L73 R11 R36 jl_fu (l : Int) (v : Int) (h : Int) 0 s = (jl_bd (jf_X12_hourGoes τ) fun _ s26 => R36 (l : Int) (v : Int) ((h + 1 : Nat) : Int) s26) ∧ jp_fr [(255, 0, 0)] s τ ∧ (∀ w, w < ks_nw Z → jl_g τ 255 (930 * v + 30 * h + w) = ks_in Z b (w : Int)) ∧ ∀ x, (x < 930 * v + 30 * h ∨ 930 * v + 30 * h + 30 ≤ x) → jl_g τ 255 x = jl_g s 255 x := by
  have h30 := hW.1.w
  have hF : ∀ {τ}, jp_fr [(255, 0, 0)] s τ → kr_W Z τ ∧ kr_A b τ := fun f => ⟨hW.fr f (fun c i _ _ => by simp [jp_in]; omega), hB.fr f (fun i => by simp [jp_in])⟩
  refine ku_for (α := jl_Mm) (G := fun f w τ => jf_X12_laysInches_L73 R11 R36 f (l : Int) (v : Int) (h : Int) ((w : Nat) : Int) τ) (N := ks_nw Z) (P := fun o => ∃ τ, o = (jl_bd (jf_X12_hourGoes τ) fun _ s26 => R36 (l : Int) (v : Int) ((h + 1 : Nat) : Int) s26) ∧ jp_fr [(255, 0, 0)] s τ ∧ (∀ w, w < ks_nw Z → jl_g τ 255 (930 * v + 30 * h + w) = ks_in Z b (w : Int)) ∧ ∀ x, (x < 930 * v + 30 * h ∨ 930 * v + 30 * h + 30 ≤ x) → jl_g τ 255 x = jl_g s 255 x)
    (I := fun w τ => jp_fr [(255, 0, 0)] s τ ∧ (∀ j, j < w → jl_g τ 255 (930 * v + 30 * h + j) = ks_in Z b (j : Int)) ∧ ∀ x, (x < 930 * v + 30 * h ∨ 930 * v + 30 * h + 30 ≤ x) → jl_g τ 255 x = jl_g s 255 x) (fun f w τ hw hI => Or.inr ?_) (fun f τ hI => ?_) (ks_nw Z) 0 jl_fu s (Nat.zero_add _) (by show ks_nw Z < 4000; omega) ⟨jp_fr.rf, fun j hj => by omega, fun _ _ => rfl⟩
  · obtain ⟨hf, hI, hx⟩ := hI
    obtain ⟨W, B⟩ := hF hf
    have em : jl_add (jl_add (jl_mul 930 (v : Int)) (jl_mul 30 (h : Int))) (w : Int) = ((930 * v + 30 * h + w : Nat) : Int) := by
      rw [jp_mul (by omega) (by omega), jp_mul (by omega) (by omega), jp_add (a := 930 * (v : Int)) (by omega) (by omega), jp_add (by omega) (by omega)]; omega
    have ib := ks_in_b (b := b) (w := (w : Int)) W.1
    refine ⟨jl_up τ 255 (930 * v + 30 * h + w) (ks_in Z b (w : Int)), ?_, hf.up (by simp [jp_in]), fun j hj => ?_, fun x hx' => ?_⟩
    · show jf_X12_laysInches_L73 R11 R36 (f + 1) (l : Int) (v : Int) (h : Int) (w : Int) τ = jf_X12_laysInches_L73 R11 R36 f (l : Int) (v : Int) (h : Int) ((w + 1 : Nat) : Int) _
      rw [jf_X12_laysInches_L73, W.nw, jp_bd, if_neg (by omega), kr_inW W B, jp_bd, em, if_pos (by omega), jp_lm, Int.toNat_natCast, jp_add (by omega) (by omega), ku_s]
    · by_cases c : j = w
      · subst c; exact jp_g_eq (by omega) (by omega)
      · rw [jp_g_nei (by omega)]; exact hI j (by omega)
    · rw [jp_g_nei (by omega)]; exact hx x hx'
  · obtain ⟨hf, hI, hx⟩ := hI
    obtain ⟨W, B⟩ := hF hf
    refine ⟨τ, ?_, hf, hI, hx⟩
    show jf_X12_laysInches_L73 R11 R36 (f + 1) (l : Int) (v : Int) (h : Int) ((ks_nw Z : Nat) : Int) τ = _
    rw [jf_X12_laysInches_L73, W.nw, jp_bd, if_pos (Int.le_refl _), jp_add (by omega) (by omega), ku_s]
theorem kr_Th.f3 {Z : jz_Z} {Ds : Nat → List Int} {a b : Nat → Int} {s τ : jl_Mm} {F : jp_F} (h : kr_Th Z Ds a b s) (f : jp_fr F s τ) (w : ∀ c i, 241 ≤ c → c < 253 → jp_in F c i = false) (w2 : jp_in F 206 63 = false) : kr_Th Z Ds a b τ := by
  obtain ⟨hW, hK, hB, h252, h63⟩ := h
  exact ⟨hW.fr f (fun c i _ _ => w _ _ (by omega) (by omega)), hK.fr f (fun c i _ _ => w _ _ (by omega) (by omega)), hB.fr f (fun i => w _ _ (by omega) (by omega)), fun i hi => (f.g _ _ (w _ _ (by omega) (by omega))).trans (h252 i hi), (f.g _ _ w2).trans h63⟩
def kr_FL : jp_F := [(254, 0, 0), (255, 0, 0), (206, 68, 69), (252, 0, 0), (206, 63, 64), (249, 0, 0), (251, 0, 0), (206, 61, 62), (206, 57, 58), (250, 0, 0), (206, 58, 59), (284, 0, 0), (206, 106, 107), (206, 55, 56)]
theorem kr_FLn {c i : Nat} (h1 : c ≠ 284) (h2 : c = 206 → i ≠ 106 ∧ i ≠ 55 ∧ i ≠ 58 ∧ i ≠ 57 ∧ i ≠ 61 ∧ i ≠ 63 ∧ i ≠ 68) (h3 : c < 249 ∨ c = 253 ∨ 255 < c) : jp_in kr_FL c i = false := by simp [jp_in, kr_FL]; omega
theorem kt_R.fr {d : kD} {m : Nat} {s τ : jl_Mm} {F : jp_F} (h : kt_R d m s) (f : jp_fr F s τ) (w : ∀ i, jp_in F 253 i = false) (w2 : jp_in F 206 65 = false) : kt_R d m τ := ⟨(f.g _ _ w2).trans h.1, fun i hi => (f.g _ _ (w i)).trans (h.2 i hi)⟩
def kt_I (Z : jz_Z) (Ds : Nat → List Int) (a b : Nat → Int) (d : kD) (m v h : Nat) (s τ : jl_Mm) : Prop :=
  jp_fr kr_FL s τ ∧ kr_Th Z Ds a (ks_hrs Z Ds b h) τ ∧ kt_R d m τ ∧ jl_g τ 254 v = (if ku_all (kt_hr Z Ds b d m) h = true then 1 else 0) ∧
  (∀ h' w, h' < h → w < ks_nw Z → jl_g τ 255 (930 * v + 30 * h' + w) = ks_in Z (ks_hrs Z Ds b h') (w : Int)) ∧ (∀ x, x ≠ v → jl_g τ 254 x = jl_g s 254 x) ∧
  (∀ x, (x < 930 * v ∨ 930 * v + 930 ≤ x) → jl_g τ 255 x = jl_g s 255 x) ∧ jl_g τ 206 68 = jl_g s 206 68
theorem kr_lays36 {Z : jz_Z} {Ds : Nat → List Int} {a b : Nat → Int} {d : kD} {l m v h f : Nat} {R11 : Int → Int → jl_Mm → jl_O} {s τ : jl_Mm} (hZ : kz_V Z) (hT : kz_K Z Ds) (hV : ks_V Z b) (hk : 0 ≤ b 24 ∧ b 24 ≤ 40) (h0 : b 0 ≤ 999) (hm : m ≤ 16) (hv : v < 100) (hh : h ≤ 30) (hI : kt_I Z Ds a b d m v h s τ) :
    ∃ υ, jf_X12_laysInches_L36 R11 (f + 1) (l : Int) (v : Int) (h : Int) τ = jf_X12_laysInches_L36 R11 f (l : Int) (v : Int) ((h + 1 : Nat) : Int) υ ∧ kt_I Z Ds a b d m v (h + 1) s υ := by
  obtain ⟨i1, i2, i3, i4, i5, i6, i7, i8⟩ := hI
  have hh' := ks_hrs_V (Ds := Ds) hZ hV h (by omega)
  have h30 := hZ.w
  have rv : 0 ≤ (v : Int) ∧ (v : Int) < ((100 : Nat) : Int) := by omega
  -- the answer of this hour is written
  have w : ∃ q : Int, (q = 0 ∨ q = 1) ∧ q = (if ku_all (kt_hr Z Ds b d m) (h + 1) = true then 1 else 0) ∧ jf_X12_laysInches_L36 R11 (f + 1) (l : Int) (v : Int) (h : Int) τ = jf_X12_laysInches_L73 R11 (jf_X12_laysInches_L36 R11 f) jl_fu (l : Int) (v : Int) (h : Int) 0 (jl_up τ 254 v q) := by
    have b69 : ∀ q : Int, (q = 0 ∨ q = 1) → jf_X12_laysInches_B69 R11 (jf_X12_laysInches_L36 R11 f) (l : Int) (v : Int) (h : Int) (v : Int) q τ = jf_X12_laysInches_L73 R11 (jf_X12_laysInches_L36 R11 f) jl_fu (l : Int) (v : Int) (h : Int) 0 (jl_up τ 254 v q) := fun q hq => by
      rw [jf_X12_laysInches_B69, if_pos rv, if_pos hq, jp_lm, Int.toNat_natCast]
    have r30 : ¬ (30 : Int) < (h : Int) := by omega
    by_cases c : ku_all (kt_hr Z Ds b d m) h = true
    · have e : ku_all (kt_hr Z Ds b d m) (h + 1) = ku_all (kt_row Z (ks_hrs Z Ds b h) d h) m := by rw [ku_all, c]; rfl
      by_cases c2 : ku_all (kt_row Z (ks_hrs Z Ds b h) d h) m = true
      · refine ⟨1, Or.inr rfl, by rw [e, if_pos c2], ?_⟩
        rw [jf_X12_laysInches_L36, if_neg r30, if_pos rv, Int.toNat_natCast, i4, if_pos c, if_neg (by decide), kr_asSeen i2.1 i2.2.2.1 i3 hm (by omega), jp_bd, if_pos c2, if_neg (by decide), b69 1 (Or.inr rfl)]
      · refine ⟨0, Or.inl rfl, by rw [e, if_neg c2], ?_⟩
        rw [jf_X12_laysInches_L36, if_neg r30, if_pos rv, Int.toNat_natCast, i4, if_pos c, if_neg (by decide), kr_asSeen i2.1 i2.2.2.1 i3 hm (by omega), jp_bd, if_neg c2, if_pos rfl, jf_X12_laysInches_B68, b69 0 (Or.inl rfl)]
    · have e : ¬ ku_all (kt_hr Z Ds b d m) (h + 1) = true := fun q => c (by rw [ku_all, Bool.and_eq_true] at q; exact q.1)
      refine ⟨0, Or.inl rfl, by rw [if_neg e], ?_⟩
      rw [jf_X12_laysInches_L36, if_neg r30, if_pos rv, Int.toNat_natCast, i4, if_neg c, if_pos rfl, jf_X12_laysInches_B68, b69 0 (Or.inl rfl)]
  obtain ⟨q, hq, eq, w⟩ := w
  have f1 : jp_fr [(254, 0, 0)] τ (jl_up τ 254 v q) := jp_fr.rf.up (by simp [jp_in])
  have g1 : jl_g (jl_up τ 254 v q) 254 v = q := jp_g_eq (by omega) (by omega)
  have o1 : ∀ x, x ≠ v → jl_g (jl_up τ 254 v q) 254 x = jl_g τ 254 x := fun x hx => jp_g_nei hx
  rw [w]
  generalize jl_up τ 254 v q = s1 at *
  have T1 := i2.f3 f1 (fun c i _ _ => by simp [jp_in]; omega) (by decide)
  obtain ⟨s2, t2, f2, w2, x2⟩ := kr_ways (l := l) (v := v) (h := h) (R11 := R11) (R36 := jf_X12_laysInches_L36 R11 f) T1.1 T1.2.2.1 hv hh
  have T2 := T1.f3 f2 (fun c i _ _ => by simp [jp_in]; omega) (by decide)
  obtain ⟨s3, t3, f3, T3⟩ := kr_hourT T2 hT hh'.1 (by rw [hh'.2.2.1 24 (by decide)]; exact hk)
  have n3 : ∀ {c i : Nat}, 253 ≤ c → c < 284 → jp_in kr_FG c i = false := by intro c i h1 h2; exact kr_FGn (by omega) (by omega) (by omega) (by omega)
  rw [t2, t3, jp_bd]
  have F : jp_fr kr_FL s s3 := (i1.tr (f1.w (by decide))).tr ((f2.w (by decide)).tr (f3.w (by decide)))
  refine ⟨s3, rfl, F, T3, ((i3.fr f1 (fun i => by simp [jp_in]) (by decide)).fr f2 (fun i => by simp [jp_in]) (by decide)).fr f3 (fun i => n3 (by decide) (by decide)) (by decide), ?_, fun h' w' hh2 hw2 => ?_, fun x hx => ?_, fun x hx => ?_, ?_⟩
  · rw [f3.g _ _ (n3 (by decide) (by decide)), f2.g _ _ (by simp [jp_in]), g1]; exact eq
  · rw [f3.g _ _ (n3 (by decide) (by decide))]
    by_cases c : h' = h
    · subst c; exact w2 w' hw2
    · rw [x2 _ (by omega), f1.g _ _ (by simp [jp_in])]; exact i5 h' w' (by omega) hw2
  · rw [f3.g _ _ (n3 (by decide) (by decide)), f2.g _ _ (by simp [jp_in]), o1 x hx]; exact i6 x hx
  · rw [f3.g _ _ (n3 (by decide) (by decide)), x2 _ (by omega), f1.g _ _ (by simp [jp_in])]; exact i7 x hx
  · rw [f3.g _ _ (by decide), f2.g _ _ (by decide), f1.g _ _ (by decide)]; exact i8
