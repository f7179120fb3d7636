/-! PURE, the class: the lengths that fit -/
theorem ks_V.u8 {Z : jz_Z} {a : Nat → Int} {l : Nat} {v : Int} (hZ : kz_V Z) (h : ks_V Z a) (hl : l < ks_nl Z) (hv : 1 ≤ v ∧ v ≤ 99) : ks_V Z (ks_u a (8 + l) v) := by
  have h6 := hZ.p
  have h8 := hZ.l
  obtain ⟨v0, v1, v2, v3⟩ := h
  refine ⟨by rw [ks_un (by omega)]; exact v0, by rw [ks_un (by omega)]; exact v1, fun q hq => by rw [ks_un (by omega)]; exact v2 q hq, fun k hk => ?_⟩
  have w := v3 k hk
  by_cases c : k = l
  · subst c; rw [ks_ue, ks_un (by omega)]; omega
  · rw [ks_un (by omega), ks_un (by omega)]; exact w
def kt_fit (Z : jz_Z) (Ds : Nat → List Int) (a : Nat → Int) (d : kD) (m l v : Nat) : Bool := ku_all (kt_hr Z Ds (ks_u a (8 + l) ((v : Nat) : Int)) d m) 31
def kt_cnt (Z : jz_Z) (Ds : Nat → List Int) (a : Nat → Int) (d : kD) (m l n : Nat) : Int := ku_n (fun j => kt_fit Z Ds a d m l (j + 1)) n
theorem kt_row_o {Z : jz_Z} {b : Nat → Int} {d : kD} {n m : Nat} (h : ∀ k, k < m → d 4 (3 * k) < (n : Int)) : ku_all (kt_row Z b d n) m = true := by
  refine (ku_all_T m).mpr (fun k hk => ?_)
  have := h k hk
  rw [kt_row, decide_eq_false (show ¬ d 4 (3 * k) = ((n : Nat) : Int) by omega)]; rfl
theorem kt_fit_last {Z : jz_Z} {Ds : Nat → List Int} {b : Nat → Int} {d : kD} {m w : Nat} (hr : ∀ k, k < m → 0 ≤ d 4 (3 * k) ∧ d 4 (3 * k) ≤ 30) (hw : kt_last d m = (w : Int)) : ku_all (kt_hr Z Ds b d m) (w + 1) = ku_all (kt_hr Z Ds b d m) 31 := by
  obtain ⟨x, y, z⟩ := kt_last_b m hr
  have e : ku_all (kt_hr Z Ds b d m) (w + 1) = true ↔ ku_all (kt_hr Z Ds b d m) 31 = true := by
    rw [ku_all_T, ku_all_T]
    refine ⟨fun h k hk => ?_, fun h k hk => h k (by omega)⟩
    by_cases c : k < w + 1
    · exact h k c
    · exact kt_row_o (fun j hj => by have := z j hj; omega)
  exact Bool.eq_iff_iff.mpr e
theorem kt_last_at {d : kD} : ∀ m, 0 < kt_last d m → ∃ k, k < m ∧ d 4 (3 * k) = kt_last d m
  | 0, h => by rw [kt_last] at h; omega
  | m + 1, h => by
    rw [kt_last] at h ⊢
    split at h
    · rename_i c
      rw [if_pos c]
      exact ⟨m, by omega, rfl⟩
    · rename_i c
      rw [if_neg c]
      obtain ⟨k, hk, e⟩ := kt_last_at m h
      exact ⟨k, by omega, e⟩
theorem kt_fit_no {Z : jz_Z} {Ds : Nat → List Int} {b : Nat → Int} {d : kD} {m : Nat} (hZ : kz_V Z) (hV : ks_V Z b) (h0 : b 0 ≤ 999) (hr : ∀ k, k < m → 0 ≤ d 4 (3 * k) ∧ d 4 (3 * k) ≤ 30) (h : 999 < b 0 + kt_last d m) : ¬ ku_all (kt_hr Z Ds b d m) 31 = true := by
  obtain ⟨x, y, z⟩ := kt_last_b m hr
  obtain ⟨k, hk, e⟩ := kt_last_at (d := d) m (by omega)
  obtain ⟨w, ew⟩ : ∃ w : Nat, kt_last d m = (w : Int) := ⟨(kt_last d m).toNat, by omega⟩
  refine ku_all_F (k := w) (by omega) (ku_all_F hk ?_)
  have h9 := (ks_hrs_V (Ds := Ds) hZ hV w (by omega)).2.1
  rw [kt_row, decide_eq_true (show d 4 (3 * k) = ((w : Nat) : Int) by omega), decide_eq_false (show ¬ ks_hrs Z Ds b w 0 ≤ 999 by omega)]
  intro q; exact Bool.noConfusion q
def kc_FT : jp_F := [(196, 0, 0), (197, 0, 0), (198, 0, 0), (199, 0, 0), (191, 0, 0), (192, 0, 0), (193, 0, 0), (200, 6, 7), (202, 0, 0)]
theorem kc_FTn {c i : Nat} (h : c < 191 ∨ 199 < c) (h2 : c = 200 → i ≠ 6) (h3 : c ≠ 202) : jp_in kc_FT c i = false := by simp [jp_in, kc_FT]; omega
theorem kc_N.frT {H : Nat} {Z : jz_Z} {Ds : Nat → List Int} {a : Nat → Int} {s τ : jl_Mm} (h : kc_N H Z Ds a s) (f : jp_fr kc_FT s τ) : kc_N H Z Ds a τ := ⟨h.1.fr f (by decide) (by decide) (fun c i _ _ => kc_FTn (by omega) (by omega) (by omega)), h.2.1.fr h.1.2.1 f (fun c i _ _ => kc_FTn (by omega) (by omega) (by omega)), h.2.2.fr f (kc_FTn (by omega) (by omega) (by omega)) (kc_FTn (by omega) (by omega) (by omega)) (fun c i _ _ => kc_FTn (by omega) (by omega) (by omega))⟩
theorem kt_S.frT {d : kD} {m : Nat} {s τ : jl_Mm} (h : kt_S d m s) (f : jp_fr kc_FT s τ) : kt_S d m τ := ⟨(f.g _ _ (kc_FTn (by omega) (by omega) (by omega))).trans h.1, fun i hi => (f.g _ _ (kc_FTn (by omega) (by omega) (by omega))).trans (h.2 i hi)⟩
/-- how many of the first n fit, and which -/
def kt_G (Z : jz_Z) (Ds : Nat → List Int) (a : Nat → Int) (d : kD) (m l n : Nat) (s : jl_Mm) : Prop :=
  jl_g s 200 6 = kt_cnt Z Ds a d m l n ∧ ∀ j, j < n → kt_fit Z Ds a d m l (j + 1) = true → jl_g s 202 (kt_cnt Z Ds a d m l j).toNat = ((j + 1 : Nat) : Int)
theorem kt_G.fr {Z : jz_Z} {Ds : Nat → List Int} {a : Nat → Int} {d : kD} {m l n : Nat} {s τ : jl_Mm} (h : kt_G Z Ds a d m l n s) (f : jp_fr kc_FA s τ) : kt_G Z Ds a d m l n τ :=
  ⟨(f.g _ _ (kc_FAn (by omega))).trans h.1, fun j hj hf => (f.g _ _ (kc_FAn (by omega))).trans (h.2 j hj hf)⟩
theorem kt_cnt_S {Z : jz_Z} {Ds : Nat → List Int} {a : Nat → Int} {d : kD} {m l n : Nat} : kt_cnt Z Ds a d m l (n + 1) = if kt_fit Z Ds a d m l (n + 1) = true then kt_cnt Z Ds a d m l n + 1 else kt_cnt Z Ds a d m l n := by
  rw [kt_cnt, ku_n]; rfl
theorem kt_cnt_lt {Z : jz_Z} {Ds : Nat → List Int} {a : Nat → Int} {d : kD} {m l j : Nat} (hf : kt_fit Z Ds a d m l (j + 1) = true) : ∀ n, j < n → kt_cnt Z Ds a d m l j < kt_cnt Z Ds a d m l n
  | 0, h => by omega
  | n + 1, h => by
    rw [kt_cnt_S]
    by_cases c : j = n
    · subst c; rw [if_pos hf]; omega
    · have := kt_cnt_lt hf n (by omega)
      split <;> omega
theorem kc_gather1 {H l m w v f : Nat} {Z : jz_Z} {Ds : Nat → List Int} {a : Nat → Int} {d : kD} {s : jl_Mm} (hN : kc_N H Z Ds a s) (hV : kz_N Z Ds a) (hS : kt_S d m s) (hm : m ≤ 16) (hr : ∀ k, k < m → 0 ≤ d 4 (3 * k) ∧ d 4 (3 * k) ≤ 30) (hl : l < ks_nl Z) (hw : kt_last d m = (w : Int)) (h9 : a 0 + (w : Int) ≤ 999) (hv : v < 99) (hG : kt_G Z Ds a d m l v s) :
    ∃ τ, jf_X6_gather_L26 (f + 1) (l : Int) (w : Int) ((v + 1 : Nat) : Int) s = jf_X6_gather_L26 f (l : Int) (w : Int) ((v + 2 : Nat) : Int) τ ∧ jp_fr kc_FT s τ ∧ kt_G Z Ds a d m l (v + 1) τ := by
  have h8 := hN.1.1.l
  have hb := kt_last_b m hr
  obtain ⟨s1, t1, f1, A1⟩ := kc_restart hN.2.2
  have A2 := A1.upc (l := l) (v := ((v + 1 : Nat) : Int)) (by omega) ⟨by omega, by omega⟩
  have f2 : jp_fr kc_FA s (jl_up s1 198 l ((v + 1 : Nat) : Int)) := f1.up (by simp [jp_in, kc_FA])
  have V2 := hV.1.u8 (l := l) (v := ((v + 1 : Nat) : Int)) hN.1.1 hl (by omega)
  rw [jf_X6_gather_L26, if_neg (by omega), t1, jp_bd, if_pos kc_k196, if_pos (by omega), jp_lm, Int.toNat_natCast]
  show ∃ τ, (jl_bd (jf_X6_isAllSo (w : Int) (jl_up s1 198 l ((v + 1 : Nat) : Int))) _) = _ ∧ _
  generalize jl_up s1 198 l ((v + 1 : Nat) : Int) = s2 at *
  have S2 : kt_S d m s2 := hS.frT (f2.w (by decide))
  have e0 : ks_u a (8 + l) ((v + 1 : Nat) : Int) 0 = a 0 := ks_un (by omega)
  obtain ⟨τ, t3, f3, -⟩ := kc_so (w := w) (m := m) (d := d) (hN.1.frA f2) (hN.2.1.frA hN.1.2.1 f2) hV.2.1 V2 A2 S2 hm (by omega) (by rw [e0]; exact h9)
  have ef : ku_all (kt_hr Z Ds (ks_u a (8 + l) ((v + 1 : Nat) : Int)) d m) (w + 1) = kt_fit Z Ds a d m l (v + 1) := kt_fit_last hr hw
  rw [t3, jp_bd, ef]
  have F3 : jp_fr kc_FA s τ := f2.tr f3
  have G3 := hG.fr F3
  have ea : jl_add ((v + 1 : Nat) : Int) 1 = ((v + 2 : Nat) : Int) := by rw [jp_add (by omega) (by omega)]; omega
  have cb := ku_n_ge (fun j => kt_fit Z Ds a d m l (j + 1)) v
  have cb' : 0 ≤ kt_cnt Z Ds a d m l v ∧ kt_cnt Z Ds a d m l v ≤ (v : Int) := cb
  by_cases c : kt_fit Z Ds a d m l (v + 1) = true
  · have ec : kt_cnt Z Ds a d m l (v + 1) = kt_cnt Z Ds a d m l v + 1 := by rw [kt_cnt_S, if_pos c]
    rw [if_pos c, if_neg (by decide), G3.1, jp_add (a := kt_cnt Z Ds a d m l v) (by omega) (by omega), jp_lm, if_pos (by omega), jp_lm, jf_X6_gather_B70, ea]
    refine ⟨_, rfl, ((F3.w (by decide)).up (by decide)).up (by simp [jp_in, kc_FT]), ?_, fun j hj hf => ?_⟩
    · rw [jp_g_ne (by decide), jp_g_eq (by omega) (by omega), ec]
    · by_cases e : j = v
      · subst e; exact jp_g_eq (by omega) (by omega)
      · have lt := kt_cnt_lt hf v (by omega)
        have g0 := (ku_n_ge (fun j => kt_fit Z Ds a d m l (j + 1)) j).1
        have g0' : 0 ≤ kt_cnt Z Ds a d m l j := g0
        rw [jp_g_nei (by omega), jp_g_ne (by decide)]; exact G3.2 j (by omega) hf
  · have ec : kt_cnt Z Ds a d m l (v + 1) = kt_cnt Z Ds a d m l v := by rw [kt_cnt_S, if_neg c]
    rw [if_neg c, if_pos rfl, jf_X6_gather_B70, ea]
    refine ⟨τ, rfl, F3.w (by decide), by rw [ec]; exact G3.1, fun j hj hf => ?_⟩
    by_cases e : j = v
    · subst e; exact absurd hf c
    · exact G3.2 j (by omega) hf
theorem kc_gather {H l m : Nat} {Z : jz_Z} {Ds : Nat → List Int} {a : Nat → Int} {d : kD} {s : jl_Mm} (hN : kc_N H Z Ds a s) (hV : kz_N Z Ds a) (hS : kt_S d m s) (hm : m ≤ 16) (hr : ∀ k, k < m → 0 ≤ d 4 (3 * k) ∧ d 4 (3 * k) ≤ 30) (hl : l < ks_nl Z) : jE (jf_X6_gather (l : Int) s) 0 kc_FT s (kt_G Z Ds a d m l 99) := by
  have h8 := hN.1.1.l
  have h0 := hV.1.1
  obtain ⟨x, y, z⟩ := kt_last_b m hr
  have f1 : jp_fr kc_FT s (jl_up s 200 6 0) := jp_fr.rf.up (by decide)
  have g1 : jl_g (jl_up s 200 6 0) 200 6 = 0 := jp_g_eq (by decide) (by decide)
  rw [jf_X6_gather, kc_lastSeen hS hm, jp_bd, jp_lm]
  generalize jl_up s 200 6 0 = s1 at *
  have N1 := hN.frT f1
  have S1 := hS.frT f1
  rw [kc_reach N1.2.2 h0, jp_bd]
  by_cases c : a 0 + kt_last d m ≤ 999
  · obtain ⟨w, hw⟩ : ∃ w : Nat, kt_last d m = (w : Int) := ⟨(kt_last d m).toNat, by omega⟩
    rw [if_pos (show kt_last d m ≤ (if 999 - a 0 < 30 then 999 - a 0 else 30) by split <;> omega), hw]
    refine ku_for (α := jl_Mm) (G := fun f v τ => jf_X6_gather_L26 f (l : Int) (w : Int) ((v + 1 : Nat) : Int) τ) (N := 99) (P := fun o => jE o 0 kc_FT s (kt_G Z Ds a d m l 99)) (I := fun v τ => jp_fr kc_FT s τ ∧ kt_G Z Ds a d m l v τ) (fun f v τ hv hI => Or.inr ?_) (fun f τ hI => ?_) 99 0 jl_fu s1 (by decide) (by decide) ⟨f1, g1, fun j hj => by omega⟩
    · obtain ⟨υ, u1, u2, u3⟩ := kc_gather1 (f := f) (hN.frT hI.1) hV (hS.frT hI.1) hm hr hl hw (by omega) hv hI.2
      exact ⟨υ, u1, hI.1.tr u2, u3⟩
    · show jE (jf_X6_gather_L26 (f + 1) (l : Int) (w : Int) ((100 : Nat) : Int) τ) _ _ _ _
      rw [jf_X6_gather_L26, if_pos (by decide)]
      exact ⟨τ, rfl, hI.1, hI.2⟩
  · rw [if_neg (show ¬ kt_last d m ≤ (if 999 - a 0 < 30 then 999 - a 0 else 30) by split <;> omega)]
    have nf : ∀ v : Nat, 1 ≤ v → v ≤ 99 → ¬ kt_fit Z Ds a d m l v = true := fun v h1 h2 => by
      have e0 : ks_u a (8 + l) ((v : Nat) : Int) 0 = a 0 := ks_un (by omega)
      exact kt_fit_no hN.1.1 (hV.1.u8 hN.1.1 hl (by omega)) (by rw [e0]; exact hV.2.2.1) hr (by rw [e0]; omega)
    have n0 : ∀ n, n ≤ 99 → kt_cnt Z Ds a d m l n = 0 := by
      intro n
      induction n with
      | zero => intro _; rfl
      | succ n ih => intro h; rw [kt_cnt_S, if_neg (nf (n + 1) (by omega) (by omega)), ih (by omega)]
    refine ⟨s1, rfl, f1, by rw [g1, n0 99 (Nat.le_refl _)], fun j hj hf => absurd hf (nf (j + 1) (by omega) (by omega))⟩
