/-! PURE, both: hours ahead -/
def ks_hrs (Z : jz_Z) (Ds : Nat → List Int) (a : Nat → Int) : Nat → Nat → Int
  | 0 => a
  | n + 1 => ks_hour Z Ds (ks_hrs Z Ds a n)
theorem ks_hrs_V {Z : jz_Z} {Ds : Nat → List Int} {a : Nat → Int} (hZ : kz_V Z) (hV : ks_V Z a) : ∀ n : Nat, a 0 + (n : Int) ≤ 2000 → ks_V Z (ks_hrs Z Ds a n) ∧ ks_hrs Z Ds a n 0 = a 0 + (n : Int) ∧ (∀ j, 24 ≤ j → ks_hrs Z Ds a n j = a j) ∧ ∀ p, p < 6 → ks_hrs Z Ds a n (2 + p) = a (2 + p)
  | 0, _ => ⟨hV, by show a 0 = a 0 + 0; omega, fun _ _ => rfl, fun _ _ => rfl⟩
  | n + 1, h => by
    obtain ⟨i1, i2, i3, i4⟩ := ks_hrs_V (Ds := Ds) hZ hV n (by omega)
    refine ⟨ks_hour_V hZ i1 (by omega), ?_, fun j hj => ?_, fun p hp => ?_⟩
    · show ks_hour Z Ds (ks_hrs Z Ds a n) 0 = _
      rw [ks_hour, ks_ue, i2]; omega
    · show ks_hour Z Ds (ks_hrs Z Ds a n) j = _
      rw [ks_hour_hi hZ i1 hj, i3 j hj]
    · show ks_hour Z Ds (ks_hrs Z Ds a n) (2 + p) = _
      rw [ks_hour_home hZ p hp, i4 p hp]
/-- the class -/
def kc_FA : jp_F := [(196, 0, 0), (197, 0, 0), (198, 0, 0), (199, 0, 0), (191, 0, 0), (192, 0, 0), (193, 0, 0)]
theorem kc_FAn {c i : Nat} (h : c < 191 ∨ 199 < c) : jp_in kc_FA c i = false := by simp [jp_in, kc_FA]; omega
theorem kc_W.frA {H : Nat} {Z : jz_Z} {s τ : jl_Mm} (h : kc_W H Z s) (f : jp_fr kc_FA s τ) : kc_W H Z τ := h.fr f (by decide) (by decide) (fun c i _ _ => kc_FAn (by omega))
theorem kc_K.frA {H : Nat} {Z : jz_Z} {Ds : Nat → List Int} {s τ : jl_Mm} (h : kc_K H Z Ds s) (hH : jz_Hq H) (f : jp_fr kc_FA s τ) : kc_K H Z Ds τ := h.fr hH f (fun c i _ _ => kc_FAn (by omega))
theorem kc_A.frA {P9 : Nat} {a : Nat → Int} {s τ : jl_Mm} (h : kc_A P9 40 a s) (f : jp_fr kc_FA s τ) : kc_A P9 40 a τ := h.fr f (kc_FAn (by omega)) (kc_FAn (by omega)) (fun c i _ _ => kc_FAn (by omega))
theorem kc_FP196 {s τ : jl_Mm} (f : jp_fr (kc_FP 196) s τ) : jp_fr kc_FA s τ := f.ws (by intro c i h; simp [jp_in, kc_FP, kc_FA] at h ⊢; omega)
theorem kc_FQ196 {s τ : jl_Mm} (f : jp_fr (kc_FQ 196) s τ) : jp_fr kc_FA s τ := f.ws (by intro c i h; simp [jp_in, kc_FQ, kc_FA] at h ⊢; omega)
theorem kc_copy {P9 : Nat} {q d : Nat} {a : Nat → Int} {s : jl_Mm} (hq : (jl_kd q).1 = 7) (hd : (jl_kd d).1 = 7) (hA : kc_A P9 q a s) (hqd : q + 3 < d ∨ d + 3 < q) : ∃ τ, jf_X7_copyFrom d q s = some (0, τ) ∧ jp_fr [(d, 0, 2), (d + 1, 0, 0), (d + 2, 0, 0), (d + 3, 0, 0)] s τ ∧ kc_A P9 d a τ := by
  have n0 := hA.1 ▸ jp_gn s q 0
  have n1 := hA.2.1 ▸ jp_gn s q 1
  have e1 : jl_g (jl_up s d 0 (a 0)) q 1 = a 1 := by rw [jp_g_ne (by omega)]; exact hA.2.1
  have f1 : jp_fr [(d, 0, 2)] s (jl_up (jl_up s d 0 (a 0)) d 1 (a 1)) := (jp_fr.rf.up (by simp [jp_in])).up (by simp [jp_in])
  have v0 : jl_g (jl_up (jl_up s d 0 (a 0)) d 1 (a 1)) d 0 = a 0 := by rw [jp_g_nei (by decide), jp_g_eq n0.1 n0.2]
  have v1 : jl_g (jl_up (jl_up s d 0 (a 0)) d 1 (a 1)) d 1 = a 1 := jp_g_eq n1.1 n1.2
  rw [jf_X7_copyFrom, if_pos hd, if_pos hq, hA.1, jp_lm, e1, jp_lm, if_pos (by decide), jp_lm, if_pos (by decide), jp_lm, if_pos (by decide), jp_lm, show (0 : Int).toNat = 0 from rfl, show (6 : Int).toNat = 6 from rfl, show (8 : Int).toNat = 8 from rfl]
  generalize jl_up (jl_up s d 0 (a 0)) d 1 (a 1) = s2 at *
  have n2 : ∀ c i, c ≠ d → jp_in [(d, 0, 2)] c i = false := by intro c i hc; simp [jp_in]; omega
  have f4 : jp_fr [(d + 1, 0, 0)] s2 (jl_cp s2 (q + 1) 0 (d + 1) 0 6) := jp_cp_fr
  have w4 : ∀ i, i < 6 → jl_g (jl_cp s2 (q + 1) 0 (d + 1) 0 6) (d + 1) i = jl_g s2 (q + 1) i := fun i hi => jp_cp_d hi
  generalize jl_cp s2 (q + 1) 0 (d + 1) 0 6 = s4 at *
  have n4 : ∀ c i, c ≠ d + 1 → jp_in [(d + 1, 0, 0)] c i = false := by intro c i hc; simp [jp_in]; omega
  have f6 : jp_fr [(d + 2, 0, 0)] s4 (jl_cp s4 (q + 2) 0 (d + 2) 0 8) := jp_cp_fr
  have w6 : ∀ i, i < 8 → jl_g (jl_cp s4 (q + 2) 0 (d + 2) 0 8) (d + 2) i = jl_g s4 (q + 2) i := fun i hi => jp_cp_d hi
  generalize jl_cp s4 (q + 2) 0 (d + 2) 0 8 = s6 at *
  have n6 : ∀ c i, c ≠ d + 2 → jp_in [(d + 2, 0, 0)] c i = false := by intro c i hc; simp [jp_in]; omega
  have f8 : jp_fr [(d + 3, 0, 0)] s6 (jl_cp s6 (q + 3) 0 (d + 3) 0 8) := jp_cp_fr
  have w8 : ∀ i, i < 8 → jl_g (jl_cp s6 (q + 3) 0 (d + 3) 0 8) (d + 3) i = jl_g s6 (q + 3) i := fun i hi => jp_cp_d hi
  generalize jl_cp s6 (q + 3) 0 (d + 3) 0 8 = s8 at *
  have n8 : ∀ c i, c ≠ d + 3 → jp_in [(d + 3, 0, 0)] c i = false := by intro c i hc; simp [jp_in]; omega
  refine ⟨s8, rfl, ?_, ?_, ?_, fun i hi => ?_, fun i hi => ?_, fun i hi => ?_⟩
  · refine (f1.ws ?_).tr ((f4.ws ?_).tr ((f6.ws ?_).tr (f8.ws ?_))) <;> (intro c i h; simp [jp_in] at h ⊢; omega)
  · rw [f8.g _ _ (n8 _ _ (by omega)), f6.g _ _ (n6 _ _ (by omega)), f4.g _ _ (n4 _ _ (by omega))]; exact v0
  · rw [f8.g _ _ (n8 _ _ (by omega)), f6.g _ _ (n6 _ _ (by omega)), f4.g _ _ (n4 _ _ (by omega))]; exact v1
  · rw [f8.g _ _ (n8 _ _ (by omega)), f6.g _ _ (n6 _ _ (by omega)), w4 i hi.1, f1.g _ _ (n2 _ _ (by omega))]; exact hA.2.2.1 i hi
  · rw [f8.g _ _ (n8 _ _ (by omega)), w6 i hi, f4.g _ _ (n4 _ _ (by omega)), f1.g _ _ (n2 _ _ (by omega))]; exact hA.2.2.2.1 i hi
  · rw [w8 i hi, f6.g _ _ (n6 _ _ (by omega)), f4.g _ _ (n4 _ _ (by omega)), f1.g _ _ (n2 _ _ (by omega))]; exact hA.2.2.2.2 i hi
theorem kc_restart {P9 : Nat} {a : Nat → Int} {s : jl_Mm} (hA : kc_A P9 40 a s) : ∃ τ, jf_X1_restart s = some (196, τ) ∧ jp_fr kc_FA s τ ∧ kc_A P9 196 a τ := by
  obtain ⟨τ, t1, t2, t3⟩ := kc_copy (q := 40) (d := 196) (by decide +kernel) (by decide +kernel) hA (by omega)
  rw [jf_X1_restart, t1, jp_bd]
  exact ⟨τ, rfl, t2.ws (by intro c i h; simp [jp_in, kc_FA] at h ⊢; omega), t3⟩
theorem kc_k196 : (jl_kd (196 : Int).toNat).1 = 7 := by decide +kernel
theorem kc_reach {P9 : Nat} {a : Nat → Int} {s : jl_Mm} (hA : kc_A P9 40 a s) (h0 : 0 ≤ a 0 ∧ a 0 ≤ 2000) (v : Int) : jf_X1_reach v s = some (if 999 - a 0 < v then 999 - a 0 else v, s) := by
  rw [jf_X1_reach, hA.1, jp_sub (by omega) (by omega), ku_min, jp_bd]
theorem kc_comes {P9 : Nat} {a : Nat → Int} {s : jl_Mm} (hA : kc_A P9 40 a s) (h0 : 0 ≤ a 0 ∧ a 0 ≤ 2000) (v lo hi : Int) : jf_X1_comes v lo hi s = some (if lo ≤ v ∧ v ≤ hi ∧ a 0 + v ≤ 999 then 1 else 0, s) := by
  rw [jf_X1_comes, kc_reach hA h0]
  simp only [jf_X1_comes_B18, jf_X1_comes_B19, jp_bd, jp_zb0, jp_zb1]
  by_cases c : v < lo
  · rw [if_pos c, if_neg (by omega)]
  · rw [if_neg c]
    by_cases d : 999 - a 0 < hi
    · rw [if_pos d]
      by_cases e : 999 - a 0 < v
      · rw [if_pos e, if_neg (by omega)]
      · rw [if_neg e, if_pos (by omega)]
    · rw [if_neg d]
      by_cases e : hi < v
      · rw [if_pos e, if_neg (by omega)]
      · rw [if_neg e, if_pos (by omega)]
/-- one hour of what is tried -/
theorem kc_passA {H : Nat} {Z : jz_Z} {Ds : Nat → List Int} {b : Nat → Int} {s : jl_Mm} (hW : kc_W H Z s) (hK : kc_K H Z Ds s) (hT : kz_K Z Ds) (hV : ks_V Z b) (hB : kc_A (ks_np Z) 196 b s) (h : b 0 < 999) : ∃ τ, jf_X5_pass 196 s = some (ku_b (ks_gone Z Ds b) (ks_nl Z), τ) ∧ jp_fr kc_FA s τ ∧ kc_A (ks_np Z) 196 (ks_hour Z Ds b) τ := by
  obtain ⟨τ, t1, t2, t3⟩ := kc_pass (Or.inr rfl) hW hV hB hK hT
  rw [ks_hour_lo h] at t3
  exact ⟨τ, t1, kc_FP196 t2, t3⟩
theorem kc_bb {H : Nat} {Z : jz_Z} {Ds : Nat → List Int} {b : Nat → Int} {n : Nat} {s : jl_Mm} (hW : kc_W H Z s) (hK : kc_K H Z Ds s) (hT : kz_K Z Ds) (hV : ks_V Z b) (hB : kc_A (ks_np Z) 196 b s) (h : b 0 + (n : Int) ≤ 999) : jE (jf_X1_believedBehind (n : Int) s) (ks_belB Z Ds (ks_hrs Z Ds b n)) kc_FA s (fun _ => True) := by
  have hV0 := hV.1
  rw [jf_X1_believedBehind]
  refine ku_for (α := jl_Mm) (G := fun m k τ => jf_X1_believedBehind_L2 m (n : Int) ((k : Nat) : Int) τ) (N := n) (P := fun o => jE o (ks_belB Z Ds (ks_hrs Z Ds b n)) kc_FA s (fun _ => True)) (I := fun k τ => jp_fr kc_FA s τ ∧ kc_A (ks_np Z) 196 (ks_hrs Z Ds b k) τ) (fun m k τ hk hI => ?_) (fun m τ hI => ?_) n 0 jl_fu s (Nat.zero_add _) (by show n < 4000; omega) ⟨jp_fr.rf, hB⟩
  · obtain ⟨hf, A⟩ := hI
    obtain ⟨i1, i2, -⟩ := ks_hrs_V (Ds := Ds) hW.1 hV k (by omega)
    obtain ⟨υ, u1, u2, u3⟩ := kc_passA (hW.frA hf) (hK.frA hW.2.1 hf) hT i1 A (by omega)
    refine Or.inr ⟨υ, ?_, hf.tr u2, u3⟩
    show jf_X1_believedBehind_L2 (m + 1) (n : Int) ((k : Nat) : Int) τ = jf_X1_believedBehind_L2 m (n : Int) (((k + 1 : Nat)) : Int) υ
    rw [jf_X1_believedBehind_L2, if_neg (by omega), u1, jp_bd, jp_add (by omega) (by omega)]
    rfl
  · obtain ⟨hf, A⟩ := hI
    obtain ⟨i1, i2, -⟩ := ks_hrs_V (Ds := Ds) hW.1 hV n (by omega)
    obtain ⟨υ, u1, u2, -⟩ := kc_bel (Or.inr rfl) (hW.frA hf) i1 A (hK.frA hW.2.1 hf) hT
    show jE (jf_X1_believedBehind_L2 (m + 1) (n : Int) ((n : Nat) : Int) τ) _ _ _ _
    rw [jf_X1_believedBehind_L2, if_pos (Int.le_refl _), u1, jp_bd]
    exact ⟨υ, rfl, hf.tr (u2.w (by decide)), trivial⟩
/-- the reference -/
def kr_FA : jp_F := [(252, 0, 0), (206, 63, 64), (249, 0, 0), (251, 0, 0), (206, 61, 62), (206, 57, 58), (250, 0, 0), (206, 58, 59), (284, 0, 0), (206, 106, 107), (206, 55, 56)]
/-- a what is set aside, b what is tried -/
def kr_Th (Z : jz_Z) (Ds : Nat → List Int) (a b : Nat → Int) (s : jl_Mm) : Prop := kr_W Z s ∧ kr_K Z Ds s ∧ kr_A b s ∧ (∀ i, i < 24 → jl_g s 252 i = a i) ∧ jl_g s 206 63 = 1
theorem kr_aside {Z : jz_Z} {Ds : Nat → List Int} {a : Nat → Int} {s : jl_Mm} (hW : kr_W Z s) (hK : kr_K Z Ds s) (hA : kr_A a s) : jE (jf_X12_putsAside s) 0 kr_FA s (kr_Th Z Ds a a) := by
  have f1 : jp_fr [(206, 63, 64), (252, 0, 0)] s (jl_up s 206 63 1) := jp_fr.rf.up rfl
  have v1 : jl_g (jl_up s 206 63 1) 206 63 = 1 := jp_g_eq (by decide) (by decide)
  have nf : ∀ {c i : Nat}, c ≠ 206 → c ≠ 252 → jp_in [(206, 63, 64), (252, 0, 0)] c i = false := by intro c i h1 h2; simp [jp_in]; omega
  have A0 := hA.fr f1 (fun i => nf (by decide) (by decide))
  rw [jf_X12_putsAside, jp_lm]
  generalize jl_up s 206 63 1 = s1 at *
  refine ku_for (α := jl_Mm) (G := fun m k τ => jf_X12_putsAside_L7 m ((k : Nat) : Int) τ) (N := 24) (P := fun o => jE o 0 kr_FA s (kr_Th Z Ds a a)) (I := fun k τ => jp_fr [(252, 0, 0)] s1 τ ∧ ∀ i, i < k → jl_g τ 252 i = a i) (fun m k τ hk hI => ?_) (fun m τ hI => ?_) 24 0 jl_fu s1 rfl (by decide) ⟨jp_fr.rf, fun i hi => absurd hi (Nat.not_lt_zero _)⟩
  · obtain ⟨hf, hv⟩ := hI
    have A := A0.fr hf (fun i => by simp [jp_in])
    have n := A.n (by omega : k < 105)
    refine Or.inr ⟨jl_up τ 252 k (a k), ?_, hf.up rfl, fun i hi => ?_⟩
    · show jf_X12_putsAside_L7 (m + 1) ((k : Nat) : Int) τ = jf_X12_putsAside_L7 m (((k + 1 : Nat)) : Int) _
      rw [jf_X12_putsAside_L7, if_neg (by omega), if_pos (by omega), if_pos (by omega), Int.toNat_natCast, A k (by omega), jp_lm, jp_add (by omega) (by omega)]
      rfl
    · by_cases e : i = k
      · subst e; exact jp_g_eq n.1 n.2
      · rw [jp_g_nei e]; exact hv i (by omega)
  · obtain ⟨hf, hv⟩ := hI
    have fs : jp_fr [(206, 63, 64), (252, 0, 0)] s τ := f1.tr (hf.w (by decide))
    show jE (jf_X12_putsAside_L7 (m + 1) ((24 : Nat) : Int) τ) _ _ _ _
    rw [jf_X12_putsAside_L7, if_pos (by decide)]
    refine ⟨τ, rfl, fs.w (by decide), hW.fr fs (fun c i _ _ => nf (by omega) (by omega)), hK.fr fs (fun c i _ _ => nf (by omega) (by omega)), hA.fr fs (fun i => nf (by decide) (by decide)), hv, ?_⟩
    rw [hf.g _ _ (by decide)]; exact v1
theorem kr_anew {Z : jz_Z} {Ds : Nat → List Int} {a b : Nat → Int} {s : jl_Mm} (h : kr_Th Z Ds a b s) (hb : ∀ j, 24 ≤ j → b j = a j) : jE (jf_X12_triesAnew s) 0 [(249, 0, 0)] s (kr_Th Z Ds a a) := by
  obtain ⟨hW, hK, hB, h252, h63⟩ := h
  have nf : ∀ {c i : Nat}, c ≠ 249 → jp_in [(249, 0, 0)] c i = false := by intro c i h1; simp [jp_in]; omega
  rw [jf_X12_triesAnew]
  refine ku_for (α := jl_Mm) (G := fun m k τ => jf_X12_triesAnew_L2 m ((k : Nat) : Int) τ) (N := 24) (P := fun o => jE o 0 [(249, 0, 0)] s (kr_Th Z Ds a a)) (I := fun k τ => jp_fr [(249, 0, 0)] s τ ∧ kr_A (fun j => if j < k then a j else b j) τ) (fun m k τ hk hI => ?_) (fun m τ hI => ?_) 24 0 jl_fu s rfl (by decide) ⟨jp_fr.rf, hB.cg (fun j hj => by rw [if_neg (by omega)])⟩
  · obtain ⟨hf, A⟩ := hI
    have g : jl_g τ 252 k = a k := (hf.g _ _ (nf (by decide))).trans (h252 k hk)
    have n := g ▸ jp_gn τ 252 k
    refine Or.inr ⟨jl_up τ 249 k (a k), ?_, hf.up rfl, (A.up n).cg (fun j hj => ?_)⟩
    · show jf_X12_triesAnew_L2 (m + 1) ((k : Nat) : Int) τ = jf_X12_triesAnew_L2 m (((k + 1 : Nat)) : Int) _
      rw [jf_X12_triesAnew_L2, if_neg (by omega), if_pos (by omega), if_pos (by omega), Int.toNat_natCast, g, jp_lm, jp_add (by omega) (by omega)]
      rfl
    · by_cases e : j = k
      · subst e; rw [ks_ue, if_pos (by omega)]
      · rw [ks_un e]
        by_cases y : j < k
        · rw [if_pos y, if_pos (by omega)]
        · rw [if_neg y, if_neg (by omega)]
  · obtain ⟨hf, A⟩ := hI
    show jE (jf_X12_triesAnew_L2 (m + 1) ((24 : Nat) : Int) τ) _ _ _ _
    rw [jf_X12_triesAnew_L2, if_pos (by decide)]
    refine ⟨τ, rfl, hf, hW.fr hf (fun c i _ _ => nf (by omega)), hK.fr hf (fun c i _ _ => nf (by omega)), A.cg (fun j hj => ?_), fun i hi => (hf.g _ _ (nf (by decide))).trans (h252 i hi), (hf.g _ _ (nf (by decide))).trans h63⟩
    by_cases y : j < 24
    · rw [if_pos y]
    · rw [if_neg y]; exact hb j (by omega)
theorem kr_back {Z : jz_Z} {Ds : Nat → List Int} {a b : Nat → Int} {s : jl_Mm} (h : kr_Th Z Ds a b s) (hb : ∀ j, 24 ≤ j → b j = a j) : jE (jf_X12_takesBack s) 0 [(249, 0, 0), (206, 63, 64)] s (fun τ => kr_A a τ ∧ jl_g τ 206 63 = 0) := by
  obtain ⟨τ, t1, t2, t3⟩ := kr_anew h hb
  rw [jf_X12_takesBack, t1, jp_bd, jp_lm]
  refine ⟨_, rfl, (t2.w (by decide)).up rfl, t3.2.2.1.fr (jp_fr.rf.up (F := [(206, 63, 64)]) rfl) (fun i => by simp [jp_in]), jp_g_eq (by decide) (by decide)⟩
theorem ks_hourL_t {Z : jz_Z} {Ds : Nat → List Int} {a : Nat → Int} (hZ : kz_V Z) (hV : ks_V Z a) : ks_hourL true Z Ds a = ks_hour Z Ds a := by
  have hl : ∀ n, ks_log true a (a 0) (ks_gone Z Ds a) n = a := by
    intro n
    induction n with
    | zero => rfl
    | succ n ih => rw [ks_log, if_neg (fun q => Bool.noConfusion q.2), ih]
  funext j
  rw [ks_hourL, hl]
  by_cases h : j < 24
  · rw [ks_mixL h]
  · rw [ks_mixH (by omega), ks_hour_hi hZ hV (by omega)]
theorem kr_Th.fr {Z : jz_Z} {Ds : Nat → List Int} {a b : Nat → Int} {s τ : jl_Mm} {F : jp_F} (h : kr_Th Z Ds a b s) (f : jp_fr F s τ) (hF : ∀ c i, jp_in F c i = true → c = 284 ∨ c = 250 ∨ (c = 206 ∧ i ≠ 63)) : kr_Th Z Ds a b τ := by
  have no : ∀ c i, c ≠ 284 → c ≠ 250 → (c = 206 → i = 63) → jp_in F c i = false := by
    intro c i h1 h2 h3
    cases hq : jp_in F c i with
    | false => rfl
    | true => have := hF c i hq; omega
  obtain ⟨hW, hK, hB, h252, h63⟩ := h
  exact ⟨hW.fr f (fun c i _ _ => no _ _ (by omega) (by omega) (by omega)), hK.fr f (fun c i _ _ => no _ _ (by omega) (by omega) (by omega)), hB.fr f (fun i => no _ _ (by omega) (by omega) (by omega)), fun i hi => (f.g _ _ (no _ _ (by omega) (by omega) (by omega))).trans (h252 i hi), (f.g _ _ (no _ _ (by omega) (by omega) (by omega))).trans h63⟩
theorem kr_hourT {Z : jz_Z} {Ds : Nat → List Int} {a b : Nat → Int} {s : jl_Mm} (h : kr_Th Z Ds a b s) (hT : kz_K Z Ds) (hV : ks_V Z b) (hk : 0 ≤ b 24 ∧ b 24 ≤ 40) : jE (jf_X12_hourGoes s) 0 kr_FG s (kr_Th Z Ds a (ks_hour Z Ds b)) := by
  obtain ⟨hW, hK, hB, h252, h63⟩ := h
  obtain ⟨τ, t1, t2, t3, -⟩ := kr_hour (th := true) hW hV hB hK hT h63 hk
  rw [ks_hourL_t hW.1 hV] at t3
  exact ⟨τ, t1, t2, hW.fr t2 (fun c i _ _ => kr_FGn (by omega) (by intro z; omega) (by omega) (by omega)), hK.fr t2 (fun c i _ _ => kr_FGn (by omega) (by intro z; omega) (by omega) (by omega)), t3, fun i hi => (t2.g _ _ (kr_FGn (by omega) (by intro z; omega) (by omega) (by omega))).trans (h252 i hi), (t2.g _ _ (kr_FGn (by omega) (by intro z; omega) (by omega) (by omega))).trans h63⟩
theorem kr_hoursT {Z : jz_Z} {Ds : Nat → List Int} {a b : Nat → Int} {n : Nat} {s : jl_Mm} (h : kr_Th Z Ds a b s) (hT : kz_K Z Ds) (hV : ks_V Z b) (hk : 0 ≤ b 24 ∧ b 24 ≤ 40) (hn : b 0 + (n : Int) ≤ 2000) : jE (jf_X12_hoursGo (n : Int) s) 0 kr_FG s (kr_Th Z Ds a (ks_hrs Z Ds b n)) := by
  have hV0 := hV.1
  have f1 : jp_fr [(206, 61, 62)] s (jl_up s 206 61 0) := jp_fr.rf.up rfl
  have h1 := h.fr f1 (by intro c i q; simp [jp_in] at q; omega)
  rw [jf_X12_hoursGo, jp_lm]
  generalize jl_up s 206 61 0 = s1 at *
  refine jE.fr (f1.w (by decide)) ?_
  refine ku_for (α := jl_Mm) (G := fun m k τ => jf_X12_hoursGo_L7 m (n : Int) ((k : Nat) : Int) τ) (N := n) (P := fun o => jE o 0 kr_FG s1 (kr_Th Z Ds a (ks_hrs Z Ds b n))) (I := fun k τ => jp_fr kr_FG s1 τ ∧ kr_Th Z Ds a (ks_hrs Z Ds b k) τ) (fun m k τ hk2 hI => ?_) (fun m τ hI => ?_) n 0 jl_fu s1 (Nat.zero_add _) (by show n < 4000; omega) ⟨jp_fr.rf, h1⟩
  · obtain ⟨hf, T⟩ := hI
    obtain ⟨i1, i2, i3, -⟩ := ks_hrs_V (Ds := Ds) h.1.1 hV k (by omega)
    obtain ⟨υ, u1, u2, u3⟩ := kr_hourT T hT i1 (by rw [i3 24 (by decide)]; exact hk)
    refine Or.inr ⟨υ, ?_, hf.tr u2, u3⟩
    show jf_X12_hoursGo_L7 (m + 1) (n : Int) ((k : Nat) : Int) τ = jf_X12_hoursGo_L7 m (n : Int) (((k + 1 : Nat)) : Int) υ
    rw [jf_X12_hoursGo_L7, if_neg (by omega), u1, jp_bd, jp_add (by omega) (by omega)]
    rfl
  · obtain ⟨hf, T⟩ := hI
    show jE (jf_X12_hoursGo_L7 (m + 1) (n : Int) ((n : Nat) : Int) τ) _ _ _ _
    rw [jf_X12_hoursGo_L7, if_pos (Int.le_refl _)]
    exact jE.fr hf (jE.ret T)
theorem kr_heldT {Z : jz_Z} {Ds : Nat → List Int} {a b : Nat → Int} {s : jl_Mm} (h : kr_Th Z Ds a b s) (hT : kz_K Z Ds) (hV : ks_V Z b) : jE (jf_X12_laysHeld s) (ks_belB Z Ds b) kr_FH s (kr_Th Z Ds a b) := by
  obtain ⟨τ, t1, t2, -⟩ := kr_held h.1 hV h.2.2.1 h.2.1 hT
  exact ⟨τ, t1, t2, h.fr t2 (by intro c i q; simp [jp_in, kr_FH] at q; omega)⟩
theorem kr_isHeldT {Z : jz_Z} {Ds : Nat → List Int} {a b : Nat → Int} {l : Nat} {s : jl_Mm} (h : kr_Th Z Ds a b s) (hT : kz_K Z Ds) (hV : ks_V Z b) (hl : l < ks_nl Z) : jE (jf_X12_isHeld (l : Int) s) (if ks_bel Z Ds b l = true then 1 else 0) kr_FH s (kr_Th Z Ds a b) := by
  obtain ⟨τ, t1, t2, -⟩ := kr_isHeld h.1 hV h.2.2.1 h.2.1 hT hl
  exact ⟨τ, t1, t2, h.fr t2 (by intro c i q; simp [jp_in, kr_FH] at q; omega)⟩
/-- whether so many hours can come -/
theorem kr_ahead {Z : jz_Z} {a : Nat → Int} {s : jl_Mm} {v lo hi : Int} (h54 : jl_g s 206 54 = if 0 < ks_nw Z then 1 else 0) (hA : kr_A a s) (h0 : 0 ≤ a 0 ∧ a 0 ≤ 999) (hv : jl_n3 v) (hlo : 0 ≤ lo ∧ hi ≤ 100) (hlo2 : lo ≤ 100 ∧ 0 ≤ hi) : jf_X12_isAhead v lo hi s = some (if 0 < ks_nw Z ∧ lo ≤ v ∧ v ≤ hi ∧ a 0 + v ≤ 999 then 1 else 0, s) := by
  rw [jf_X12_isAhead, h54, jx12_isIn s (jl_n36 hv) ⟨by omega, by omega⟩ ⟨by omega, by omega⟩]
  simp only [jf_X12_isAhead_B37, jf_X12_isAhead_B38, jp_zb0, jp_zb1, jp_bd]
  by_cases c : 0 < ks_nw Z
  · rw [if_pos c, if_neg (by decide)]
    by_cases d : lo ≤ v ∧ v ≤ hi
    · rw [if_pos d, if_neg (by decide), show ((0 : Int) : Int).toNat = 0 from rfl, hA 0 (by decide), jp_add (by omega) (by omega)]
      by_cases e : 999 < a 0 + v
      · rw [if_pos e, if_neg (by omega)]
      · rw [if_neg e, if_pos (by omega)]
    · rw [if_neg d, if_pos rfl, if_neg (by omega)]
  · rw [if_neg c, if_pos rfl, if_neg (by omega)]
