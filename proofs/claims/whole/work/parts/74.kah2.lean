/-! PURE, both: out, trusted -/
/-- the first of m from k on; the first that is not, having been -/
def ks_fst (p : Nat → Bool) : Nat → Nat → Int
  | 0, _ => -1
  | m + 1, k => if p k = true then (k : Int) else ks_fst p m (k + 1)
def ks_lost (p : Nat → Bool) : Nat → Nat → Bool → Int
  | 0, _, _ => -1
  | m + 1, k, b => if b = true ∧ p k = false then (k : Int) else ks_lost p m (k + 1) (b || p k)
def ks_far (a : Nat → Int) : Int := if 999 - a 0 < 60 then 999 - a 0 else 60
def kp_out (Z : jz_Z) (Ds : Nat → List Int) (a : Nat → Int) (v : Int) : Int := if (0 ≤ v ∧ v < ((ks_nl Z : Nat) : Int)) ∧ 0 < a (8 + v.toNat) then ks_fst (fun n => decide (ks_hrs Z Ds a n (8 + v.toNat) = 0)) (ks_far a).toNat 1 else -1
theorem kc_outC {H : Nat} {Z : jz_Z} {Ds : Nat → List Int} {a : Nat → Int} {s : jl_Mm} (hz : kz_N Z Ds a) (hN : kc_N H Z Ds a s) (v : Int) : jE (jf_X11_out v s) (kp_out Z Ds a v) kc_FA s (fun _ => True) := by
  have hl := hN.1.1.l
  have hV0 := hz.1.1
  have h999 := hz.2.2.1
  rw [jf_X11_out, kc_isLit hN.1 hN.2.2, jp_bd, kp_out]
  by_cases c : (0 ≤ v ∧ v < ((ks_nl Z : Nat) : Int)) ∧ 0 < a (8 + v.toNat)
  · rw [if_pos c, if_neg (by decide), if_pos c]
    obtain ⟨l, rfl⟩ : ∃ l : Nat, v = (l : Int) := ⟨v.toNat, by omega⟩
    rw [Int.toNat_natCast] at c ⊢
    obtain ⟨s1, r1, r2, r3⟩ := kc_restart hN.2.2
    have N1 := hN.frA r2
    obtain ⟨m0, hm0⟩ : ∃ m0 : Nat, ks_far a = (m0 : Int) := ⟨(ks_far a).toNat, by rw [ks_far]; split <;> omega⟩
    have hm60 : m0 ≤ 60 ∧ a 0 + (m0 : Int) ≤ 999 := by
      rw [ks_far] at hm0
      split at hm0 <;> omega
    have hfar : (if 999 - a 0 < 60 then 999 - a 0 else 60) = (m0 : Int) := hm0
    rw [hm0, Int.toNat_natCast, jf_X1_firstUnlit, r1, jp_bd, if_pos kc_k196, kc_reach N1.2.2 hV0, hfar, jp_bd]
    have key : jE (jf_X1_firstUnlit_L14 jl_fu (l : Int) (m0 : Int) 1 s1) (ks_fst (fun n => decide (ks_hrs Z Ds a n (8 + l) = 0)) m0 1) kc_FA s1 (fun _ => True) := by
      refine ku_for (α := jl_Mm) (G := fun m k τ => jf_X1_firstUnlit_L14 m (l : Int) (m0 : Int) (((k + 1 : Nat)) : Int) τ) (N := m0) (P := fun o => jE o (ks_fst (fun n => decide (ks_hrs Z Ds a n (8 + l) = 0)) m0 1) kc_FA s1 (fun _ => True)) (I := fun k τ => jp_fr kc_FA s1 τ ∧ kc_A (ks_np Z) 196 (ks_hrs Z Ds a k) τ ∧ ks_fst (fun n => decide (ks_hrs Z Ds a n (8 + l) = 0)) m0 1 = ks_fst (fun n => decide (ks_hrs Z Ds a n (8 + l) = 0)) (m0 - k) (k + 1)) (fun m k τ hk hI => ?_) (fun m τ hI => ?_) m0 0 jl_fu s1 (Nat.zero_add _) (by show m0 < 4000; omega) ⟨jp_fr.rf, r3, rfl⟩
      · obtain ⟨hf, A, e⟩ := hI
        obtain ⟨i1, i2, -⟩ := ks_hrs_V (Ds := Ds) hN.1.1 hz.1 k (by omega)
        obtain ⟨υ, u1, u2, u3⟩ := kc_passA (N1.1.frA hf) (N1.2.1.frA N1.1.2.1 hf) hz.2.1 i1 A (by omega)
        have ec : jl_g υ 198 l = ks_hrs Z Ds a (k + 1) (8 + l) := u3.2.2.2.1 l (by omega)
        have em : m0 - k = (m0 - (k + 1)) + 1 := by omega
        rw [em, ks_fst] at e
        show jE (jf_X1_firstUnlit_L14 (m + 1) (l : Int) (m0 : Int) (((k + 1 : Nat)) : Int) τ) _ _ _ _ ∨ ∃ x', jf_X1_firstUnlit_L14 (m + 1) (l : Int) (m0 : Int) (((k + 1 : Nat)) : Int) τ = jf_X1_firstUnlit_L14 m (l : Int) (m0 : Int) (((k + 1 + 1 : Nat)) : Int) x' ∧ _
        rw [jf_X1_firstUnlit_L14, if_neg (by omega), u1, jp_bd, if_pos (by omega), Int.toNat_natCast, ec]
        by_cases z : ks_hrs Z Ds a (k + 1) (8 + l) = 0
        · have hd : decide (ks_hrs Z Ds a (k + 1) (8 + l) = 0) = true := decide_eq_true z
          rw [if_pos hd] at e
          rw [if_pos z, e]
          exact Or.inl ⟨υ, rfl, hf.tr u2, trivial⟩
        · have hd : ¬ decide (ks_hrs Z Ds a (k + 1) (8 + l) = 0) = true := by rw [decide_eq_false z]; decide
          rw [if_neg hd] at e
          rw [if_neg z, jp_add (by omega) (by omega)]
          exact Or.inr ⟨υ, rfl, hf.tr u2, u3, e⟩
      · obtain ⟨hf, A, e⟩ := hI
        show jE (jf_X1_firstUnlit_L14 (m + 1) (l : Int) (m0 : Int) (((m0 + 1 : Nat)) : Int) τ) _ _ _ _
        rw [Nat.sub_self, ks_fst] at e
        rw [jf_X1_firstUnlit_L14, if_pos (by omega), e]
        exact ⟨τ, rfl, hf, trivial⟩
    obtain ⟨s2, k1, k2, -⟩ := key
    rw [k1, jp_bd]
    exact ⟨s2, rfl, r2.tr k2, trivial⟩
  · rw [if_neg c, if_pos rfl, if_neg c]
    exact jE.ret trivial
theorem kr_outC {Z : jz_Z} {Ds : Nat → List Int} {a : Nat → Int} {s : jl_Mm} (hz : kz_N Z Ds a) (hN : kr_N Z Ds a s) {v : Int} (hv : jl_n3 v) : jE (jf_X12_out v s) (kp_out Z Ds a v) kr_FA s (kr_N Z Ds a) := by
  have hl := hN.1.1.l
  have hV0 := hz.1.1
  have h999 := hz.2.2.1
  rw [jf_X12_out, hN.1.isL hv, jp_bd, kp_out]
  by_cases c : 0 ≤ v ∧ v < ((ks_nl Z : Nat) : Int)
  · obtain ⟨l, rfl⟩ : ∃ l : Nat, v = (l : Int) := ⟨v.toNat, by omega⟩
    rw [if_pos c, if_neg (by decide), hN.2.2.1.lit (by omega), jp_bd, Int.toNat_natCast]
    by_cases d : 0 < a (8 + l)
    · rw [if_pos d, if_neg (by decide), if_pos ⟨c, d⟩]
      obtain ⟨m0, hm0⟩ : ∃ m0 : Nat, ks_far a = (m0 : Int) := ⟨(ks_far a).toNat, by rw [ks_far]; split <;> omega⟩
      have hm60 : m0 ≤ 60 ∧ a 0 + (m0 : Int) ≤ 999 ∧ (m0 = 60 ∨ a 0 + (m0 : Int) = 999) := by
        rw [ks_far] at hm0
        split at hm0 <;> omega
      obtain ⟨s1, p1, p2, p3⟩ := kr_aside hN.1 hN.2.1 hN.2.2.1
      rw [hm0, Int.toNat_natCast, p1, jp_bd]
      have fin : ∀ (b : Nat → Int) (r : Int) (τ : jl_Mm), jp_fr kr_FA s τ → kr_Th Z Ds a b τ → (∀ j, 24 ≤ j → b j = a j) → jE (jf_X12_out_B70 r τ) r kr_FA s (kr_N Z Ds a) := by
        intro b r τ hf hT hb
        obtain ⟨s3, b1, b2, b3⟩ := kr_end hN hf hT hb
        rw [jf_X12_out_B70, b1, jp_bd]
        exact ⟨s3, rfl, b2, b3⟩
      refine ku_for2 (α := jl_Mm) (G := fun m k τ => jf_X12_out_L27 m (l : Int) (-1) (((k + 1 : Nat)) : Int) τ) (N := m0) (P := fun o => jE o (ks_fst (fun n => decide (ks_hrs Z Ds a n (8 + l) = 0)) m0 1) kr_FA s (kr_N Z Ds a)) (I := fun k τ => jp_fr kr_FA s τ ∧ kr_Th Z Ds a (ks_hrs Z Ds a k) τ ∧ ks_fst (fun n => decide (ks_hrs Z Ds a n (8 + l) = 0)) m0 1 = ks_fst (fun n => decide (ks_hrs Z Ds a n (8 + l) = 0)) (m0 - k) (k + 1)) (fun m k τ hk hm hI => ?_) (fun m τ hI => ?_) m0 0 jl_fu s1 (Nat.zero_add _) (by show m0 < 4000; omega) ⟨p2, p3, rfl⟩
      · obtain ⟨hf, T, e⟩ := hI
        obtain ⟨i1, i2, i3, -⟩ := ks_hrs_V (Ds := Ds) hN.1.1 hz.1 k (by omega)
        obtain ⟨j1, j2, j3, -⟩ := ks_hrs_V (Ds := Ds) hN.1.1 hz.1 (k + 1) (by omega)
        obtain ⟨υ, u1, u2, u3⟩ := kr_hourT T hz.2.1 i1 (by rw [i3 24 (by decide)]; exact hz.2.2.2)
        have u3 : kr_Th Z Ds a (ks_hrs Z Ds a (k + 1)) υ := u3
        have em : m0 - k = (m0 - (k + 1)) + 1 := by omega
        rw [em, ks_fst] at e
        have g0 : jl_g τ 249 0 = a 0 + (k : Int) := (T.2.2.1 0 (by decide)).trans i2
        show jE (jf_X12_out_L27 (m + 1) (l : Int) (-1) (((k + 1 : Nat)) : Int) τ) _ _ _ _ ∨ ∃ x', jf_X12_out_L27 (m + 1) (l : Int) (-1) (((k + 1 : Nat)) : Int) τ = jf_X12_out_L27 m (l : Int) (-1) (((k + 1 + 1 : Nat)) : Int) x' ∧ _
        have ek : jl_add ((k + 1 : Nat) : Int) 1 = ((k + 1 + 1 : Nat) : Int) := jp_add (by omega) (by omega)
        rw [jf_X12_out_L27, if_neg (by omega), show ((0 : Int) : Int).toNat = 0 from rfl, g0, if_neg (by omega), if_pos rfl, u1, jp_bd, u3.2.2.1.lit (by omega), jp_bd, jf_X12_out_B64, jf_X12_out_B64, ek]
        have hc0 := j1.2.2.2 l (by omega)
        by_cases z : ks_hrs Z Ds a (k + 1) (8 + l) = 0
        · have hd : decide (ks_hrs Z Ds a (k + 1) (8 + l) = 0) = true := decide_eq_true z
          rw [if_pos hd] at e
          have lit0 : (if 0 < ks_hrs Z Ds a (k + 1) (8 + l) then (1 : Int) else 0) = 0 := if_neg (by omega)
          obtain ⟨m, rfl⟩ : ∃ j, m = j + 1 := ⟨m - 1, by omega⟩
          rw [lit0, if_pos rfl, e, jf_X12_out_L27]
          refine Or.inl ?_
          have hf2 : jp_fr kr_FA s υ := hf.tr (u2.w (by decide))
          by_cases y : (60 : Int) < ((k + 1 + 1 : Nat) : Int)
          · rw [if_pos y]; exact fin _ _ υ hf2 u3 j3
          · rw [if_neg y]
            by_cases y2 : (999 : Int) ≤ jl_g υ 249 ((0 : Int) : Int).toNat
            · rw [if_pos y2]; exact fin _ _ υ hf2 u3 j3
            · rw [if_neg y2, if_neg (by omega)]; exact fin _ _ υ hf2 u3 j3
        · have hd : ¬ decide (ks_hrs Z Ds a (k + 1) (8 + l) = 0) = true := by rw [decide_eq_false z]; decide
          rw [if_neg hd] at e
          have lit1 : (if 0 < ks_hrs Z Ds a (k + 1) (8 + l) then (1 : Int) else 0) = 1 := if_pos (by omega)
          rw [lit1, if_neg (by decide)]
          exact Or.inr ⟨υ, rfl, hf.tr (u2.w (by decide)), u3, e⟩
      · obtain ⟨hf, T, e⟩ := hI
        obtain ⟨i1, i2, i3, -⟩ := ks_hrs_V (Ds := Ds) hN.1.1 hz.1 m0 (by omega)
        have g0 : jl_g τ 249 0 = a 0 + (m0 : Int) := (T.2.2.1 0 (by decide)).trans i2
        show jE (jf_X12_out_L27 (m + 1) (l : Int) (-1) (((m0 + 1 : Nat)) : Int) τ) _ _ _ _
        rw [Nat.sub_self, ks_fst] at e
        rw [jf_X12_out_L27, show ((0 : Int) : Int).toNat = 0 from rfl, g0, e]
        by_cases y : (60 : Int) < ((m0 + 1 : Nat) : Int)
        · rw [if_pos y]; exact fin _ _ τ hf T i3
        · rw [if_neg y, if_pos (by omega)]; exact fin _ _ τ hf T i3
    · rw [if_neg d, if_pos rfl, if_neg (fun q => d q.2)]
      exact jE.ret hN
  · rw [if_neg c, if_pos rfl, if_neg (fun q => c q.1)]
    exact jE.ret hN
def kp_trusted (Z : jz_Z) (Ds : Nat → List Int) (a : Nat → Int) (v w : Int) : Int := if (0 ≤ v ∧ v < ((ks_nl Z : Nat) : Int)) ∧ (0 ≤ w ∧ w ≤ 1) then (if w = 1 then ks_lost (fun n => ks_bel Z Ds (ks_hrs Z Ds a n) v.toNat) ((ks_far a).toNat + 1) 0 false else ks_fst (fun n => ks_bel Z Ds (ks_hrs Z Ds a n) v.toNat) ((ks_far a).toNat + 1) 0) else -1
theorem kc_trust {H : Nat} {Z : jz_Z} {Ds : Nat → List Int} {a : Nat → Int} {l m0 : Nat} {w r : Int} {s : jl_Mm} (hz : kz_N Z Ds a) (hN : kc_N H Z Ds a s) (hl : l < ks_nl Z) (hw : w = 0 ∨ w = 1) (hm : m0 ≤ 60 ∧ a 0 + (m0 : Int) ≤ 999) (hA : kc_A (ks_np Z) 196 a s) (hr : r = (if w = 1 then ks_lost (fun n => ks_bel Z Ds (ks_hrs Z Ds a n) l) (m0 + 1) 0 false else ks_fst (fun n => ks_bel Z Ds (ks_hrs Z Ds a n) l) (m0 + 1) 0)) : jE (jf_X1_firstTrust_L18 jl_fu (l : Int) w (m0 : Int) 0 0 s) r kc_FA s (fun _ => True) := by
  have h8 := hN.1.1.l
  have hV0 := hz.1.1
  refine ku_for (α := Bool × jl_Mm) (G := fun m k x => jf_X1_firstTrust_L18 m (l : Int) w (m0 : Int) (if x.1 = true then 1 else 0) ((k : Nat) : Int) x.2) (N := m0 + 1) (P := fun o => jE o r kc_FA s (fun _ => True)) (I := fun k x => jp_fr kc_FA s x.2 ∧ (k ≤ m0 → kc_A (ks_np Z) 196 (ks_hrs Z Ds a k) x.2) ∧ r = (if w = 1 then ks_lost (fun n => ks_bel Z Ds (ks_hrs Z Ds a n) l) (m0 + 1 - k) k x.1 else ks_fst (fun n => ks_bel Z Ds (ks_hrs Z Ds a n) l) (m0 + 1 - k) k)) (fun m k x hk hI => ?_) (fun m x hI => ?_) (m0 + 1) 0 jl_fu (false, s) (Nat.zero_add _) (by show m0 + 1 < 4000; omega) ⟨jp_fr.rf, fun _ => hA, hr⟩
  · obtain ⟨been, τ⟩ := x
    obtain ⟨hf, hA2, e⟩ := hI
    have A := hA2 (by omega)
    simp only at hf A e
    obtain ⟨i1, i2, -⟩ := ks_hrs_V (Ds := Ds) hN.1.1 hz.1 k (by omega)
    have N := hN.frA hf
    obtain ⟨υ, u1, u2, -⟩ := kc_bel (Or.inr rfl) N.1 i1 A N.2.1 hz.2.1
    have fυ : jp_fr kc_FA s υ := hf.tr (u2.w (by decide))
    have Nυ := hN.frA fυ
    have Aυ : kc_A (ks_np Z) 196 (ks_hrs Z Ds a k) υ := A.frR (Or.inr rfl) u2
    obtain ⟨ω, o1, o2, o3⟩ := kc_pass (Or.inr rfl) Nυ.1 i1 Aυ Nυ.2.1 hz.2.1
    have em : m0 + 1 - k = (m0 - k) + 1 := by omega
    have ek : jl_add (k : Int) 1 = ((k + 1 : Nat) : Int) := jp_add (by omega) (by omega)
    have es : m0 + 1 - (k + 1) = m0 - k := by omega
    -- an hour more
    have more : ∀ b' : Bool, r = (if w = 1 then ks_lost (fun n => ks_bel Z Ds (ks_hrs Z Ds a n) l) (m0 - k) (k + 1) b' else ks_fst (fun n => ks_bel Z Ds (ks_hrs Z Ds a n) l) (m0 - k) (k + 1)) → ∃ x' : Bool × jl_Mm, jf_X1_firstTrust_B90 (jf_X1_firstTrust_L18 m) (l : Int) w (m0 : Int) (k : Int) (if b' = true then 1 else 0) υ = jf_X1_firstTrust_L18 m (l : Int) w (m0 : Int) (if x'.1 = true then 1 else 0) ((k + 1 : Nat) : Int) x'.2 ∧ (jp_fr kc_FA s x'.2 ∧ (k + 1 ≤ m0 → kc_A (ks_np Z) 196 (ks_hrs Z Ds a (k + 1)) x'.2) ∧ r = (if w = 1 then ks_lost (fun n => ks_bel Z Ds (ks_hrs Z Ds a n) l) (m0 + 1 - (k + 1)) (k + 1) x'.1 else ks_fst (fun n => ks_bel Z Ds (ks_hrs Z Ds a n) l) (m0 + 1 - (k + 1)) (k + 1))) := by
      intro b' hb'
      refine ⟨(b', ω), ?_, fυ.tr (kc_FP196 o2), fun h => ?_, by rw [es]; exact hb'⟩
      · rw [jf_X1_firstTrust_B90, o1, jp_bd, ek]
      · rw [ks_hour_lo (by omega)] at o3
        exact o3
    show jE (jf_X1_firstTrust_L18 (m + 1) (l : Int) w (m0 : Int) (if been = true then 1 else 0) ((k : Nat) : Int) τ) _ _ _ _ ∨ ∃ x' : Bool × jl_Mm, jf_X1_firstTrust_L18 (m + 1) (l : Int) w (m0 : Int) (if been = true then 1 else 0) ((k : Nat) : Int) τ = jf_X1_firstTrust_L18 m (l : Int) w (m0 : Int) (if x'.1 = true then 1 else 0) ((k + 1 : Nat) : Int) x'.2 ∧ _
    rw [jf_X1_firstTrust_L18, if_neg (by omega), u1, jp_bd, ks_belB, ku_b_bit _ (by omega) hl]
    rw [em, ks_lost, ks_fst] at e
    have eB85 : jf_X1_firstTrust_B85 (jf_X1_firstTrust_L18 m) (l : Int) w (m0 : Int) (k : Int) υ = jf_X1_firstTrust_B90 (jf_X1_firstTrust_L18 m) (l : Int) w (m0 : Int) (k : Int) (if true = true then 1 else 0) υ := rfl
    have eB90 : jf_X1_firstTrust_B90 (jf_X1_firstTrust_L18 m) (l : Int) w (m0 : Int) (k : Int) 0 υ = jf_X1_firstTrust_B90 (jf_X1_firstTrust_L18 m) (l : Int) w (m0 : Int) (k : Int) (if false = true then 1 else 0) υ := rfl
    rcases hw with rfl | rfl
    · rw [if_neg (by decide)] at e
      simp only [if_neg (show ¬ (0 : Int) = 1 by decide)] at more ⊢
      by_cases z : ks_bel Z Ds (ks_hrs Z Ds a k) l = true
      · rw [if_pos z] at e
        rw [if_pos z, if_pos rfl, jf_X1_firstTrust_B48, if_pos rfl, if_neg (by decide), jf_X1_firstTrust_B72, e]
        exact Or.inl ⟨υ, rfl, fυ, trivial⟩
      · rw [if_neg z] at e
        rw [if_neg z, if_neg (by decide), jf_X1_firstTrust_B48, if_pos rfl, if_pos rfl, jf_X1_firstTrust_B75]
        cases been with
        | true => rw [if_neg (by decide), eB85]; exact Or.inr (more true e)
        | false => rw [if_pos (by decide), if_pos rfl, eB90]; exact Or.inr (more false e)
    · rw [if_pos rfl] at e
      simp only [if_true] at more ⊢
      by_cases z : ks_bel Z Ds (ks_hrs Z Ds a k) l = true
      · rw [if_neg (fun q => by rw [z] at q; exact Bool.noConfusion q.2), z] at e
        rw [if_pos z, if_pos rfl, jf_X1_firstTrust_B48, if_neg (by decide)]
        cases been with
        | true => rw [if_neg (by decide), if_neg (by decide), jf_X1_firstTrust_B75, if_neg (by decide), eB85]; exact Or.inr (more true e)
        | false => rw [if_pos (by decide), jf_X1_firstTrust_B75, if_pos (by decide), if_neg (by decide), eB85]; exact Or.inr (more true e)
      · have z' : ks_bel Z Ds (ks_hrs Z Ds a k) l = false := by
          cases h : ks_bel Z Ds (ks_hrs Z Ds a k) l with
          | true => exact absurd h z
          | false => rfl
        rw [if_neg z, if_neg (by decide), jf_X1_firstTrust_B48, if_neg (by decide)]
        cases been with
        | true =>
          rw [if_pos ⟨rfl, z'⟩] at e
          rw [if_neg (by decide), if_pos rfl, jf_X1_firstTrust_B72, e]
          exact Or.inl ⟨υ, rfl, fυ, trivial⟩
        | false =>
          rw [if_neg (fun q => Bool.noConfusion q.1), z'] at e
          rw [if_pos (by decide), jf_X1_firstTrust_B75, if_pos (by decide), if_pos rfl, eB90]; exact Or.inr (more false e)
  · obtain ⟨been, τ⟩ := x
    obtain ⟨hf, -, e⟩ := hI
    simp only at hf e
    rw [Nat.sub_self, ks_lost, ks_fst] at e
    show jE (jf_X1_firstTrust_L18 (m + 1) (l : Int) w (m0 : Int) (if been = true then 1 else 0) ((m0 + 1 : Nat) : Int) τ) _ _ _ _
    rw [jf_X1_firstTrust_L18, if_pos (by omega), e]
    have : (if w = 1 then (-1 : Int) else -1) = -1 := by split <;> rfl
    rw [this]
    exact ⟨τ, rfl, hf, trivial⟩
theorem kc_trusted {H : Nat} {Z : jz_Z} {Ds : Nat → List Int} {a : Nat → Int} {s : jl_Mm} (hz : kz_N Z Ds a) (hN : kc_N H Z Ds a s) (v w : Int) : jE (jf_X11_trusted v w s) (kp_trusted Z Ds a v w) kc_FA s (fun _ => True) := by
  have hl := hN.1.1.l
  have hV0 := hz.1.1
  have h999 := hz.2.2.1
  rw [jf_X11_trusted, hN.1.isL, jp_bd, kp_trusted]
  by_cases c : 0 ≤ v ∧ v < ((ks_nl Z : Nat) : Int)
  · rw [if_pos c, if_neg (by decide)]
    obtain ⟨l, rfl⟩ : ∃ l : Nat, v = (l : Int) := ⟨v.toNat, by omega⟩
    rw [Int.toNat_natCast]
    obtain ⟨s1, r1, r2, r3⟩ := kc_restart hN.2.2
    have N1 := hN.frA r2
    obtain ⟨m0, hm0⟩ : ∃ m0 : Nat, ks_far a = (m0 : Int) := ⟨(ks_far a).toNat, by rw [ks_far]; split <;> omega⟩
    have hm60 : m0 ≤ 60 ∧ a 0 + (m0 : Int) ≤ 999 := by
      rw [ks_far] at hm0
      split at hm0 <;> omega
    have hfar : (if 999 - a 0 < 60 then 999 - a 0 else 60) = (m0 : Int) := hm0
    rw [hm0, Int.toNat_natCast]
    have go : ∀ u : Int, u = 0 ∨ u = 1 → jE (jf_X11_trusted_B34 (l : Int) u s) (if u = 1 then ks_lost (fun n => ks_bel Z Ds (ks_hrs Z Ds a n) l) (m0 + 1) 0 false else ks_fst (fun n => ks_bel Z Ds (ks_hrs Z Ds a n) l) (m0 + 1) 0) kc_FA s (fun _ => True) := by
      intro u hu
      obtain ⟨s2, t1, t2, -⟩ := kc_trust (l := l) hz N1 (by omega) hu hm60 r3 rfl
      rw [jf_X11_trusted_B34, jf_X1_firstTrust, r1, jp_bd, if_pos kc_k196, kc_reach N1.2.2 hV0, hfar, jp_bd, t1, jp_bd]
      exact ⟨s2, rfl, r2.tr t2, trivial⟩
    by_cases d : 0 ≤ w ∧ w ≤ 1
    · rw [if_neg (show ¬ w < 0 by omega), if_pos (show w ≤ 1 by omega), if_pos (show (0 ≤ (l : Int) ∧ (l : Int) < ((ks_nl Z : Nat) : Int)) ∧ (0 ≤ w ∧ w ≤ 1) from ⟨c, d⟩)]
      by_cases y : w = 1
      · rw [if_pos y, y]; exact go 1 (Or.inr rfl)
      · obtain rfl : w = 0 := by omega
        rw [if_neg y]; exact go 0 (Or.inl rfl)
    · rw [if_neg (show ¬ ((0 ≤ (l : Int) ∧ (l : Int) < ((ks_nl Z : Nat) : Int)) ∧ (0 ≤ w ∧ w ≤ 1)) from fun q => d q.2)]
      by_cases y : w < 0
      · rw [if_pos y]; exact jE.ret trivial
      · rw [if_neg y, if_neg (show ¬ w ≤ 1 by omega)]; exact jE.ret trivial
  · rw [if_neg c, if_pos rfl, if_neg (fun q => c q.1)]
    exact jE.ret trivial
