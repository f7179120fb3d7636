/-! PURE, the reference: trusted -/
theorem kr_trust {Z : jz_Z} {Ds : Nat → List Int} {a : Nat → Int} {l m0 : Nat} {w r0 r1 : Int} {s s0 : jl_Mm} (hz : kz_N Z Ds a) (hN : kr_N Z Ds a s0) (hl : l < ks_nl Z) (hw : w = 0 ∨ w = 1) (hm : m0 ≤ 60 ∧ a 0 + (m0 : Int) ≤ 999 ∧ (m0 = 60 ∨ a 0 + (m0 : Int) = 999)) (hf0 : jp_fr kr_FA s0 s) (hTh : kr_Th Z Ds a a s) (h0 : r0 = ks_fst (fun n => ks_bel Z Ds (ks_hrs Z Ds a n) l) (m0 + 1) 0) (h1 : r1 = ks_lost (fun n => ks_bel Z Ds (ks_hrs Z Ds a n) l) (m0 + 1) 0 false) : jE (jf_X12_trusted_L33 jl_fu (l : Int) w (-1) (-1) 0 s) (if w = 1 then r1 else r0) kr_FA s0 (kr_N Z Ds a) := by
  have h8 := hN.1.1.l
  have hV0 := hz.1.1
  have fin : ∀ (b : Nat → Int) (x y : Int) (τ : jl_Mm), jp_fr kr_FA s0 τ → kr_Th Z Ds a b τ → (∀ j, 24 ≤ j → b j = a j) → (w = 1 → y = r1) → (w = 0 → x = r0) → jE (jf_X12_trusted_B102 w x y τ) (if w = 1 then r1 else r0) kr_FA s0 (kr_N Z Ds a) := by
    intro b x y τ hf hT hb hy hx
    obtain ⟨s3, b1, b2, b3⟩ := kr_end hN hf hT hb
    rw [jf_X12_trusted_B102, b1, jp_bd]
    refine ⟨s3, ?_, b2, b3⟩
    rcases hw with rfl | rfl
    · rw [if_pos rfl, if_neg (by decide), hx rfl]; rfl
    · rw [if_neg (by decide), if_pos rfl, hy rfl]; rfl
  refine ku_for2 (α := Int × jl_Mm) (G := fun m k x => jf_X12_trusted_L33 m (l : Int) w x.1 (-1) ((k : Nat) : Int) x.2) (N := m0 + 1) (P := fun o => jE o (if w = 1 then r1 else r0) kr_FA s0 (kr_N Z Ds a)) (I := fun k x => jp_fr kr_FA s0 x.2 ∧ kr_Th Z Ds a (ks_hrs Z Ds a k) x.2 ∧ ((x.1 = -1 ∧ r0 = ks_fst (fun n => ks_bel Z Ds (ks_hrs Z Ds a n) l) (m0 + 1 - k) k ∧ r1 = ks_lost (fun n => ks_bel Z Ds (ks_hrs Z Ds a n) l) (m0 + 1 - k) k false) ∨ (x.1 ≠ -1 ∧ x.1 = r0 ∧ r1 = ks_lost (fun n => ks_bel Z Ds (ks_hrs Z Ds a n) l) (m0 + 1 - k) k true))) (fun m k x hk hm2 hI => ?_) (fun m x hI => ?_) (m0 + 1) 0 jl_fu (-1, s) (Nat.zero_add _) (by show m0 + 1 < 4000; omega) ⟨hf0, hTh, Or.inl ⟨rfl, h0, h1⟩⟩
  · obtain ⟨fi, τ⟩ := x
    obtain ⟨hf, T, e⟩ := hI
    simp only at hf T e
    obtain ⟨i1, i2, i3, -⟩ := ks_hrs_V (Ds := Ds) hN.1.1 hz.1 k (by omega)
    obtain ⟨j1, j2, j3, -⟩ := ks_hrs_V (Ds := Ds) hN.1.1 hz.1 (k + 1) (by omega)
    have g0 : jl_g τ 249 0 = a 0 + (k : Int) := (T.2.2.1 0 (by decide)).trans i2
    obtain ⟨υ, u1, u2, u3⟩ := kr_isHeldT T hz.2.1 i1 hl
    obtain ⟨ω, o1, o2, o3⟩ := kr_hourT u3 hz.2.1 i1 (by rw [i3 24 (by decide)]; exact hz.2.2.2)
    have o3 : kr_Th Z Ds a (ks_hrs Z Ds a (k + 1)) ω := o3
    have fω : jp_fr kr_FA s0 ω := (hf.tr (u2.w (by decide))).tr (o2.w (by decide))
    have em : m0 + 1 - k = (m0 - k) + 1 := by omega
    have es : m0 + 1 - (k + 1) = m0 - k := by omega
    have ek : jl_add (k : Int) 1 = ((k + 1 : Nat) : Int) := jp_add (by omega) (by omega)
    have k0 : ¬ ((k : Nat) : Int) = -1 := by omega
    have more : ∀ y, ((y = -1 ∧ r0 = ks_fst (fun n => ks_bel Z Ds (ks_hrs Z Ds a n) l) (m0 - k) (k + 1) ∧ r1 = ks_lost (fun n => ks_bel Z Ds (ks_hrs Z Ds a n) l) (m0 - k) (k + 1) false) ∨ (y ≠ -1 ∧ y = r0 ∧ r1 = ks_lost (fun n => ks_bel Z Ds (ks_hrs Z Ds a n) l) (m0 - k) (k + 1) true)) → ∃ x' : Int × jl_Mm, jf_X12_trusted_B92 (jf_X12_trusted_L33 m) (l : Int) w y (-1) (k : Int) υ = jf_X12_trusted_L33 m (l : Int) w x'.1 (-1) ((k + 1 : Nat) : Int) x'.2 ∧ (jp_fr kr_FA s0 x'.2 ∧ kr_Th Z Ds a (ks_hrs Z Ds a (k + 1)) x'.2 ∧ ((x'.1 = -1 ∧ r0 = ks_fst (fun n => ks_bel Z Ds (ks_hrs Z Ds a n) l) (m0 + 1 - (k + 1)) (k + 1) ∧ r1 = ks_lost (fun n => ks_bel Z Ds (ks_hrs Z Ds a n) l) (m0 + 1 - (k + 1)) (k + 1) false) ∨ (x'.1 ≠ -1 ∧ x'.1 = r0 ∧ r1 = ks_lost (fun n => ks_bel Z Ds (ks_hrs Z Ds a n) l) (m0 + 1 - (k + 1)) (k + 1) true))) := by
      intro y hy
      refine ⟨(y, ω), ?_, fω, o3, by rw [es]; exact hy⟩
      rw [jf_X12_trusted_B92, o1, jp_bd, ek]
    show jE (jf_X12_trusted_L33 (m + 1) (l : Int) w fi (-1) ((k : Nat) : Int) τ) _ _ _ _ ∨ ∃ x' : Int × jl_Mm, jf_X12_trusted_L33 (m + 1) (l : Int) w fi (-1) ((k : Nat) : Int) τ = jf_X12_trusted_L33 m (l : Int) w x'.1 (-1) ((k + 1 : Nat) : Int) x'.2 ∧ _
    rw [jf_X12_trusted_L33, if_neg (by omega), show ((0 : Int) : Int).toNat = 0 from rfl, g0, if_neg (by omega), if_pos rfl, u1, jp_bd]
    rw [em] at e
    by_cases z : ks_bel Z Ds (ks_hrs Z Ds a k) l = true
    · have c1 : ¬ (if ks_bel Z Ds (ks_hrs Z Ds a k) l = true then (1 : Int) else 0) = 0 := by rw [if_pos z]; decide
      rw [if_neg c1, jf_X12_trusted_B78, jf_X12_trusted_B78, if_neg c1]
      rcases e with ⟨e1, e2, e3⟩ | ⟨e1, e2, e3⟩
      · rw [ks_fst, if_pos z] at e2
        rw [ks_lost, if_neg (fun q => Bool.noConfusion q.1)] at e3
        have e3 : r1 = ks_lost (fun n => ks_bel Z Ds (ks_hrs Z Ds a n) l) (m0 - k) (k + 1) (false || ks_bel Z Ds (ks_hrs Z Ds a k) l) := e3
        rw [z] at e3
        rw [if_pos e1]
        exact Or.inr (more (k : Int) (Or.inr ⟨k0, e2.symm, e3⟩))
      · rw [ks_lost, if_neg (fun q => by have q2 := q.2; rw [z] at q2; exact Bool.noConfusion q2)] at e3
        rw [if_neg e1, if_neg c1]
        exact Or.inr (more fi (Or.inr ⟨e1, e2, e3⟩))
    · have c1 : (if ks_bel Z Ds (ks_hrs Z Ds a k) l = true then (1 : Int) else 0) = 0 := if_neg z
      have z' : ks_bel Z Ds (ks_hrs Z Ds a k) l = false := by
        cases h : ks_bel Z Ds (ks_hrs Z Ds a k) l with
        | true => exact absurd h z
        | false => rfl
      rw [if_pos c1, jf_X12_trusted_B78, if_pos c1]
      rcases e with ⟨e1, e2, e3⟩ | ⟨e1, e2, e3⟩
      · rw [ks_fst, if_neg z] at e2
        rw [ks_lost, if_neg (fun q => Bool.noConfusion q.1)] at e3
        have e3 : r1 = ks_lost (fun n => ks_bel Z Ds (ks_hrs Z Ds a n) l) (m0 - k) (k + 1) (false || ks_bel Z Ds (ks_hrs Z Ds a k) l) := e3
        rw [z'] at e3
        rw [if_pos e1]
        exact Or.inr (more fi (Or.inl ⟨e1, e2, e3⟩))
      · rw [ks_lost, if_pos ⟨rfl, z'⟩] at e3
        rw [if_neg e1, jf_X12_trusted_B92, o1, jp_bd, ek]
        refine Or.inl ?_
        obtain ⟨m, rfl⟩ : ∃ j, m = j + 1 := ⟨m - 1, by omega⟩
        rw [jf_X12_trusted_L33]
        have last := fin (ks_hrs Z Ds a (k + 1)) fi (k : Int) ω fω o3 j3 (fun _ => e3.symm) (fun _ => e2)
        by_cases y : (60 : Int) < ((k + 1 : Nat) : Int)
        · rw [if_pos y]; exact last
        · rw [if_neg y]
          by_cases y2 : (999 : Int) < jl_g ω 249 ((0 : Int) : Int).toNat
          · rw [if_pos y2]; exact last
          · rw [if_neg y2, if_neg k0]; exact last
  · obtain ⟨fi, τ⟩ := x
    obtain ⟨hf, T, e⟩ := hI
    simp only at hf T e
    obtain ⟨i1, i2, i3, -⟩ := ks_hrs_V (Ds := Ds) hN.1.1 hz.1 (m0 + 1) (by omega)
    have g0 : jl_g τ 249 0 = a 0 + ((m0 + 1 : Nat) : Int) := (T.2.2.1 0 (by decide)).trans i2
    rw [Nat.sub_self, ks_fst, ks_lost, ks_lost] at e
    have last := fin _ fi (-1) τ hf T i3 (fun _ => e.elim (fun q => q.2.2.symm) (fun q => q.2.2.symm)) (fun _ => e.elim (fun q => q.1.trans q.2.1.symm) (fun q => q.2.1))
    show jE (jf_X12_trusted_L33 (m + 1) (l : Int) w fi (-1) ((m0 + 1 : Nat) : Int) τ) _ _ _ _
    rw [jf_X12_trusted_L33, show ((0 : Int) : Int).toNat = 0 from rfl, g0]
    by_cases y : (60 : Int) < ((m0 + 1 : Nat) : Int)
    · rw [if_pos y]; exact last
    · rw [if_neg y, if_pos (by omega)]; exact last
theorem kr_trusted {Z : jz_Z} {Ds : Nat → List Int} {a : Nat → Int} {s : jl_Mm} (hz : kz_N Z Ds a) (hN : kr_N Z Ds a s) {v w : Int} (hv : jl_n3 v) (hw : jl_n3 w) : jE (jf_X12_trusted v w s) (kp_trusted Z Ds a v w) kr_FA s (kr_N Z Ds a) := by
  have hl := hN.1.1.l
  have hV0 := hz.1.1
  have h999 := hz.2.2.1
  rw [jf_X12_trusted, hN.1.isL hv, jp_bd, kp_trusted]
  by_cases c : 0 ≤ v ∧ v < ((ks_nl Z : Nat) : Int)
  · obtain ⟨l, rfl⟩ : ∃ l : Nat, v = (l : Int) := ⟨v.toNat, by omega⟩
    rw [if_pos c, if_neg (by decide), jx12_isIn s (jl_n36 hw) ⟨by decide, by decide⟩ ⟨by decide, by decide⟩, jp_bd, Int.toNat_natCast]
    obtain ⟨m0, hm0⟩ : ∃ m0 : Nat, ks_far a = (m0 : Int) := ⟨(ks_far a).toNat, by rw [ks_far]; split <;> omega⟩
    have hm60 : m0 ≤ 60 ∧ a 0 + (m0 : Int) ≤ 999 ∧ (m0 = 60 ∨ a 0 + (m0 : Int) = 999) := by
      rw [ks_far] at hm0
      split at hm0 <;> omega
    by_cases d : 0 ≤ w ∧ w ≤ 1
    · rw [if_pos d, if_neg (by decide), if_pos (show (0 ≤ (l : Int) ∧ (l : Int) < ((ks_nl Z : Nat) : Int)) ∧ (0 ≤ w ∧ w ≤ 1) from ⟨c, d⟩), hm0, Int.toNat_natCast]
      obtain ⟨s1, p1, p2, p3⟩ := kr_aside hN.1 hN.2.1 hN.2.2.1
      rw [p1, jp_bd]
      exact kr_trust (l := l) hz hN (by omega) (by omega) hm60 p2 p3 rfl rfl
    · rw [if_neg d, if_pos rfl, if_neg (show ¬ ((0 ≤ (l : Int) ∧ (l : Int) < ((ks_nl Z : Nat) : Int)) ∧ (0 ≤ w ∧ w ≤ 1)) from fun q => d q.2)]
      exact jE.ret hN
  · rw [if_neg c, if_pos rfl, if_neg (fun q => c q.1)]
    exact jE.ret hN
