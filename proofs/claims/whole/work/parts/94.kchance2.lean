/-! PURE, both: chance, undo -/
theorem kd_self {d : kD} {k i : Nat} : kd_u d k i (d k i) = d := by
  funext k' i'
  by_cases c : k' = k
  · subst c
    by_cases e : i' = i
    · subst e; rw [kd_e]
    · rw [kd_ni e]
  · rw [kd_n c]
theorem kIv.seed {Z : jz_Z} {Ds : Nat → List Int} {a : Nat → Int} {d : kD} {nx n : Nat} {v : Int} (hV : kIv Z Ds a d nx n) (hv : 0 ≤ v ∧ v < 2147483648) : kIv Z Ds a (kd_u d 8 0 v) nx n := by
  have e : ∀ k, k ≠ 8 → kd_u d 8 0 v k = d k := fun k h => kd_n h
  have e3 : kd_u d 8 0 v 8 0 = v := kd_e
  obtain ⟨h1, h2, h3, h4, h5, h6, h7, h8, h9⟩ := hV
  refine ⟨h1, h2, ?_, ?_, ?_, ?_, ?_, ?_, fun j hj => ?_⟩
  · rw [e 3 (by decide)]; exact h3
  · rw [e 3 (by decide), e 2 (by decide)]; exact h4
  · rw [e 5 (by decide)]; exact h5
  · rw [e 5 (by decide), e 4 (by decide)]; exact h6
  · rw [e 7 (by decide)]; exact h7
  · rw [e3]; omega
  · rw [e _ (by omega)]; exact h9 j hj
theorem kI_act2 {fc fr : jl_Mm → jl_O} (h : ∀ Z Ds a d nx n, kIv Z Ds a d nx n →
    (∃ r k, k < 6 ∧ (∀ s, kIc Z Ds a d nx n s → fc s = some (r, jl_up s 205 k (jl_add (jl_g s 205 k) 1))) ∧ (∀ s, kIr Z Ds a d nx n s → fr s = some (r, jl_up s 208 k (jl_add (jl_g s 208 k) 1)))) ∨
    (∃ r a' d', kIv Z Ds a' d' ((nx + 1) % 20) (kn_1 n) ∧ (∀ s, kIc Z Ds a d nx n s → ∃ g : Int → jl_Mm → jl_O, fc s = jl_bd (jf_X3_remember 40 44 s) g ∧ ∀ t, kIc Z Ds a (kd_keep d nx a) ((nx + 1) % 20) (kn_1 n) t → jE (g 0 t) r kc_FY t (kIc Z Ds a' d' ((nx + 1) % 20) (kn_1 n))) ∧
      (∀ s, kIr Z Ds a d nx n s → ∃ g : Int → jl_Mm → jl_O, fr s = jl_bd (jf_X12_keeps s) g ∧ ∀ t, kIr Z Ds a (kd_keep d nx a) ((nx + 1) % 20) (kn_1 n) t → jE (g 0 t) r kr_FY t (kIr Z Ds a' d' ((nx + 1) % 20) (kn_1 n))))) : kI_call fc fr := by
  refine kI_mk (fun Z Ds a d nx n hv => ?_)
  rcases h Z Ds a d nx n hv with ⟨r, k, hk, h1, h2⟩ | ⟨r, a', d', hv', h1, h2⟩
  · exact ⟨r, [(205, 0, 0)], [(208, 0, 0)], Z, Ds, a, kd_no d k, nx, n, by intro c i h; simp [jp_in]; omega, by intro c i h; simp [jp_in]; omega, hv.no, fun s hs => ⟨_, h1 s hs, jp_fr.rf.up (by simp [jp_in]), hs.no hk⟩, fun s hs => ⟨_, h2 s hs, jp_fr.rf.up (by simp [jp_in]), hs.no hk⟩⟩
  · have hnx := hv.2.1.1
    refine ⟨r, kc_FS nx ++ kc_FY, kr_FS ++ kr_FY, Z, Ds, a', d', (nx + 1) % 20, kn_1 n, fun c i h => ?_, fun c i h => ?_, hv', fun s hs => ?_, fun s hs => ?_⟩
    · have e : jp_in kc_FY c i = false := by simp [jp_in, kc_FY]; omega
      rw [jp_in_app, kc_FSn (by omega) (by omega), e]; rfl
    · have e : jp_in kr_FS c i = false := by simp [jp_in, kr_FS]; omega
      have e2 : jp_in kr_FY c i = false := by simp [jp_in, kr_FY]; omega
      rw [jp_in_app, e, e2]; rfl
    · obtain ⟨g, g1, g2⟩ := h1 s hs
      obtain ⟨t, t1, t2, t3⟩ := kc_remember hv hs
      obtain ⟨τ, u1, u2, u3⟩ := g2 t t3
      rw [g1, t1, jp_bd, u1]
      exact ⟨τ, rfl, t2.app u2, u3⟩
    · obtain ⟨g, g1, g2⟩ := h2 s hs
      obtain ⟨t, t1, t2, t3⟩ := kr_keeps hv hs
      obtain ⟨τ, u1, u2, u3⟩ := g2 t t3
      rw [g1, t1, jp_bd, u1]
      exact ⟨τ, rfl, t2.app u2, u3⟩
theorem kI_chance {v : Int} (hv : jl_n3 v) : kI_call (jf_X11_chance v) (jf_X12_chance v) := kI_act2 (fun Z Ds a d nx n hV => by
  have h0 := hV.1.1.1
  have hsd := hV.2.2.2.2.2.2.2.1
  by_cases hZ : kz_V Z
  case neg => exact Or.inr ⟨1, a, kd_keep d nx a, hV.keep, fun s hs => absurd hs.N hZ, fun s hs => absurd hs.1.1.1 hZ⟩
  by_cases c : 0 < ks_nw Z ∧ 1 ≤ v ∧ v ≤ 100 ∧ a 0 + v ≤ 999
  · right
    obtain ⟨m, rfl⟩ : ∃ m : Nat, v = (m : Int) := ⟨v.toNat, by omega⟩
    have K := ks_gu_N (Ds := Ds) hZ hV.1 hsd
    have Km := K m (by omega)
    have e8 : kd_u (kd_keep d nx a) 8 0 (d 8 0) = kd_keep d nx a := by
      have := kd_self (d := kd_keep d nx a) (k := 8) (i := 0)
      rwa [kd_keep_n (k := 8) (by decide)] at this
    refine ⟨(ks_gu Z Ds a (d 8 0) m).2.2, (ks_gu Z Ds a (d 8 0) m).1, kd_u (kd_keep d nx a) 8 0 (ks_gu Z Ds a (d 8 0) m).2.1, (hV.keep.a Km.1).seed Km.2.2.1, fun s hs => ?_, fun s hs => ?_⟩
    · obtain ⟨H, ⟨hW, hK, hA⟩, hG⟩ := hs.nA
      have ec : (if 1 ≤ (m : Int) ∧ (m : Int) ≤ 100 ∧ a 0 + (m : Int) ≤ 999 then (1 : Int) else 0) = 1 := if_pos c.2
      refine ⟨fun _ s10 => jf_X11_chance_L46 jl_fu (m : Int) 0 0 s10, by rw [jf_X11_chance, kc_has hW, jp_bd, if_pos c.1, if_neg (by decide), kc_comes hA h0, jp_bd, ec, if_neg (by decide)], fun t ht => ?_⟩
      show jE (jf_X11_chance_L46 jl_fu (m : Int) 0 0 t) _ _ _ _
      refine ku_for (α := jl_Mm) (G := fun k l τ => jf_X11_chance_L46 k (m : Int) (ks_gu Z Ds a (d 8 0) l).2.2 ((l : Nat) : Int) τ) (N := m) (P := fun o => jE o (ks_gu Z Ds a (d 8 0) m).2.2 kc_FY t (kIc Z Ds (ks_gu Z Ds a (d 8 0) m).1 (kd_u (kd_keep d nx a) 8 0 (ks_gu Z Ds a (d 8 0) m).2.1) ((nx + 1) % 20) (kn_1 n))) (I := fun l τ => jp_fr kc_FY t τ ∧ kIc Z Ds (ks_gu Z Ds a (d 8 0) l).1 (kd_u (kd_keep d nx a) 8 0 (ks_gu Z Ds a (d 8 0) l).2.1) ((nx + 1) % 20) (kn_1 n) τ) (fun k l τ hl hI => Or.inr ?_) (fun k τ hI => ?_) m 0 jl_fu t (Nat.zero_add _) (by show m < 4000; omega) ⟨jp_fr.rf, by show kIc Z Ds a (kd_u (kd_keep d nx a) 8 0 (d 8 0)) _ _ t; rw [e8]; exact ht⟩
      · obtain ⟨hf, hI⟩ := hI
        have Kl := K l (by omega)
        obtain ⟨υ, u1, u2, u3⟩ := kc_gu1 (k := k) (l := l) (m := m) hI Kl.1 (by omega) Kl.2.2.1 c.1 hl (by omega) (by omega)
        exact ⟨υ, u1, hf.tr u2, u3⟩
      · show jE (jf_X11_chance_L46 (k + 1) (m : Int) (ks_gu Z Ds a (d 8 0) m).2.2 (m : Int) τ) _ _ _ _
        rw [jf_X11_chance_L46, if_pos (Int.le_refl _)]
        exact ⟨τ, rfl, hI.1, hI.2⟩
    · have hA := hs.1.2.2.1
      have h54 := hs.1.2.2.2.2
      have ec : (if 0 < ks_nw Z ∧ 1 ≤ (m : Int) ∧ (m : Int) ≤ 100 ∧ a 0 + (m : Int) ≤ 999 then (1 : Int) else 0) = 1 := if_pos c
      refine ⟨fun _ s5 => jf_X12_chance_L25 jl_fu (m : Int) 0 0 s5, by rw [jf_X12_chance, kr_ahead h54 hA ⟨h0.1, hV.1.2.2.1⟩ hv (by decide) (by decide), jp_bd, ec, if_neg (by decide)], fun t ht => ?_⟩
      show jE (jf_X12_chance_L25 jl_fu (m : Int) 0 0 t) _ _ _ _
      refine ku_for (α := jl_Mm) (G := fun k l τ => jf_X12_chance_L25 k (m : Int) (ks_gu Z Ds a (d 8 0) l).2.2 ((l : Nat) : Int) τ) (N := m) (P := fun o => jE o (ks_gu Z Ds a (d 8 0) m).2.2 kr_FY t (kIr Z Ds (ks_gu Z Ds a (d 8 0) m).1 (kd_u (kd_keep d nx a) 8 0 (ks_gu Z Ds a (d 8 0) m).2.1) ((nx + 1) % 20) (kn_1 n))) (I := fun l τ => jp_fr kr_FY t τ ∧ kIr Z Ds (ks_gu Z Ds a (d 8 0) l).1 (kd_u (kd_keep d nx a) 8 0 (ks_gu Z Ds a (d 8 0) l).2.1) ((nx + 1) % 20) (kn_1 n) τ) (fun k l τ hl hI => Or.inr ?_) (fun k τ hI => ?_) m 0 jl_fu t (Nat.zero_add _) (by show m < 4000; omega) ⟨jp_fr.rf, by show kIr Z Ds a (kd_u (kd_keep d nx a) 8 0 (d 8 0)) _ _ t; rw [e8]; exact ht⟩
      · obtain ⟨hf, hI⟩ := hI
        have Kl := K l (by omega)
        obtain ⟨υ, u1, u2, u3⟩ := kr_gu1 (k := k) (l := l) (m := m) hI Kl.1 Kl.2.2.1 c.1 hl (by omega) (by omega)
        exact ⟨υ, u1, hf.tr u2, u3⟩
      · show jE (jf_X12_chance_L25 (k + 1) (m : Int) (ks_gu Z Ds a (d 8 0) m).2.2 (m : Int) τ) _ _ _ _
        rw [jf_X12_chance_L25, if_pos (Int.le_refl _)]
        exact ⟨τ, rfl, hI.1, hI.2⟩
  · left
    refine ⟨-1, 3, by decide, fun s hs => ?_, fun s hs => ?_⟩
    · obtain ⟨H, ⟨hW, hK, hA⟩, hG⟩ := hs.nA
      have u : ∀ t, jf_X11_refuse 3 t = _ := fun t => kc_refuse (k := 3) (s := t) (by decide)
      have z : jf_X11_chance_B21 s = some (-1, jl_up s 205 3 (jl_add (jl_g s 205 3) 1)) := by rw [jf_X11_chance_B21, u, jp_bd]
      rw [jf_X11_chance, kc_has hW, jp_bd, z]
      by_cases c1 : 0 < ks_nw Z
      · have ec : (if 1 ≤ v ∧ v ≤ 100 ∧ a 0 + v ≤ 999 then (1 : Int) else 0) = 0 := if_neg (fun q => c ⟨c1, q⟩)
        rw [if_pos c1, if_neg (by decide), kc_comes hA h0, jp_bd, ec, if_pos rfl, z]
      · rw [if_neg c1, if_pos rfl]
    · have hA := hs.1.2.2.1
      have h54 := hs.1.2.2.2.2
      have u : ∀ t, jf_X12_refuses 3 t = _ := fun t => kr_refuses (k := 3) (s := t) (by decide)
      have ec : (if 0 < ks_nw Z ∧ 1 ≤ v ∧ v ≤ 100 ∧ a 0 + v ≤ 999 then (1 : Int) else 0) = 0 := if_neg c
      rw [jf_X12_chance, kr_ahead h54 hA ⟨h0.1, hV.1.2.2.1⟩ hv (by decide) (by decide), jp_bd, ec, if_pos rfl, u, jp_bd])
