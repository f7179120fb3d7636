/-! PURE, both: end, seed, see -/
theorem kIc.M {Z : jz_Z} {Ds : Nat → List Int} {a : Nat → Int} {d : kD} {nx n : Nat} {s : jl_Mm} (h : kIc Z Ds a d nx n s) : kc_M d s := by obtain ⟨_, _, -, -, -, -, hM, -⟩ := h; exact hM
theorem kI_end {v : Int} : kI_call (jf_X11_end v) (jf_X12_end v) := kI_mk (fun Z Ds a d nx n hV => by
  have h3 := hV.2.2.1
  by_cases c : 0 ≤ v ∧ v ≤ d 3 0
  · have e : ∀ k, k ≠ 3 → kd_u d 3 0 v k = d k := fun k h => kd_n h
    have e3 : kd_u d 3 0 v 3 0 = v := kd_e
    refine ⟨1, [(1, 1, 2)], [(206, 1, 2)], Z, Ds, a, kd_u d 3 0 v, nx, n, by intro c i h; simp [jp_in]; omega, by intro c i h; simp [jp_in]; omega, ?_, fun s hs => ?_, fun s hs => ?_⟩
    · obtain ⟨h1, h2, h3, h4, h5, h6, h7, h8, h9⟩ := hV
      refine ⟨h1, h2, ?_, ?_, ?_, ?_, ?_, ?_, fun j hj => ?_⟩
      · rw [e3]; omega
      · rw [e3, e 2 (by decide)]; intro i hi; exact h4 i (by omega)
      · rw [e 5 (by decide)]; exact h5
      · rw [e 5 (by decide), e 4 (by decide)]; exact h6
      · rw [e 7 (by decide)]; exact h7
      · rw [e 8 (by decide)]; exact h8
      · rw [e _ (by omega)]; exact h9 j hj
    · have M := hs.M
      rw [jf_X11_end, if_neg (by omega), M.2.2.1.1, if_pos c.2, jp_lm, jp_zb1]
      have f : jp_fr [(1, 1, 2)] s (jl_up s 1 1 v) := jp_fr.rf.up (by decide)
      have nf : ∀ {c i : Nat}, c ≠ 1 → jp_in [(1, 1, 2)] c i = false := by intro c i h; simp [jp_in]; omega
      refine ⟨_, rfl, f, hs.m f (fun c i h1 h2 => nf (by omega)) ⟨by decide, by decide⟩ (fun k hk => e k (by omega)) ?_⟩
      obtain ⟨h1, h2, h3, h4, h5, h6⟩ := M
      refine ⟨?_, ?_, ?_, ?_, ?_, ?_⟩
      · rw [e 0 (by decide)]; intro i hi; rw [f.g _ _ (nf (by decide))]; exact h1 i hi
      · rw [e 1 (by decide), f.g _ _ (nf (by decide)), f.g _ _ (nf (by decide))]; exact h2
      · rw [e3, e 2 (by decide)]; exact ⟨jp_g_eq (by omega) (by omega), fun i hi => (f.g _ _ (nf (by decide))).trans (h3.2 i (by omega))⟩
      · rw [e 5 (by decide), e 4 (by decide), f.g _ _ (nf (by decide))]; exact ⟨h4.1, fun i hi => (f.g _ _ (nf (by decide))).trans (h4.2 i hi)⟩
      · rw [e 7 (by decide), e 6 (by decide), f.g _ _ (nf (by decide))]; exact ⟨h5.1, fun i hi => (f.g _ _ (nf (by decide))).trans (h5.2 i hi)⟩
      · rw [e 8 (by decide), f.g _ _ (nf (by decide))]; exact h6
    · have M := hs.2.1
      rw [jf_X12_end, if_neg (by omega), M.2.2.1.1, if_pos c.2, jp_lm, jp_zb1]
      have f : jp_fr [(206, 1, 2)] s (jl_up s 206 1 v) := jp_fr.rf.up (by decide)
      have nf : ∀ {c i : Nat}, (c = 206 → i ≠ 1) → jp_in [(206, 1, 2)] c i = false := by intro c i h; simp [jp_in]; omega
      refine ⟨_, rfl, f, hs.m f (fun c i h1 h2 => nf (by omega)) (fun c i h1 h2 => nf (by omega)) ⟨by decide, by decide, by decide, by decide⟩ (fun k hk => e k (by omega)) ?_⟩
      obtain ⟨h1, h2, h3, h4, h5, h6⟩ := M
      refine ⟨?_, ?_, ?_, ?_, ?_, ?_⟩
      · rw [e 0 (by decide)]; intro i hi; rw [f.g _ _ (nf (by intro z; omega))]; exact h1 i hi
      · rw [e 1 (by decide), f.g _ _ (nf (by decide)), f.g _ _ (nf (by decide))]; exact h2
      · rw [e3, e 2 (by decide)]; exact ⟨jp_g_eq (by omega) (by omega), fun i hi => (f.g _ _ (nf (by intro z; omega))).trans (h3.2 i (by omega))⟩
      · rw [e 5 (by decide), e 4 (by decide), f.g _ _ (nf (by decide))]; exact ⟨h4.1, fun i hi => (f.g _ _ (nf (by intro z; omega))).trans (h4.2 i hi)⟩
      · rw [e 7 (by decide), e 6 (by decide), f.g _ _ (nf (by decide))]; exact ⟨h5.1, fun i hi => (f.g _ _ (nf (by intro z; omega))).trans (h5.2 i hi)⟩
      · rw [e 8 (by decide), f.gl _ _ (nf (by decide))]; exact h6
  · refine ⟨0, [(205, 0, 0)], [(208, 0, 0)], Z, Ds, a, kd_no d 0, nx, n, by intro c i h; simp [jp_in]; omega, by intro c i h; simp [jp_in]; omega, hV.no, fun s hs => ?_, fun s hs => ?_⟩
    · have u : jf_X11_deny 0 s = _ := kc_deny (k := 0) (s := s) (by decide)
      have e : jf_X11_end v s = jf_X11_end_B15 s := by
        rw [jf_X11_end, hs.M.2.2.1.1]
        by_cases c0 : v < 0
        · rw [if_pos c0]
        · rw [if_neg c0, if_neg (by omega)]
      rw [e, jf_X11_end_B15, u, jp_bd, jp_zb0]
      exact ⟨_, rfl, jp_fr.rf.up (by decide), hs.no (by decide)⟩
    · have e : jf_X12_end v s = jf_X12_end_B12 s := by
        rw [jf_X12_end, hs.2.1.2.2.1.1]
        by_cases c0 : v < 0
        · rw [if_pos c0]
        · rw [if_neg c0, if_neg (by omega)]
      rw [e, jf_X12_end_B12, jp_lm, jp_zb0]
      exact ⟨_, rfl, jp_fr.rf.up (by decide), hs.no (by decide)⟩)
theorem kI_seed {v : Int} (hv : jl_n3 v) : kI_call (jf_X11_seed v) (jf_X12_seed v) := kI_mk (fun Z Ds a d nx n hV => by
  by_cases c : 0 ≤ v
  · have e : ∀ k, k ≠ 8 → kd_u d 8 0 v k = d k := fun k h => kd_n h
    have e3 : kd_u d 8 0 v 8 0 = v := kd_e
    have hv2 := hv.2
    refine ⟨1, [(0, 17, 18)], [(206, 74, 75)], Z, Ds, a, kd_u d 8 0 v, nx, n, by intro c i h; simp [jp_in]; omega, by intro c i h; simp [jp_in]; omega, ?_, fun s hs => ?_, fun s hs => ?_⟩
    · obtain ⟨h1, h2, h3, h4, h5, h6, h7, h8, h9⟩ := hV
      refine ⟨h1, h2, ?_, ?_, ?_, ?_, ?_, ?_, fun j hj => ?_⟩
      · rw [e 3 (by decide)]; exact h3
      · rw [e 3 (by decide), e 2 (by decide)]; exact h4
      · rw [e 5 (by decide)]; exact h5
      · rw [e 5 (by decide), e 4 (by decide)]; exact h6
      · rw [e 7 (by decide)]; exact h7
      · rw [e3]; omega
      · rw [e _ (by omega)]; exact h9 j hj
    · have M := hs.M
      rw [jf_X11_seed, if_pos c, jp_lm, jp_zb1]
      have f : jp_fr [(0, 17, 18)] s (jl_up s 0 17 v) := jp_fr.rf.up (by decide)
      have nf : ∀ {c i : Nat}, (c = 0 → i ≠ 17) → jp_in [(0, 17, 18)] c i = false := by intro c i h; simp [jp_in]; omega
      refine ⟨_, rfl, f, hs.m f (fun c i h1 h2 => nf (by omega)) ⟨by decide, by decide⟩ (fun k hk => e k (by omega)) ?_⟩
      obtain ⟨h1, h2, h3, h4, h5, h6⟩ := M
      refine ⟨?_, ?_, ?_, ?_, ?_, ?_⟩
      · rw [e 0 (by decide)]; intro i hi; rw [f.g _ _ (nf (by intro z; omega))]; exact h1 i hi
      · rw [e 1 (by decide), f.g _ _ (nf (by decide)), f.g _ _ (nf (by decide))]; exact h2
      · rw [e 3 (by decide), e 2 (by decide), f.g _ _ (nf (by decide))]; exact ⟨h3.1, fun i hi => (f.g _ _ (nf (by intro z; omega))).trans (h3.2 i hi)⟩
      · rw [e 5 (by decide), e 4 (by decide), f.g _ _ (nf (by decide))]; exact ⟨h4.1, fun i hi => (f.g _ _ (nf (by intro z; omega))).trans (h4.2 i hi)⟩
      · rw [e 7 (by decide), e 6 (by decide), f.g _ _ (nf (by decide))]; exact ⟨h5.1, fun i hi => (f.g _ _ (nf (by intro z; omega))).trans (h5.2 i hi)⟩
      · rw [e3]; exact jp_g_eq (by omega) (by omega)
    · have M := hs.2.1
      rw [jf_X12_seed, if_pos c, jp_lm, jp_zb1]
      have f : jp_fr [(206, 74, 75)] s (jl_up s 206 74 v) := jp_fr.rf.up (by decide)
      have nf : ∀ {c i : Nat}, (c = 206 → i ≠ 74) → jp_in [(206, 74, 75)] c i = false := by intro c i h; simp [jp_in]; omega
      refine ⟨_, rfl, f, hs.m f (fun c i h1 h2 => nf (by omega)) (fun c i h1 h2 => nf (by omega)) ⟨by decide, by decide, by decide, by decide⟩ (fun k hk => e k (by omega)) ?_⟩
      obtain ⟨h1, h2, h3, h4, h5, h6⟩ := M
      refine ⟨?_, ?_, ?_, ?_, ?_, ?_⟩
      · rw [e 0 (by decide)]; intro i hi; rw [f.g _ _ (nf (by intro z; omega))]; exact h1 i hi
      · rw [e 1 (by decide), f.g _ _ (nf (by decide)), f.g _ _ (nf (by decide))]; exact h2
      · rw [e 3 (by decide), e 2 (by decide), f.g _ _ (nf (by decide))]; exact ⟨h3.1, fun i hi => (f.g _ _ (nf (by intro z; omega))).trans (h3.2 i hi)⟩
      · rw [e 5 (by decide), e 4 (by decide), f.g _ _ (nf (by decide))]; exact ⟨h4.1, fun i hi => (f.g _ _ (nf (by intro z; omega))).trans (h4.2 i hi)⟩
      · rw [e 7 (by decide), e 6 (by decide), f.g _ _ (nf (by decide))]; exact ⟨h5.1, fun i hi => (f.g _ _ (nf (by intro z; omega))).trans (h5.2 i hi)⟩
      · rw [e3]; exact jp_gl_eq (by omega) (by omega)
  · refine ⟨0, [(205, 0, 0)], [(208, 0, 0)], Z, Ds, a, kd_no d 5, nx, n, by intro c i h; simp [jp_in]; omega, by intro c i h; simp [jp_in]; omega, hV.no, fun s hs => ?_, fun s hs => ?_⟩
    · have u : jf_X11_deny 5 s = _ := kc_deny (k := 5) (s := s) (by decide)
      rw [jf_X11_seed, if_neg c, u, jp_bd, jp_zb0]
      exact ⟨_, rfl, jp_fr.rf.up (by decide), hs.no (by decide)⟩
    · have u : jf_X12_isRefused 5 s = _ := kr_isRefused (k := 5) (s := s) (by decide)
      rw [jf_X12_seed, if_neg c, u, jp_bd, jp_zb0]
      exact ⟨_, rfl, jp_fr.rf.up (by decide), hs.no (by decide)⟩)
