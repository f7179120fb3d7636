/-! PURE, the reference's street reader: what hangs, whole -/
theorem jz_ew_K {T : Nat → Int} {e : Nat} {v : Int} {st : jq_S} (z : st.1 ≠ 0) (hv : v ≠ -1) : jz_ew T e v st = st := by
  rw [jz_ew, jq_wn_k z, if_neg (fun y => hv y.symm), jq_flk z]
theorem jz_name_K {T : Nat → Int} {e : Nat} {st : jq_S} (z : st.1 ≠ 0) : (jz_name T e st).1 = st := by
  have : jq_pb T e st = jq_at e st := by
    rw [jq_pb, jq_wb, jq_atk z, if_neg (fun y => absurd y.1 (Nat.lt_irrefl _))]
  rw [jz_name, if_pos (Or.inl this), jq_flk z]
theorem jh_B.k {T : Nat → Int} {e : Nat} {st : jq_S} {Z Z' : jz_Z} {τ : jl_Mm} (h : jh_B T e st Z τ) (z : st.1 ≠ 0) : jh_B T e st Z' τ := ⟨h.1, h.2.1, fun y => absurd y z⟩
theorem jh_hangs {T : Nat → Int} {e : Nat} {st : jq_S} {Z : jz_Z} {s : jl_Mm} (h : jh_B T e st Z s) (h0 : st.1 = 0) (hs : jq_wf T e st) : jE (jf_X12_hangsTold s) 0 jh_FA s (jh_B T e (jz_hangs T e Z st).1 (jz_hangs T e Z st).2) := by
  have he := (h.1.1 h0).1
  have hpe := (h.1.1 h0).pe
  have hat := jq_at0 (e := e) h0
  have hP0 := (h.2.2 h0).1 2 (by decide)
  have hm := h.2.1.2.1
  simp only [Nat.reduceAdd] at hP0
  obtain ⟨r1, ⟨a, a1, a2, a3, a4⟩, a5⟩ := jh_named (k := 1) (w := 4) (Or.inr ⟨rfl, rfl⟩) h hs
  have wA : jq_wf T e (jz_rn (jz_find Z 4 (jz_name T e st).2) (jq_at e st) (jz_name T e st).1) := jz_rn_wf (jz_name_wf hs) hs.at
  simp only [show ((1 : Nat) : Int) = 1 from rfl] at *
  rw [jf_X12_hangsTold, a1, jp_bd, a3.1.m]
  rw [jz_hangs]
  simp only
  generalize jz_rn (jz_find Z 4 (jz_name T e st).2) (jq_at e st) (jz_name T e st).1 = S2 at *
  generalize jz_find Z 4 (jz_name T e st).2 = i at *
  have frs : jp_fr jh_FA s a := a2.w jh_FA1
  have bad : ∀ (S3 : jq_S) (c : jl_Mm), S3.1 ≠ 0 → jh_B T e S3 Z c → jq_wf T e S3 → jp_fr jh_FA s c → ∀ r, jE (jf_X12_hangsTold_B36 r c) 0 jh_FA s (jh_B T e (if i ≤ jz_find Z 4 (jz_name T e (jz_ew T e 7 S3)).2 then jq_fl 3 (jq_at e (jz_ew T e 7 S3)) (jz_rn (jz_find Z 4 (jz_name T e (jz_ew T e 7 S3)).2) (jq_at e (jz_ew T e 7 S3)) (jz_name T e (jz_ew T e 7 S3)).1) else jz_rn (jz_find Z 4 (jz_name T e (jz_ew T e 7 S3)).2) (jq_at e (jz_ew T e 7 S3)) (jz_name T e (jz_ew T e 7 S3)).1) (jz_a Z 6 i (jz_find Z 4 (jz_name T e (jz_ew T e 7 S3)).2))) := by
    intro S3 c z B w fr r
    obtain ⟨d, d1, d2, d3⟩ := jh_hang2 (i := 0) (r1 := r) B w (fun y => absurd y z)
    have := d3 _ rfl
    rw [jz_ew_K z (by decide), jz_name_K z, jz_rn_k z, jq_flk z, ite_self] at this ⊢
    exact ⟨d, d1, fr.tr d2, this.k z⟩
  by_cases z : S2.1 = 0
  · obtain ⟨e1, e2, e3⟩ := a5 z
    have h21 : Z.1 (2 + 1) = Z.1 3 := rfl
    obtain ⟨n, hn⟩ : ∃ n : Nat, i = (n : Int) := ⟨i.toNat, by omega⟩
    have hn8 : n < 8 := by omega
    have base := ((a3.2.2 z).2.2.1 n (by omega)).2.2.2
    have m5 : jl_g a 206 5 = 0 := by rw [a3.1.m, z]; rfl
    rw [if_pos (by omega), e1, hn, jp_mul (by omega) (by omega), jp_add (by omega) (by omega), if_pos (by omega), show (2 * (n : Int) + 1).toNat = 2 * n + 1 by omega, base, Int.toNat_natCast]
    by_cases q : Z.2.1 6 n = -1
    · have e3 : (if 0 ≤ (n : Int) ∧ Z.2.1 6 n ≠ -1 then jq_fl 3 (jq_at e st) S2 else S2) = S2 := if_neg (fun y => y.2 q)
      rw [if_pos q, e3]
      obtain ⟨d, d1, d2, d3⟩ := jh_hang2 (i := n) (r1 := (n : Int)) a3 wA (fun _ => ⟨rfl, hn8⟩)
      exact ⟨d, d1, frs.tr d2, d3 _ rfl⟩
    · have e3 : (if 0 ≤ (n : Int) ∧ Z.2.1 6 n ≠ -1 then jq_fl 3 (jq_at e st) S2 else S2) = jq_fl 3 (jq_at e st) S2 := if_pos ⟨by omega, q⟩
      rw [if_neg q, e3, jh_fail0 m5, jp_bd]
      have fu : jp_fr [(206, 5, 7)] a (jl_up (jl_up a 206 5 3) 206 6 (jl_g a 206 43)) := (jp_fr.rf.up rfl).up rfl
      have B3 : jh_B T e (jq_fl 3 (jq_at e st) S2) Z (jl_up (jl_up a 206 5 3) 206 6 (jl_g a 206 43)) := by
        refine ⟨?_, a3.2.1.fr fu (by intro i; simp [jp_in]), fun y => absurd y (jh_fl_k (by decide))⟩
        rw [a4 z, hat]
        exact jh_K3 a3.1 z (by omega)
      have := bad (jq_fl 3 (jq_at e st) S2) _ (jh_fl_k (by decide)) B3 (wA.fl hs.at (by decide)) ((frs.up (by simp [jp_in, jh_FA])).up (by simp [jp_in, jh_FA])) (n : Int)
      rw [hn] at this
      exact this
  · rw [if_neg (by omega)]
    have e7 : (if 0 ≤ i ∧ Z.2.1 6 i.toNat ≠ -1 then jq_fl 3 (jq_at e st) S2 else S2) = S2 := by
      split
      · exact jq_flk z
      · rfl
    rw [e7]
    exact bad S2 a z a3 wA frs r1
