/-! PURE, the reference's street reader: names told, names new -/
theorem jh_Fo {c i : Nat} (h : c ≠ 206) : jp_in jh_F c i = false := by
  simp [jp_in, jh_F]; omega
theorem jh_B.st {T : Nat → Int} {e : Nat} {st st' : jq_S} {Z : jz_Z} {s τ : jl_Mm} (h : jh_B T e st Z s) (f : jp_fr jh_F s τ) (hL : jh_L T e st' τ) (hk : st.1 ≠ 0 → st'.1 ≠ 0) : jh_B T e st' Z τ := by
  refine ⟨hL, h.2.1.fr f (fun i => jh_Fo (by decide)), fun z => ?_⟩
  have z0 : st.1 = 0 := Classical.byContradiction (fun y => hk y z)
  exact (h.2.2 z0).fr f (fun c i h1 h2 => jh_Fo (by omega))
theorem jh_nnk {Z : jz_Z} {s : jl_Mm} {k w : Nat} (hk : (k = 0 ∧ w = 1) ∨ (k = 1 ∧ w = 4)) (h : jh_R Z s) (m : jh_M s) : jh_nn s k (Z.1 (2 + k)).toNat (Z.2.2 w) := by
  rcases hk with ⟨rfl, rfl⟩ | ⟨rfl, rfl⟩
  · exact jh_nn0 h m
  · exact jh_nn1 h m
theorem jz_findk {Z : jz_Z} {k w : Nat} {u : List Int} (hk : (k = 0 ∧ w = 1) ∨ (k = 1 ∧ w = 4)) : jz_find Z w u = jz_fi (Z.2.2 w) u (Z.1 (2 + k)).toNat 0 := by
  rcases hk with ⟨rfl, rfl⟩ | ⟨rfl, rfl⟩ <;> rfl
theorem jh_Mk {s : jl_Mm} {k w : Nat} (hk : (k = 0 ∧ w = 1) ∨ (k = 1 ∧ w = 4)) (m : jh_M s) : ∃ N : Nat, jl_g s 241 (1 + k) = (N : Int) ∧ N ≤ 8 := by
  obtain ⟨m1, m2, m3⟩ := m
  rcases hk with ⟨rfl, rfl⟩ | ⟨rfl, rfl⟩
  · exact ⟨(jl_g s 241 1).toNat, by rw [show 1 + 0 = 1 from rfl]; omega, by omega⟩
  · exact ⟨(jl_g s 241 2).toNat, by rw [show 1 + 1 = 2 from rfl]; omega, by omega⟩
theorem jh_K3 {T : Nat → Int} {e : Nat} {st : jq_S} {s : jl_Mm} {a : Nat} (h : jh_L T e st s) (h0 : st.1 = 0) (ha : a ≤ 2000) : jh_L T e (jq_fl 3 a st) (jl_up (jl_up s 206 5 3) 206 6 (a : Int)) := by
  rw [jq_fl0 h0]
  refine ⟨fun y => absurd y (Nat.succ_ne_zero 2), fun _ => ⟨by show (3 : Nat) ≠ 0; decide, ?_, ?_⟩⟩
  · rw [jp_g_nei (by decide), jp_g_eq (by decide) (by decide)]; rfl
  · rw [jp_g_eq (by omega) (by omega)]
theorem jh_fl_k {k p : Nat} {st : jq_S} (h : k ≠ 0) : (jq_fl k p st).1 ≠ 0 := by
  rw [jq_fl]
  split
  · exact h
  · assumption
theorem jh_named {T : Nat → Int} {e k w : Nat} {st : jq_S} {Z : jz_Z} {s : jl_Mm} (hk : (k = 0 ∧ w = 1) ∨ (k = 1 ∧ w = 4)) (h : jh_B T e st Z s) (hs : jq_wf T e st) : ∃ r, jE (jf_X12_named (k : Int) s) r jh_F s (fun τ => jh_B T e (jz_rn (jz_find Z w (jz_name T e st).2) (jq_at e st) (jz_name T e st).1) Z τ ∧ ((jz_rn (jz_find Z w (jz_name T e st).2) (jq_at e st) (jz_name T e st).1).1 = 0 → jl_g τ 206 43 = (st.2.1 : Int))) ∧ ((jz_rn (jz_find Z w (jz_name T e st).2) (jq_at e st) (jz_name T e st).1).1 = 0 → r = jz_find Z w (jz_name T e st).2 ∧ 0 ≤ r ∧ r < Z.1 (2 + k)) := by
  have hk2 : k = 0 ∨ k = 1 := by omega
  obtain ⟨r1, ⟨a, a1, a2, a3, a4⟩, a5⟩ := jh_name h.1
  have Ba := h.st a2 a3 (fun z => jz_name_k z)
  rw [jf_X12_named, a1, jp_bd]
  by_cases z : (jz_name T e st).1.1 = 0
  · have z0 : st.1 = 0 := Classical.byContradiction (fun y => jz_name_k y z)
    have he := (h.1.1 z0).1
    have hpe := (h.1.1 z0).pe
    have h43 := a4 z
    obtain ⟨e1, e2⟩ := a5 z
    have hN := jh_nnk hk (Ba.2.2 z) Ba.2.1
    have h5 : jl_g a 206 5 = 0 := by rw [a3.m, z]; rfl
    rw [e1, jz_findk hk]
    obtain ⟨f1, f2⟩ := jh_fiL hk2 hN e2 h5 _ jl_fu 0 (by rw [Nat.zero_add]) (by have := hN.2.1; show _ < 4000; omega)
    rw [show ((0 : Nat) : Int) = 0 from rfl] at f1 f2
    by_cases q : jz_fi (Z.2.2 w) (jz_name T e st).2 (Z.1 (2 + k)).toNat 0 = -1
    · rw [f2 q, jz_rn, if_pos q]
      have hf : (jq_fl 3 (jq_at e st) (jz_name T e st).1).1 ≠ 0 := jh_fl_k (by decide)
      refine ⟨_, ⟨_, rfl, (a2.up (by decide)).up (by decide), Ba.st ((jp_fr.rf.up (by decide)).up (by decide)) ?_ (fun _ => hf), fun y => absurd y hf⟩, fun y => absurd y hf⟩
      rw [h43, ← jq_at0 (e := e) z0]
      exact jh_K3 a3 z (by rw [jq_at0 z0]; omega)
    · rw [f1 q, jz_rn, if_neg q]
      refine ⟨_, ⟨a, rfl, a2, Ba, fun _ => h43⟩, fun _ => ⟨rfl, ?_⟩⟩
      rcases jz_fi_b (Z.2.2 w) (jz_name T e st).2 (Z.1 (2 + k)).toNat 0 with y | ⟨y1, y2⟩
      · exact absurd y q
      · omega
  · obtain ⟨N, n1, n2⟩ := jh_Mk hk Ba.2.1
    have h5 : jl_g a 206 5 ≠ 0 := by rw [a3.m]; omega
    obtain ⟨r, e1⟩ := jh_fiK (v := r1) hk2 n1 n2 h5 N jl_fu 0 (by rw [Nat.zero_add]) (by show _ < 4000; omega)
    rw [show ((0 : Nat) : Int) = 0 from rfl] at e1
    rw [e1, jz_rn_k z]
    exact ⟨r, ⟨a, rfl, a2, Ba, fun y => absurd y z⟩, fun y => absurd y z⟩
theorem jh_new7 {n : Nat} {v : Int} {s : jl_Mm} : jf_X12_newName_L7 (n + 1) v ((2 : Nat) : Int) s = some (v, s) := by
  rw [jf_X12_newName_L7, if_pos (by decide)]
theorem jh_n7 {n k : Nat} {v : Int} {s : jl_Mm} (hk : k < 2) : jf_X12_newName_L7 (n + 1) v ((k : Nat) : Int) s = jf_X12_newName_L15 (jf_X12_newName_L7 n) jl_fu v ((k : Nat) : Int) 0 s := by
  rw [jf_X12_newName_L7, if_neg (by omega)]
theorem jh_newName {T : Nat → Int} {e : Nat} {st : jq_S} {Z : jz_Z} {s : jl_Mm} (h : jh_B T e st Z s) (hs : jq_wf T e st) : ∃ r, jE (jf_X12_newName s) r jh_F s (fun τ => jh_B T e (jz_rk Z (jz_name T e st).2 (jq_at e st) (jz_name T e st).1) Z τ) ∧ ((jz_rk Z (jz_name T e st).2 (jq_at e st) (jz_name T e st).1).1 = 0 → r = jh_cn (jz_name T e st).2 ∧ jz_vn (jz_name T e st).2) := by
  obtain ⟨r1, ⟨a, a1, a2, a3, a4⟩, a5⟩ := jh_name h.1
  have Ba := h.st a2 a3 (fun z => jz_name_k z)
  obtain ⟨n, hn⟩ : ∃ n, jl_fu = n + 1 + 1 + 1 := ⟨3997, rfl⟩
  have key : jf_X12_newName_L7 (n + 1 + 1 + 1) r1 0 a = jf_X12_newName_L15 (jf_X12_newName_L7 (n + 1 + 1)) jl_fu r1 0 0 a := jh_n7 (k := 0) (by decide)
  have fu8 : ∀ x : Nat, x ≤ 8 → x < jl_fu := fun x hx => by show x < 4000; omega
  rw [jf_X12_newName, a1, jp_bd, hn, key]
  by_cases z : (jz_name T e st).1.1 = 0
  · have z0 : st.1 = 0 := Classical.byContradiction (fun y => jz_name_k y z)
    have he := (h.1.1 z0).1
    have hpe := (h.1.1 z0).pe
    have h43 := a4 z
    obtain ⟨e1, e2⟩ := a5 z
    have N0 := jh_nn0 (Ba.2.2 z) Ba.2.1
    have N1 := jh_nn1 (Ba.2.2 z) Ba.2.1
    have h5 : jl_g a 206 5 = 0 := by rw [a3.m, z]; rfl
    have L0 := jh_newL (R7 := jf_X12_newName_L7 (n + 1 + 1)) (Or.inl rfl) N0 e2 h5 _ jl_fu 0 (by rw [Nat.zero_add]) (fu8 _ N0.2.1)
    rw [show ((0 : Nat) : Int) = 0 from rfl] at L0
    rw [e1, L0, jh_n7 (by decide), jz_rk, show jz_find Z 1 (jz_name T e st).2 = jz_fi (Z.2.2 1) (jz_name T e st).2 (Z.1 2).toNat 0 from rfl, show jz_find Z 4 (jz_name T e st).2 = jz_fi (Z.2.2 4) (jz_name T e st).2 (Z.1 3).toNat 0 from rfl]
    have hf : (jq_fl 3 (jq_at e st) (jz_name T e st).1).1 ≠ 0 := jh_fl_k (by decide)
    have K3 : jh_L T e (jq_fl 3 (jq_at e st) (jz_name T e st).1) (jl_up (jl_up a 206 5 3) 206 6 (jl_g a 206 43)) := by
      rw [h43, ← jq_at0 (e := e) z0]
      exact jh_K3 a3 z (by rw [jq_at0 z0]; omega)
    have fu : jp_fr jh_F a (jl_up (jl_up a 206 5 3) 206 6 (jl_g a 206 43)) := (jp_fr.rf.up (by decide)).up (by decide)
    have bad : ∃ r, jE (some (jh_cn (jz_name T e st).2, jl_up (jl_up a 206 5 3) 206 6 (jl_g a 206 43))) r jh_F s (fun τ => jh_B T e (jq_fl 3 (jq_at e st) (jz_name T e st).1) Z τ) ∧ ((jq_fl 3 (jq_at e st) (jz_name T e st).1).1 = 0 → r = jh_cn (jz_name T e st).2 ∧ jz_vn (jz_name T e st).2) := ⟨_, ⟨_, rfl, a2.tr fu, Ba.st fu K3 (fun _ => hf)⟩, fun y => absurd y hf⟩
    by_cases q1 : jz_fi (Z.2.2 1) (jz_name T e st).2 (Z.1 2).toNat 0 = -1
    · rw [if_pos q1]
      have L1 := jh_newL (R7 := jf_X12_newName_L7 (n + 1)) (Or.inr rfl) N1 e2 h5 _ jl_fu 0 (by rw [Nat.zero_add]) (fu8 _ N1.2.1)
      rw [show ((0 : Nat) : Int) = 0 from rfl] at L1
      rw [show ((0 + 1 : Nat) : Int) = ((1 : Nat) : Int) from rfl, L1, show ((1 + 1 : Nat) : Int) = ((2 : Nat) : Int) from rfl, jh_new7]
      by_cases q2 : jz_fi (Z.2.2 4) (jz_name T e st).2 (Z.1 3).toNat 0 = -1
      · rw [if_pos q2, if_neg (by rintro (y | y); exact y q1; exact y q2)]
        exact ⟨_, ⟨a, rfl, a2, Ba⟩, fun _ => ⟨rfl, e2⟩⟩
      · rw [if_neg q2, if_pos (Or.inr q2)]
        exact bad
    · rw [if_neg q1, if_pos (Or.inl q1)]
      obtain ⟨N, n1, n2⟩ := jh_Mk (Or.inr ⟨rfl, rfl⟩) Ba.2.1
      rw [show ((0 + 1 : Nat) : Int) = ((1 : Nat) : Int) from rfl]
      have L1 := jh_newK (R7 := jf_X12_newName_L7 (n + 1)) (k := 1) (N := N) (v := jh_cn (jz_name T e st).2) (s := jl_up (jl_up a 206 5 3) 206 6 (jl_g a 206 43)) (Or.inr rfl) (by rw [jp_g_ne (by decide), jp_g_ne (by decide)]; exact n1) n2 (by rw [jp_g_nei (by decide), jp_g_eq (by decide) (by decide)]; decide) N jl_fu 0 (by rw [Nat.zero_add]) (fu8 _ (by assumption))
      rw [show ((0 : Nat) : Int) = 0 from rfl] at L1
      rw [L1, show ((1 + 1 : Nat) : Int) = ((2 : Nat) : Int) from rfl, jh_new7]
      exact bad
  · obtain ⟨N, n1, n2⟩ := jh_Mk (Or.inl ⟨rfl, rfl⟩) Ba.2.1
    obtain ⟨M, m1, m2⟩ := jh_Mk (Or.inr ⟨rfl, rfl⟩) Ba.2.1
    have h5 : jl_g a 206 5 ≠ 0 := by rw [a3.m]; omega
    have L0 := jh_newK (R7 := jf_X12_newName_L7 (n + 1 + 1)) (v := r1) (Or.inl rfl) n1 n2 h5 N jl_fu 0 (by rw [Nat.zero_add]) (fu8 _ (by assumption))
    have L1 := jh_newK (R7 := jf_X12_newName_L7 (n + 1)) (v := r1) (Or.inr rfl) m1 m2 h5 M jl_fu 0 (by rw [Nat.zero_add]) (fu8 _ (by assumption))
    rw [show ((0 : Nat) : Int) = 0 from rfl] at L0 L1
    rw [L0, jh_n7 (by decide), show ((0 + 1 : Nat) : Int) = ((1 : Nat) : Int) from rfl, L1, show ((1 + 1 : Nat) : Int) = ((2 : Nat) : Int) from rfl, jh_new7, jz_rk_k z]
    exact ⟨r1, ⟨a, rfl, a2, Ba⟩, fun y => absurd y z⟩
