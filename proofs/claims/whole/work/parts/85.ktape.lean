/-! PURE, both: the tape, refusals, feed, end, seed -/
theorem jp_tb_ushr {x : Int} {b j : Nat} (hb : b < 32) : jp_tb (jl_ushr x (b : Int)) j = jp_tb x (b + j) := by
  have h : ∀ b, b < 32 → ((jl_i3 ((b : Nat) : Int)).toUInt32 &&& Int32.toUInt32 31).toBitVec % 32 = BitVec.ofNat 32 b := by decide +kernel
  have e : (BitVec.ofNat 32 b).toNat = b := by rw [BitVec.toNat_ofNat]; omega
  rw [jp_tb, jp_tb, jl_ushr, jl_i3_to]
  show (((jl_i3 x).toUInt32 >>> ((jl_i3 (b : Int)).toUInt32 &&& Int32.toUInt32 31)).toBitVec).getLsbD j = _
  rw [UInt32.toBitVec_shiftRight, h b hb, BitVec.ushiftRight_eq', BitVec.getLsbD_ushiftRight, e]
  rfl
theorem ku_tb255 : ∀ j, j < 32 → jp_tb 255 j = decide (j < 8) := by decide +kernel
theorem ku_by {x : Int} {b : Nat} (hb : b ≤ 24) : jl_and (jl_ushr x (b : Int)) 255 = jl_and (jl_shr x (b : Int)) 255 := by
  refine jp_ext (jp_and_n _ _) (jp_and_n _ _) (fun j hj => ?_)
  rw [jp_tb_and, jp_tb_and, ku_tb255 j hj]
  by_cases c : j < 8
  · rw [jp_tb_ushr (by omega), jp_tb_shr (by omega) (by omega)]
  · rw [decide_eq_false c, Bool.and_false, Bool.and_false]
theorem ku_255 (x : Int) : 0 ≤ jl_and x 255 ∧ jl_and x 255 ≤ 255 := by
  rw [jl_and]
  generalize jl_i3 x = X
  have h : (X &&& jl_i3 255).toBitVec.toNat ≤ 255 := by
    rw [Int32.toBitVec_and, BitVec.toNat_and]
    exact Nat.le_trans Nat.and_le_right (by decide +kernel)
  have e : (X &&& jl_i3 255).toInt = ((X &&& jl_i3 255).toBitVec.toNat : Int) := BitVec.toInt_eq_toNat_of_lt (by omega)
  rw [e]; omega
/-- what changes of all that stands -/
def kd_u (d : kD) (k i : Nat) (v : Int) : kD := fun k' => if k' = k then ks_u (d k) i v else d k'
theorem kd_e {d : kD} {k i : Nat} {v : Int} : kd_u d k i v k i = v := by rw [kd_u, if_pos rfl]; exact ks_ue
theorem kd_n {d : kD} {k k' i : Nat} {v : Int} (h : k' ≠ k) : kd_u d k i v k' = d k' := by rw [kd_u, if_neg h]
theorem kd_ni {d : kD} {k i i' : Nat} {v : Int} (h : i' ≠ i) : kd_u d k i v k i' = d k i' := by rw [kd_u, if_pos rfl]; exact ks_un h
theorem kIc.m {Z : jz_Z} {Ds : Nat → List Int} {a : Nat → Int} {d d' : kD} {nx n : Nat} {s τ : jl_Mm} {F : jp_F} (h : kIc Z Ds a d nx n s) (f : jp_fr F s τ) (w : ∀ c i, 3 ≤ c → c < 191 → jp_in F c i = false) (w2 : jp_in F 0 2 = false ∧ jp_in F 0 3 = false) (hd : ∀ k, 10 ≤ k → d' k = d k) (hM : kc_M d' τ) : kIc Z Ds a d' nx n τ := by
  obtain ⟨H, G, ⟨hW, hK, hA⟩, hG, ⟨g1, g2, g3⟩, hc, -, hP⟩ := h
  refine ⟨H, G, ⟨hW.fr f w2.1 (w _ _ (by omega) (by omega)) (fun c i _ _ => w _ _ (by omega) (by omega)), hK.fr hW.2.1 f (fun c i _ _ => w _ _ (by omega) (by omega)), hA.fr f (w _ _ (by omega) (by omega)) (w _ _ (by omega) (by omega)) (fun c i _ _ => w _ _ (by omega) (by omega))⟩, hG.fr f (fun c i _ _ => w _ _ (by omega) (by omega)), ⟨(f _ _ w2.2).trans g1, g2, g3⟩, fun q hq => ?_, hM, ?_⟩
  · obtain ⟨v, hv, e⟩ := hc q hq
    exact ⟨v, hv, (f.g _ _ (w _ _ (by omega) (by omega))).trans e⟩
  · obtain ⟨p1, p2, p3⟩ := hP.fr f (fun c i _ _ => w _ _ (by omega) (by omega))
    refine ⟨p1, p2, fun j hj => ?_⟩
    rw [hd _ (by omega)]; exact p3 j hj
/-- the reference's cells behind its street, its hour, its past -/
theorem kIr.m {Z : jz_Z} {Ds : Nat → List Int} {a : Nat → Int} {d d' : kD} {nx n : Nat} {s τ : jl_Mm} {F : jp_F} (h : kIr Z Ds a d nx n s) (f : jp_fr F s τ) (w : ∀ c i, 209 ≤ c → c < 253 → jp_in F c i = false) (w1 : ∀ c i, 254 ≤ c → c < 282 → jp_in F c i = false) (w2 : jp_in F 206 54 = false ∧ jp_in F 206 63 = false ∧ jp_in F 206 72 = false ∧ jp_in F 206 73 = false) (hd : ∀ k, 10 ≤ k → d' k = d k) (hM : kr_M d' τ) : kIr Z Ds a d' nx n τ := by
  obtain ⟨hN, -, ⟨h1, h2, h3⟩, hW, hn⟩ := h
  refine ⟨hN.fr f (fun c i _ _ => w _ _ (by omega) (by omega)) ⟨w2.2.1, w2.1⟩, hM, ⟨(f.g _ _ w2.2.2.2).trans h1, (f.g _ _ w2.2.2.1).trans h2, fun j hj i hi => ?_⟩, hW.fr f (fun c i hc => ?_), ?_⟩
  · rw [hd _ (by omega)]; exact (f.g _ _ (w1 _ _ (by omega) (by omega))).trans (h3 j hj i hi)
  · rcases hc with hc | hc
    · exact w _ _ (by omega) (by omega)
    · exact w1 _ _ (by omega) (by omega)
  · exact ⟨fun i hi => ⟨(f.gl _ _ (w _ _ (by omega) (by omega))).trans (hn.1 i hi).1, (hn.1 i hi).2⟩, fun i hi => ⟨(f.gl _ _ (w _ _ (by omega) (by omega))).trans (hn.2 i hi).1, (hn.2 i hi).2⟩⟩
/-- a refusal -/
def kd_no (d : kD) (k : Nat) : kD := kd_u d 0 k (jl_add (d 0 k) 1)
theorem kIv.no {Z : jz_Z} {Ds : Nat → List Int} {a : Nat → Int} {d : kD} {nx n k : Nat} (h : kIv Z Ds a d nx n) : kIv Z Ds a (kd_no d k) nx n := by
  have e : ∀ k', k' ≠ 0 → kd_no d k k' = d k' := fun k' h => kd_n h
  obtain ⟨h1, h2, h3, h4, h5, h6, h7, h8, h9⟩ := h
  refine ⟨h1, h2, ?_, ?_, ?_, ?_, ?_, ?_, fun j hj => ?_⟩
  · rw [e 3 (by decide)]; exact h3
  · rw [e 3 (by decide), e 2 (by decide)]; exact h4
  · rw [e 5 (by decide)]; exact h5
  · rw [e 5 (by decide), e 4 (by decide)]; exact h6
  · rw [e 7 (by decide)]; exact h7
  · rw [e 8 (by decide)]; exact h8
  · rw [e _ (by omega)]; exact h9 j hj
theorem jl_add_n (x y : Int) : jl_n3 (jl_add x y) := jl_n3_to _
theorem kc_M.no {d : kD} {k : Nat} {s : jl_Mm} (hM : kc_M d s) (hk : k < 6) : kc_M (kd_no d k) (jl_up s 205 k (jl_add (jl_g s 205 k) 1)) := by
  have e : ∀ k', k' ≠ 0 → kd_no d k k' = d k' := fun k' h => kd_n h
  obtain ⟨h1, h2, h3, h4, h5, h6⟩ := hM
  have f : jp_fr [(205, 0, 0)] s (jl_up s 205 k (jl_add (jl_g s 205 k) 1)) := jp_fr.rf.up (by simp [jp_in])
  have nf : ∀ {c i : Nat}, c ≠ 205 → jp_in [(205, 0, 0)] c i = false := by intro c i h; simp [jp_in]; omega
  refine ⟨fun i hi => ?_, ?_, ?_, ?_, ?_, ?_⟩
  · by_cases c : i = k
    · subst c
      rw [h1 i hi, jp_g_eq (jl_add_n _ _).1 (jl_add_n _ _).2, kd_no, kd_e]
    · rw [jp_g_nei c, h1 i hi, kd_no, kd_ni c]
  · rw [e 1 (by decide), f.g _ _ (nf (by decide)), f.g _ _ (nf (by decide))]; exact h2
  · rw [e 3 (by decide), e 2 (by decide), f.g _ _ (nf (by decide))]; exact ⟨h3.1, fun i hi => (f.g _ _ (nf (by decide))).trans (h3.2 i hi)⟩
  · rw [e 5 (by decide), e 4 (by decide), f.g _ _ (nf (by decide))]; exact ⟨h4.1, fun i hi => (f.g _ _ (nf (by decide))).trans (h4.2 i hi)⟩
  · rw [e 7 (by decide), e 6 (by decide), f.g _ _ (nf (by decide))]; exact ⟨h5.1, fun i hi => (f.g _ _ (nf (by decide))).trans (h5.2 i hi)⟩
  · rw [e 8 (by decide), f.g _ _ (nf (by decide))]; exact h6
theorem kr_M.no {d : kD} {k : Nat} {s : jl_Mm} (hM : kr_M d s) (hk : k < 6) : kr_M (kd_no d k) (jl_up s 208 k (jl_add (jl_g s 208 k) 1)) := by
  have e : ∀ k', k' ≠ 0 → kd_no d k k' = d k' := fun k' h => kd_n h
  obtain ⟨h1, h2, h3, h4, h5, h6⟩ := hM
  have f : jp_fr [(208, 0, 0)] s (jl_up s 208 k (jl_add (jl_g s 208 k) 1)) := jp_fr.rf.up (by simp [jp_in])
  have nf : ∀ {c i : Nat}, c ≠ 208 → jp_in [(208, 0, 0)] c i = false := by intro c i h; simp [jp_in]; omega
  refine ⟨fun i hi => ?_, ?_, ?_, ?_, ?_, ?_⟩
  · by_cases c : i = k
    · subst c
      rw [h1 i hi, jp_g_eq (jl_add_n _ _).1 (jl_add_n _ _).2, kd_no, kd_e]
    · rw [jp_g_nei c, h1 i hi, kd_no, kd_ni c]
  · rw [e 1 (by decide), f.g _ _ (nf (by decide)), f.g _ _ (nf (by decide))]; exact h2
  · rw [e 3 (by decide), e 2 (by decide), f.g _ _ (nf (by decide))]; exact ⟨h3.1, fun i hi => (f.g _ _ (nf (by decide))).trans (h3.2 i hi)⟩
  · rw [e 5 (by decide), e 4 (by decide), f.g _ _ (nf (by decide))]; exact ⟨h4.1, fun i hi => (f.g _ _ (nf (by decide))).trans (h4.2 i hi)⟩
  · rw [e 7 (by decide), e 6 (by decide), f.g _ _ (nf (by decide))]; exact ⟨h5.1, fun i hi => (f.g _ _ (nf (by decide))).trans (h5.2 i hi)⟩
  · rw [e 8 (by decide), f.gl _ _ (nf (by decide))]; exact h6
theorem kIc.no {Z : jz_Z} {Ds : Nat → List Int} {a : Nat → Int} {d : kD} {nx n k : Nat} {s : jl_Mm} (h : kIc Z Ds a d nx n s) (hk : k < 6) : kIc Z Ds a (kd_no d k) nx n (jl_up s 205 k (jl_add (jl_g s 205 k) 1)) := by
  have hM : kc_M d s := by obtain ⟨_, _, -, -, -, -, hM, -⟩ := h; exact hM
  exact h.m (F := [(205, 0, 0)]) (jp_fr.rf.up (by simp [jp_in])) (by intro c i h1 h2; simp [jp_in]; omega) ⟨by decide, by decide⟩ (fun k' h => kd_n (by omega)) (hM.no hk)
theorem kIr.no {Z : jz_Z} {Ds : Nat → List Int} {a : Nat → Int} {d : kD} {nx n k : Nat} {s : jl_Mm} (h : kIr Z Ds a d nx n s) (hk : k < 6) : kIr Z Ds a (kd_no d k) nx n (jl_up s 208 k (jl_add (jl_g s 208 k) 1)) :=
  h.m (F := [(208, 0, 0)]) (jp_fr.rf.up (by simp [jp_in])) (by intro c i h1 h2; simp [jp_in]; omega) (by intro c i h1 h2; simp [jp_in]; omega) ⟨by decide, by decide, by decide, by decide⟩ (fun k' h => kd_n (by omega)) (h.2.1.no hk)
theorem kc_deny {k : Nat} {s : jl_Mm} (hk : k < 6) : jf_X11_deny (k : Int) s = some (0, jl_up s 205 k (jl_add (jl_g s 205 k) 1)) := by
  rw [jf_X11_deny, if_pos (by omega), if_pos (by omega), jp_lm, Int.toNat_natCast, jp_zb0]
theorem kc_refuse {k : Nat} {s : jl_Mm} (hk : k < 6) : jf_X11_refuse (k : Int) s = some (-1, jl_up s 205 k (jl_add (jl_g s 205 k) 1)) := by
  rw [jf_X11_refuse, if_pos (by omega), if_pos (by omega), jp_lm, Int.toNat_natCast]
theorem kr_refuses {k : Nat} {s : jl_Mm} (hk : k < 6) : jf_X12_refuses (k : Int) s = some (-1, jl_up s 208 k (jl_add (jl_g s 208 k) 1)) := by
  rw [jf_X12_refuses, if_pos (by omega), if_pos (by omega), jp_lm, Int.toNat_natCast]
theorem kr_isRefused {k : Nat} {s : jl_Mm} (hk : k < 6) : jf_X12_isRefused (k : Int) s = some (0, jl_up s 208 k (jl_add (jl_g s 208 k) 1)) := by
  rw [jf_X12_isRefused, if_pos (by omega), if_pos (by omega), jp_lm, Int.toNat_natCast, jp_zb0]
