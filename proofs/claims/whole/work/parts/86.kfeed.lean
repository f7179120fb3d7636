/-! PURE, both: feed, end, seed -/
/-- the tape, of what stands -/
def kz_put (d : kD) (x : Int) : kD := kd_u (kd_u d 2 (d 3 0).toNat x) 3 0 (d 3 0 + 1)
theorem kz_put_l {d : kD} {x : Int} : kz_put d x 3 0 = d 3 0 + 1 := kd_e
theorem kz_put_n {d : kD} {x : Int} {k : Nat} (h : k ≠ 2) (h3 : k ≠ 3) : kz_put d x k = d k := by rw [kz_put, kd_n h3, kd_n h]
theorem kz_put_t {d : kD} {x : Int} {i : Nat} : kz_put d x 2 i = if i = (d 3 0).toNat then x else d 2 i := by
  rw [kz_put, kd_n (by decide)]
  by_cases c : i = (d 3 0).toNat
  · rw [if_pos c, c, kd_e]
  · rw [if_neg c, kd_ni c]
theorem kIv.put {Z : jz_Z} {Ds : Nat → List Int} {a : Nat → Int} {d : kD} {nx n : Nat} {x : Int} (h : kIv Z Ds a d nx n) (hl : d 3 0 < 1600) (hx : 0 ≤ x ∧ x ≤ 255) : kIv Z Ds a (kz_put d x) nx n := by
  have e : ∀ k', k' ≠ 2 → k' ≠ 3 → kz_put d x k' = d k' := fun k' h h2 => kz_put_n h h2
  obtain ⟨h1, h2, h3, h4, h5, h6, h7, h8, h9⟩ := h
  refine ⟨h1, h2, ?_, ?_, ?_, ?_, ?_, ?_, fun j hj => ?_⟩
  · rw [kz_put_l]; omega
  · intro i hi
    rw [kz_put_l] at hi
    rw [kz_put_t]
    by_cases c : i = (d 3 0).toNat
    · rw [if_pos c]; exact hx
    · rw [if_neg c]; exact h4 i (by omega)
  · rw [e 5 (by decide) (by decide)]; exact h5
  · rw [e 5 (by decide) (by decide), e 4 (by decide) (by decide)]; exact h6
  · rw [e 7 (by decide) (by decide)]; exact h7
  · rw [e 8 (by decide) (by decide)]; exact h8
  · rw [e _ (by omega) (by omega)]; exact h9 j hj
theorem kc_M.put {d : kD} {x y : Int} {s : jl_Mm} (hM : kc_M d s) (h0 : 0 ≤ d 3 0 ∧ d 3 0 < 1600) (hx : 0 ≤ x ∧ x ≤ 255) (hy : y = d 3 0 + 1) : kc_M (kz_put d x) (jl_up (jl_up s 1 1 y) 2 (d 3 0).toNat x) := by
  subst hy
  have e : ∀ k', k' ≠ 2 → k' ≠ 3 → kz_put d x k' = d k' := fun k' h h2 => kz_put_n h h2
  obtain ⟨h1, h2, h3, h4, h5, h6⟩ := hM
  have f : jp_fr [(1, 1, 2), (2, 0, 0)] s (jl_up (jl_up s 1 1 (d 3 0 + 1)) 2 (d 3 0).toNat x) := (jp_fr.rf.up (by simp [jp_in])).up (by simp [jp_in])
  have nf : ∀ {c i : Nat}, c ≠ 1 → c ≠ 2 → jp_in [(1, 1, 2), (2, 0, 0)] c i = false := by intro c i h; simp [jp_in]; omega
  refine ⟨fun i hi => ?_, ?_, ?_, ?_, ?_, ?_⟩
  · rw [e 0 (by decide) (by decide), f.g _ _ (nf (by decide) (by decide))]; exact h1 i hi
  · rw [e 1 (by decide) (by decide), f.g _ _ (nf (by decide) (by decide)), f.g _ _ (nf (by decide) (by decide))]; exact h2
  · refine ⟨?_, fun i hi => ?_⟩
    · rw [jp_g_ne (by decide), jp_g_eq (by omega) (by omega), kz_put_l]
    · rw [kz_put_l] at hi
      rw [kz_put_t]
      by_cases c : i = (d 3 0).toNat
      · rw [if_pos c, c, jp_g_eq (by omega) (by omega)]
      · rw [if_neg c, jp_g_nei c, jp_g_ne (by decide)]; exact h3.2 i (by omega)
  · rw [e 5 (by decide) (by decide), e 4 (by decide) (by decide), f.g _ _ (nf (by decide) (by decide))]; exact ⟨h4.1, fun i hi => (f.g _ _ (nf (by decide) (by decide))).trans (h4.2 i hi)⟩
  · rw [e 7 (by decide) (by decide), e 6 (by decide) (by decide), f.g _ _ (nf (by decide) (by decide))]; exact ⟨h5.1, fun i hi => (f.g _ _ (nf (by decide) (by decide))).trans (h5.2 i hi)⟩
  · rw [e 8 (by decide) (by decide), f.g _ _ (nf (by decide) (by decide))]; exact h6
theorem kr_M.put {d : kD} {x y : Int} {s : jl_Mm} (hM : kr_M d s) (h0 : 0 ≤ d 3 0 ∧ d 3 0 < 1600) (hx : 0 ≤ x ∧ x ≤ 255) (hy : y = d 3 0 + 1) : kr_M (kz_put d x) (jl_up (jl_up s 207 (d 3 0).toNat x) 206 1 y) := by
  subst hy
  have e : ∀ k', k' ≠ 2 → k' ≠ 3 → kz_put d x k' = d k' := fun k' h h2 => kz_put_n h h2
  obtain ⟨h1, h2, h3, h4, h5, h6⟩ := hM
  have f : jp_fr [(206, 1, 2), (207, 0, 0)] s (jl_up (jl_up s 207 (d 3 0).toNat x) 206 1 (d 3 0 + 1)) := (jp_fr.rf.up (by simp [jp_in])).up (by simp [jp_in])
  have nf : ∀ {c i : Nat}, (c = 206 → i ≠ 1) → c ≠ 207 → jp_in [(206, 1, 2), (207, 0, 0)] c i = false := by intro c i h; simp [jp_in]; omega
  refine ⟨fun i hi => ?_, ?_, ?_, ?_, ?_, ?_⟩
  · rw [e 0 (by decide) (by decide), f.g _ _ (nf (by intro z; omega) (by decide))]; exact h1 i hi
  · rw [e 1 (by decide) (by decide), f.g _ _ (nf (by decide) (by decide)), f.g _ _ (nf (by decide) (by decide))]; exact h2
  · refine ⟨?_, fun i hi => ?_⟩
    · rw [jp_g_eq (by omega) (by omega), kz_put_l]
    · rw [kz_put_l] at hi
      rw [kz_put_t, jp_g_ne (by decide)]
      by_cases c : i = (d 3 0).toNat
      · rw [if_pos c, c, jp_g_eq (by omega) (by omega)]
      · rw [if_neg c, jp_g_nei c]; exact h3.2 i (by omega)
  · rw [e 5 (by decide) (by decide), e 4 (by decide) (by decide), f.g _ _ (nf (by decide) (by decide))]; exact ⟨h4.1, fun i hi => (f.g _ _ (nf (by intro z; omega) (by decide))).trans (h4.2 i hi)⟩
  · rw [e 7 (by decide) (by decide), e 6 (by decide) (by decide), f.g _ _ (nf (by decide) (by decide))]; exact ⟨h5.1, fun i hi => (f.g _ _ (nf (by intro z; omega) (by decide))).trans (h5.2 i hi)⟩
  · rw [e 8 (by decide) (by decide), f.gl _ _ (nf (by decide) (by decide))]; exact h6
/-- twenty of them -/
def kz_b (v1 v2 v3 v4 v5 : Int) (j : Nat) : Int := if j / 4 = 0 then v1 else if j / 4 = 1 then v2 else if j / 4 = 2 then v3 else if j / 4 = 3 then v4 else v5
def kz_by (v : Int) (j : Nat) : Int := jl_and (jl_shr v ((8 * (3 - j % 4) : Nat) : Int)) 255
def kz_puts (d : kD) (b : Nat → Int) : Nat → kD
  | 0 => d
  | m + 1 => kz_put (kz_puts d b m) (b m)
theorem kz_puts_l {d : kD} {b : Nat → Int} : ∀ m, kz_puts d b m 3 0 = d 3 0 + (m : Int)
  | 0 => by rw [kz_puts]; omega
  | m + 1 => by rw [kz_puts, kz_put_l, kz_puts_l m]; omega
theorem kz_puts_n {d : kD} {b : Nat → Int} {k : Nat} (h : k ≠ 2) (h3 : k ≠ 3) : ∀ m, kz_puts d b m k = d k
  | 0 => by rw [kz_puts]
  | m + 1 => by rw [kz_puts, kz_put_n h h3, kz_puts_n h h3 m]
theorem kIv.puts {Z : jz_Z} {Ds : Nat → List Int} {a : Nat → Int} {d : kD} {nx n : Nat} {b : Nat → Int} (h : kIv Z Ds a d nx n) (hb : ∀ j, 0 ≤ b j ∧ b j ≤ 255) : ∀ m : Nat, d 3 0 + (m : Int) ≤ 1600 → kIv Z Ds a (kz_puts d b m) nx n
  | 0, _ => h
  | m + 1, hm => (kIv.puts h hb m (by omega)).put (by rw [kz_puts_l]; omega) (hb m)
def kc_FF : jp_F := [(1, 1, 2), (2, 0, 0)]
def kr_FF : jp_F := [(206, 1, 2), (207, 0, 0)]
theorem kc_app1 {d : kD} {v : Int} {k n : Nat} {s : jl_Mm} (hM : kc_M d s) (h0 : 0 ≤ d 3 0 ∧ d 3 0 < 1600) (hk : k ≤ 24) : jf_X10_append_L3 (n + 1) v (k : Int) s = jf_X10_append_L3 n v (jl_add (k : Int) (-8)) (jl_up (jl_up s 1 1 (d 3 0 + 1)) 2 (d 3 0).toNat (jl_and (jl_shr v (k : Int)) 255)) := by
  rw [jf_X10_append_L3, if_neg (by omega), hM.2.2.1.1, if_neg (by omega), jp_lm, if_pos (by omega), jp_lm, jp_add (a := d 3 0) (by omega) (by omega), ku_by hk]
theorem kc_append {d : kD} {v : Int} {s : jl_Mm} (hM : kc_M d s) (h0 : 0 ≤ d 3 0 ∧ d 3 0 + 4 ≤ 1600) : jE (jf_X10_append v s) 0 kc_FF s (kc_M (kz_put (kz_put (kz_put (kz_put d (kz_by v 0)) (kz_by v 1)) (kz_by v 2)) (kz_by v 3))) := by
  have l1 : ∀ {x : Int}, kz_put d x 3 0 = d 3 0 + 1 := kz_put_l
  have l2 : ∀ {x y : Int}, kz_put (kz_put d x) y 3 0 = d 3 0 + 1 + 1 := by intro x y; rw [kz_put_l, kz_put_l]
  have l3 : ∀ {x y z : Int}, kz_put (kz_put (kz_put d x) y) z 3 0 = d 3 0 + 1 + 1 + 1 := by intro x y z; rw [kz_put_l, kz_put_l, kz_put_l]
  have M1 := hM.put (x := kz_by v 0) (y := d 3 0 + 1) (by omega) (ku_255 _) rfl
  have f1 : jp_fr kc_FF s (jl_up (jl_up s 1 1 (d 3 0 + 1)) 2 (d 3 0).toNat (kz_by v 0)) := (jp_fr.rf.up (by simp [jp_in, kc_FF])).up (by simp [jp_in, kc_FF])
  rw [jf_X10_append, show jl_fu = 3999 + 1 from rfl, show (24 : Int) = ((24 : Nat) : Int) from rfl, kc_app1 hM (by omega) (by decide), show jl_add ((24 : Nat) : Int) (-8) = ((16 : Nat) : Int) by decide +kernel]
  show jE (jf_X10_append_L3 3999 v ((16 : Nat) : Int) (jl_up (jl_up s 1 1 (d 3 0 + 1)) 2 (d 3 0).toNat (kz_by v 0))) 0 kc_FF s _
  generalize jl_up (jl_up s 1 1 (d 3 0 + 1)) 2 (d 3 0).toNat (kz_by v 0) = s1 at *
  have M2 := M1.put (x := kz_by v 1) (y := kz_put d (kz_by v 0) 3 0 + 1) (by rw [l1]; omega) (ku_255 _) rfl
  have f2 : jp_fr kc_FF s (jl_up (jl_up s1 1 1 (kz_put d (kz_by v 0) 3 0 + 1)) 2 (kz_put d (kz_by v 0) 3 0).toNat (kz_by v 1)) := (f1.up (by simp [jp_in, kc_FF])).up (by simp [jp_in, kc_FF])
  rw [show (3999 : Nat) = 3998 + 1 from rfl, kc_app1 M1 (by rw [l1]; omega) (by decide), show jl_add ((16 : Nat) : Int) (-8) = ((8 : Nat) : Int) by decide +kernel]
  show jE (jf_X10_append_L3 3998 v ((8 : Nat) : Int) (jl_up (jl_up s1 1 1 (kz_put d (kz_by v 0) 3 0 + 1)) 2 (kz_put d (kz_by v 0) 3 0).toNat (kz_by v 1))) 0 kc_FF s _
  generalize jl_up (jl_up s1 1 1 (kz_put d (kz_by v 0) 3 0 + 1)) 2 (kz_put d (kz_by v 0) 3 0).toNat (kz_by v 1) = s2 at *
  have M3 := M2.put (x := kz_by v 2) (y := kz_put (kz_put d (kz_by v 0)) (kz_by v 1) 3 0 + 1) (by rw [l2]; omega) (ku_255 _) rfl
  have f3 : jp_fr kc_FF s (jl_up (jl_up s2 1 1 (kz_put (kz_put d (kz_by v 0)) (kz_by v 1) 3 0 + 1)) 2 (kz_put (kz_put d (kz_by v 0)) (kz_by v 1) 3 0).toNat (kz_by v 2)) := (f2.up (by simp [jp_in, kc_FF])).up (by simp [jp_in, kc_FF])
  rw [show (3998 : Nat) = 3997 + 1 from rfl, kc_app1 M2 (by rw [l2]; omega) (by decide), show jl_add ((8 : Nat) : Int) (-8) = ((0 : Nat) : Int) by decide +kernel]
  show jE (jf_X10_append_L3 3997 v ((0 : Nat) : Int) (jl_up (jl_up s2 1 1 (kz_put (kz_put d (kz_by v 0)) (kz_by v 1) 3 0 + 1)) 2 (kz_put (kz_put d (kz_by v 0)) (kz_by v 1) 3 0).toNat (kz_by v 2))) 0 kc_FF s _
  generalize jl_up (jl_up s2 1 1 (kz_put (kz_put d (kz_by v 0)) (kz_by v 1) 3 0 + 1)) 2 (kz_put (kz_put d (kz_by v 0)) (kz_by v 1) 3 0).toNat (kz_by v 2) = s3 at *
  have M4 := M3.put (x := kz_by v 3) (y := kz_put (kz_put (kz_put d (kz_by v 0)) (kz_by v 1)) (kz_by v 2) 3 0 + 1) (by rw [l3]; omega) (ku_255 _) rfl
  have f4 : jp_fr kc_FF s (jl_up (jl_up s3 1 1 (kz_put (kz_put (kz_put d (kz_by v 0)) (kz_by v 1)) (kz_by v 2) 3 0 + 1)) 2 (kz_put (kz_put (kz_put d (kz_by v 0)) (kz_by v 1)) (kz_by v 2) 3 0).toNat (kz_by v 3)) := (f3.up (by simp [jp_in, kc_FF])).up (by simp [jp_in, kc_FF])
  rw [show (3997 : Nat) = 3996 + 1 from rfl, kc_app1 M3 (by rw [l3]; omega) (by decide), show jl_add ((0 : Nat) : Int) (-8) = (-8 : Int) by decide +kernel]
  show jE (jf_X10_append_L3 3996 v (-8) (jl_up (jl_up s3 1 1 (kz_put (kz_put (kz_put d (kz_by v 0)) (kz_by v 1)) (kz_by v 2) 3 0 + 1)) 2 (kz_put (kz_put (kz_put d (kz_by v 0)) (kz_by v 1)) (kz_by v 2) 3 0).toNat (kz_by v 3))) 0 kc_FF s _
  generalize jl_up (jl_up s3 1 1 (kz_put (kz_put (kz_put d (kz_by v 0)) (kz_by v 1)) (kz_by v 2) 3 0 + 1)) 2 (kz_put (kz_put (kz_put d (kz_by v 0)) (kz_by v 1)) (kz_by v 2) 3 0).toNat (kz_by v 3) = s4 at *
  rw [show (3996 : Nat) = 3995 + 1 from rfl, jf_X10_append_L3, if_pos (by decide), jf_X10_append_B46]
  exact ⟨s4, rfl, f4, M4⟩
theorem kz_by4 {v : Int} (j : Nat) : kz_by v (4 + j) = kz_by v j := by rw [kz_by, kz_by, Nat.add_mod_left]
def kz_f (v1 v2 v3 v4 v5 : Int) (j : Nat) : Int := kz_by (kz_b v1 v2 v3 v4 v5 j) j
theorem kz_f_v {v1 v2 v3 v4 v5 : Int} (j : Nat) : 0 ≤ kz_f v1 v2 v3 v4 v5 j ∧ kz_f v1 v2 v3 v4 v5 j ≤ 255 := ku_255 _
theorem kc_appg {d : kD} {v : Int} {b : Nat → Int} {m : Nat} {s : jl_Mm} (hM : kc_M (kz_puts d b m) s) (h0 : 0 ≤ d 3 0 ∧ d 3 0 + (m : Int) + 4 ≤ 1600) (e : b m = kz_by v 0 ∧ b (m + 1) = kz_by v 1 ∧ b (m + 2) = kz_by v 2 ∧ b (m + 3) = kz_by v 3) : jE (jf_X10_append v s) 0 kc_FF s (kc_M (kz_puts d b (m + 4))) := by
  have h := kc_append (v := v) hM (by rw [kz_puts_l]; omega)
  rw [← e.1, ← e.2.1, ← e.2.2.1, ← e.2.2.2] at h
  exact h
theorem kc_feed20 {d : kD} {v1 v2 v3 v4 v5 : Int} {s : jl_Mm} (hM : kc_M d s) (h0 : 0 ≤ d 3 0 ∧ d 3 0 + 20 ≤ 1600) : jE (jl_bd (jf_X10_append v1 s) fun r2 s3 => jl_bd (jf_X10_append v2 s3) fun r4 s5 => jl_bd (jf_X10_append v3 s5) fun r6 s7 => jl_bd (jf_X10_append v4 s7) fun r8 s9 => jl_bd (jf_X10_append v5 s9) fun r10 s11 => some (jl_g s11 1 1, s11)) (d 3 0 + 20) kc_FF s (kc_M (kz_puts d (kz_f v1 v2 v3 v4 v5) 20)) := by
  refine jE.bd (kc_appg (b := kz_f v1 v2 v3 v4 v5) (m := 0) hM (by omega) ⟨rfl, rfl, rfl, rfl⟩) (by decide) (fun s1 _ M1 => ?_)
  refine jE.bd (kc_appg (b := kz_f v1 v2 v3 v4 v5) (m := 4) M1 (by omega) ⟨rfl, rfl, rfl, rfl⟩) (by decide) (fun s2 _ M2 => ?_)
  refine jE.bd (kc_appg (b := kz_f v1 v2 v3 v4 v5) (m := 8) M2 (by omega) ⟨rfl, rfl, rfl, rfl⟩) (by decide) (fun s3 _ M3 => ?_)
  refine jE.bd (kc_appg (b := kz_f v1 v2 v3 v4 v5) (m := 12) M3 (by omega) ⟨rfl, rfl, rfl, rfl⟩) (by decide) (fun s4 _ M4 => ?_)
  refine jE.bd (kc_appg (b := kz_f v1 v2 v3 v4 v5) (m := 16) M4 (by omega) ⟨rfl, rfl, rfl, rfl⟩) (by decide) (fun s5 _ M5 => ?_)
  rw [M5.2.2.1.1, kz_puts_l]
  exact jE.ret M5
theorem ku_m4 : ∀ j, j < 20 → jl_mul 8 (jl_sub 3 (jl_rem ((j : Nat) : Int) 4)) = ((8 * (3 - j % 4) : Nat) : Int) := by decide +kernel
theorem kr_feedB {d : kD} {R : Int → Int → Int → Int → Int → Int → jl_Mm → jl_O} {v1 v2 v3 v4 v5 k : Int} {j : Nat} {s : jl_Mm} (hM : kr_M d s) (h0 : 0 ≤ d 3 0 ∧ d 3 0 < 1600) (hj : j < 20) : jf_X12_feed_B81 R v1 v2 v3 v4 v5 (j : Int) k s = R v1 v2 v3 v4 v5 ((j + 1 : Nat) : Int) (jl_up (jl_up s 207 (d 3 0).toNat (kz_by k j)) 206 1 (d 3 0 + 1)) := by
  rw [jf_X12_feed_B81, hM.2.2.1.1, if_pos (by omega), jp_lm, jp_lm, jp_g_ne (by decide), hM.2.2.1.1, jp_add (a := d 3 0) (by omega) (by omega), ku_m4 j hj, jp_add (by omega) (by omega), ku_s]
  rfl
theorem kr_feed20 {d : kD} {v1 v2 v3 v4 v5 : Int} {s : jl_Mm} (hM : kr_M d s) (h0 : 0 ≤ d 3 0 ∧ d 3 0 + 20 ≤ 1600) : jE (jf_X12_feed_L28 jl_fu v1 v2 v3 v4 v5 0 s) (d 3 0 + 20) kr_FF s (kr_M (kz_puts d (kz_f v1 v2 v3 v4 v5) 20)) := by
  refine ku_for (α := jl_Mm) (G := fun n j τ => jf_X12_feed_L28 n v1 v2 v3 v4 v5 ((j : Nat) : Int) τ) (N := 20) (P := fun o => jE o (d 3 0 + 20) kr_FF s (kr_M (kz_puts d (kz_f v1 v2 v3 v4 v5) 20))) (I := fun j τ => jp_fr kr_FF s τ ∧ kr_M (kz_puts d (kz_f v1 v2 v3 v4 v5) j) τ) (fun n j τ hj hI => Or.inr ?_) (fun n τ hI => ?_) 20 0 jl_fu s (by decide) (by decide) ⟨jp_fr.rf, hM⟩
  · obtain ⟨hf, hI⟩ := hI
    have hl : kz_puts d (kz_f v1 v2 v3 v4 v5) j 3 0 = d 3 0 + (j : Int) := kz_puts_l j
    refine ⟨jl_up (jl_up τ 207 (kz_puts d (kz_f v1 v2 v3 v4 v5) j 3 0).toNat (kz_f v1 v2 v3 v4 v5 j)) 206 1 (kz_puts d (kz_f v1 v2 v3 v4 v5) j 3 0 + 1), ?_, (hf.up (by simp [jp_in, kr_FF])).up (by simp [jp_in, kr_FF]), hI.put (by omega) (kz_f_v j) rfl⟩
    show jf_X12_feed_L28 (n + 1) v1 v2 v3 v4 v5 (j : Int) τ = jf_X12_feed_L28 n v1 v2 v3 v4 v5 ((j + 1 : Nat) : Int) _
    rw [jf_X12_feed_L28, if_neg (by omega), kz_f, kz_b]
    by_cases c4 : j < 4
    · rw [if_neg (by omega), kr_feedB hI (by omega) hj, if_pos (by omega)]
    rw [if_pos (by omega), if_neg (show ¬ j / 4 = 0 by omega)]
    by_cases c8 : j < 8
    · rw [if_neg (by omega), kr_feedB hI (by omega) hj, if_pos (by omega)]
    rw [if_pos (by omega), if_neg (show ¬ j / 4 = 1 by omega)]
    by_cases c12 : j < 12
    · rw [if_neg (by omega), kr_feedB hI (by omega) hj, if_pos (by omega)]
    rw [if_pos (by omega), if_neg (show ¬ j / 4 = 2 by omega)]
    by_cases c16 : j < 16
    · rw [if_neg (by omega), kr_feedB hI (by omega) hj, if_pos (by omega)]
    rw [if_pos (by omega), if_neg (show ¬ j / 4 = 3 by omega), kr_feedB hI (by omega) hj]
  · show jE (jf_X12_feed_L28 (n + 1) v1 v2 v3 v4 v5 ((20 : Nat) : Int) τ) _ _ _ _
    rw [jf_X12_feed_L28, if_pos (by omega), hI.2.2.2.1.1, kz_puts_l]
    exact ⟨τ, rfl, hI.1, hI.2⟩
theorem kI_feed {v1 v2 v3 v4 v5 : Int} : kI_call (jf_X11_feed v1 v2 v3 v4 v5) (jf_X12_feed v1 v2 v3 v4 v5) := kI_mk (fun Z Ds a d nx n hV => by
  have h3 := hV.2.2.1
  have hM : ∀ {s : jl_Mm}, kIc Z Ds a d nx n s → kc_M d s := fun h => by obtain ⟨_, _, -, -, -, -, hM, -⟩ := h; exact hM
  by_cases c : d 3 0 + 20 ≤ 1600
  · refine ⟨d 3 0 + 20, kc_FF, kr_FF, Z, Ds, a, kz_puts d (kz_f v1 v2 v3 v4 v5) 20, nx, n, by intro c i h; simp [jp_in, kc_FF]; omega, by intro c i h; simp [jp_in, kr_FF]; omega, hV.puts kz_f_v 20 (by omega), fun s hs => ?_, fun s hs => ?_⟩
    · have e : (20 : Int) = 20 := rfl
      rw [jf_X11_feed, (hM hs).2.2.1.1, jp_add (by omega) (by omega), if_pos c]
      obtain ⟨τ, t1, t2, t3⟩ := kc_feed20 (v1 := v1) (v2 := v2) (v3 := v3) (v4 := v4) (v5 := v5) (hM hs) ⟨h3.1, c⟩
      exact ⟨τ, t1, t2, hs.m t2 (by intro c i h1 h2; simp [jp_in, kc_FF]; omega) ⟨by decide, by decide⟩ (fun k hk => kz_puts_n (by omega) (by omega) 20) t3⟩
    · rw [jf_X12_feed, hs.2.1.2.2.1.1, jp_add (by omega) (by omega), if_pos c]
      obtain ⟨τ, t1, t2, t3⟩ := kr_feed20 (v1 := v1) (v2 := v2) (v3 := v3) (v4 := v4) (v5 := v5) hs.2.1 ⟨h3.1, c⟩
      exact ⟨τ, t1, t2, hs.m t2 (by intro c i h1 h2; simp [jp_in, kr_FF]; omega) (by intro c i h1 h2; simp [jp_in, kr_FF]; omega) ⟨by decide, by decide, by decide, by decide⟩ (fun k hk => kz_puts_n (by omega) (by omega) 20) t3⟩
  · refine ⟨-1, [(205, 0, 0)], [(208, 0, 0)], Z, Ds, a, kd_no d 0, nx, n, by intro c i h; simp [jp_in]; omega, by intro c i h; simp [jp_in]; omega, hV.no, fun s hs => ?_, fun s hs => ?_⟩
    · have u := kc_refuse (k := 0) (s := s) (by decide)
      rw [jf_X11_feed, (hM hs).2.2.1.1, jp_add (by omega) (by omega), if_neg c, show (0 : Int) = ((0 : Nat) : Int) from rfl, u, jp_bd]
      exact ⟨_, rfl, jp_fr.rf.up (by decide), hs.no (by decide)⟩
    · rw [jf_X12_feed, hs.2.1.2.2.1.1, jp_add (by omega) (by omega), if_neg c, jp_lm]
      exact ⟨_, rfl, jp_fr.rf.up (by decide), hs.no (by decide)⟩)
