/-! PURE, both: what an ACT keeps of the past -/
def kd_keep (d : kD) (nx : Nat) (a : Nat → Int) : kD := fun k => if k = 10 + (nx + 1) % 20 then a else d k
theorem kd_keep_n {d : kD} {nx k : Nat} {a : Nat → Int} (h : k < 10) : kd_keep d nx a k = d k := if_neg (by omega)
def kn_1 (n : Nat) : Nat := if n < 20 then n + 1 else 20
theorem kd_keep_0 {d : kD} {nx : Nat} {a : Nat → Int} : kd_keep d nx a (10 + ((nx + 1) % 20 + 20 - 0) % 20) = a := if_pos (by omega)
theorem kd_keep_s {d : kD} {nx j : Nat} {a : Nat → Int} (hj : j + 1 < 20) (hn : nx < 20) : kd_keep d nx a (10 + ((nx + 1) % 20 + 20 - (j + 1)) % 20) = d (10 + (nx + 20 - j) % 20) := by
  rw [kd_keep, if_neg (by omega), show ((nx + 1) % 20 + 20 - (j + 1)) % 20 = (nx + 20 - j) % 20 by omega]
theorem kIv.keep {Z : jz_Z} {Ds : Nat → List Int} {a : Nat → Int} {d : kD} {nx n : Nat} (h : kIv Z Ds a d nx n) : kIv Z Ds a (kd_keep d nx a) ((nx + 1) % 20) (kn_1 n) := by
  have e : ∀ k, k < 10 → kd_keep d nx a k = d k := fun k h => kd_keep_n h
  obtain ⟨h1, h2, h3, h4, h5, h6, h7, h8, h9⟩ := h
  refine ⟨h1, ⟨Nat.mod_lt _ (by decide), by rw [kn_1]; split <;> omega⟩, ?_, ?_, ?_, ?_, ?_, ?_, fun j hj => ?_⟩
  · rw [e 3 (by decide)]; exact h3
  · rw [e 3 (by decide), e 2 (by decide)]; exact h4
  · rw [e 5 (by decide)]; exact h5
  · rw [e 5 (by decide), e 4 (by decide)]; exact h6
  · rw [e 7 (by decide)]; exact h7
  · rw [e 8 (by decide)]; exact h8
  · cases j with
    | zero => rw [kd_keep_0]; exact h1
    | succ j =>
      have : j < n ∧ j + 1 < 20 := by rw [kn_1] at hj; split at hj <;> omega
      rw [kd_keep_s this.2 h2.1]; exact h9 j this.1
theorem kc_M.dd {d d' : kD} {s : jl_Mm} (h : kc_M d s) (e : ∀ k, k < 10 → d' k = d k) : kc_M d' s := by
  obtain ⟨h1, h2, h3, h4, h5, h6⟩ := h
  refine ⟨?_, ?_, ?_, ?_, ?_, ?_⟩
  · rw [e 0 (by decide)]; exact h1
  · rw [e 1 (by decide)]; exact h2
  · rw [e 3 (by decide), e 2 (by decide)]; exact h3
  · rw [e 5 (by decide), e 4 (by decide)]; exact h4
  · rw [e 7 (by decide), e 6 (by decide)]; exact h5
  · rw [e 8 (by decide)]; exact h6
theorem kr_M.dd {d d' : kD} {s : jl_Mm} (h : kr_M d s) (e : ∀ k, k < 10 → d' k = d k) : kr_M d' s := by
  obtain ⟨h1, h2, h3, h4, h5, h6⟩ := h
  refine ⟨?_, ?_, ?_, ?_, ?_, ?_⟩
  · rw [e 0 (by decide)]; exact h1
  · rw [e 1 (by decide)]; exact h2
  · rw [e 3 (by decide), e 2 (by decide)]; exact h3
  · rw [e 5 (by decide), e 4 (by decide)]; exact h4
  · rw [e 7 (by decide), e 6 (by decide)]; exact h5
  · rw [e 8 (by decide)]; exact h6
theorem kc_M.fr3 {d : kD} {s τ : jl_Mm} {F : jp_F} (h : kc_M d s) (f : jp_fr F s τ) (w : ∀ c i, c < 3 ∨ 199 < c → c < 206 → jp_in F c i = false) : kc_M d τ := by
  obtain ⟨h1, h2, h3, h4, h5, h6⟩ := h
  exact ⟨fun i hi => (f.g _ _ (w _ _ (by omega) (by omega))).trans (h1 i hi), ⟨(f.g _ _ (w _ _ (by omega) (by omega))).trans h2.1, (f.g _ _ (w _ _ (by omega) (by omega))).trans h2.2⟩, ⟨(f.g _ _ (w _ _ (by omega) (by omega))).trans h3.1, fun i hi => (f.g _ _ (w _ _ (by omega) (by omega))).trans (h3.2 i hi)⟩, ⟨(f.g _ _ (w _ _ (by omega) (by omega))).trans h4.1, fun i hi => (f.g _ _ (w _ _ (by omega) (by omega))).trans (h4.2 i hi)⟩, ⟨(f.g _ _ (w _ _ (by omega) (by omega))).trans h5.1, fun i hi => (f.g _ _ (w _ _ (by omega) (by omega))).trans (h5.2 i hi)⟩, (f.g _ _ (w _ _ (by omega) (by omega))).trans h6⟩
theorem kc_copyG {q d : Nat} {a : Nat → Int} {s : jl_Mm} (hq : (jl_kd q).1 = 2) (hd : (jl_kd d).1 = 2) (hG : kc_G q a s) (hqd : q + 2 < d ∨ d + 2 < q) : ∃ τ, jf_X2_copyFrom d q s = some (0, τ) ∧ jp_fr [(d, 2, 4), (d + 1, 0, 0), (d + 2, 0, 0)] s τ ∧ kc_G d a τ := by
  obtain ⟨h3, p, hp, h2, hk⟩ := hG
  have n3 := h3 ▸ jp_gn s q 3
  have e1 : jl_g (jl_up s d 2 (p : Int)) q 3 = a 24 := by rw [jp_g_ne (by omega)]; exact h3
  have f1 : jp_fr [(d, 2, 4)] s (jl_up (jl_up s d 2 (p : Int)) d 3 (a 24)) := (jp_fr.rf.up (by simp [jp_in])).up (by simp [jp_in])
  have v0 : jl_g (jl_up (jl_up s d 2 (p : Int)) d 3 (a 24)) d 2 = (p : Int) := by rw [jp_g_nei (by decide), jp_g_eq (by omega) (by omega)]
  have v1 : jl_g (jl_up (jl_up s d 2 (p : Int)) d 3 (a 24)) d 3 = a 24 := jp_g_eq n3.1 n3.2
  rw [jf_X2_copyFrom, if_pos hd, if_pos hq, h2, jp_lm, e1, jp_lm, if_pos (by decide), jp_lm, if_pos (by decide), jp_lm, show (0 : Int).toNat = 0 from rfl, show (40 : Int).toNat = 40 from rfl]
  generalize jl_up (jl_up s d 2 (p : Int)) d 3 (a 24) = s2 at *
  have n2 : ∀ c i, c ≠ d → jp_in [(d, 2, 4)] c i = false := by intro c i hc; simp [jp_in]; omega
  have f4 : jp_fr [(d + 1, 0, 0)] s2 (jl_cp s2 (q + 1) 0 (d + 1) 0 40) := jp_cp_fr
  have w4 : ∀ i, i < 40 → jl_g (jl_cp s2 (q + 1) 0 (d + 1) 0 40) (d + 1) i = jl_g s2 (q + 1) i := fun i hi => jp_cp_d hi
  generalize jl_cp s2 (q + 1) 0 (d + 1) 0 40 = s4 at *
  have n4 : ∀ c i, c ≠ d + 1 → jp_in [(d + 1, 0, 0)] c i = false := by intro c i hc; simp [jp_in]; omega
  have f6 : jp_fr [(d + 2, 0, 0)] s4 (jl_cp s4 (q + 2) 0 (d + 2) 0 40) := jp_cp_fr
  have w6 : ∀ i, i < 40 → jl_g (jl_cp s4 (q + 2) 0 (d + 2) 0 40) (d + 2) i = jl_g s4 (q + 2) i := fun i hi => jp_cp_d hi
  generalize jl_cp s4 (q + 2) 0 (d + 2) 0 40 = s6 at *
  have n6 : ∀ c i, c ≠ d + 2 → jp_in [(d + 2, 0, 0)] c i = false := by intro c i hc; simp [jp_in]; omega
  refine ⟨s6, rfl, ?_, ?_, p, hp, ?_, fun k hk' => ⟨?_, ?_⟩⟩
  · refine (f1.ws ?_).tr ((f4.ws ?_).tr (f6.ws ?_)) <;> (intro c i h; simp [jp_in] at h ⊢; omega)
  · rw [f6.g _ _ (n6 _ _ (by omega)), f4.g _ _ (n4 _ _ (by omega))]; exact v1
  · rw [f6.g _ _ (n6 _ _ (by omega)), f4.g _ _ (n4 _ _ (by omega))]; exact v0
  · have : (p + k) % 40 < 40 := Nat.mod_lt _ (by decide)
    rw [f6.g _ _ (n6 _ _ (by omega)), w4 _ this, f1.g _ _ (n2 _ _ (by omega))]; exact (hk k hk').1
  · have : (p + k) % 40 < 40 := Nat.mod_lt _ (by decide)
    rw [w6 _ this, f4.g _ _ (n4 _ _ (by omega)), f1.g _ _ (n2 _ _ (by omega))]; exact (hk k hk').2
def kc_FS (nx : Nat) : jp_F := [(47, 2, 4), (50 + 7 * nx, 0, 0), (51 + 7 * nx, 0, 0), (52 + 7 * nx, 0, 0), (53 + 7 * nx, 0, 0), (54 + 7 * nx, 0, 0), (55 + 7 * nx, 0, 0), (56 + 7 * nx, 0, 0)]
theorem kc_FSn {nx c i : Nat} (h : c ≠ 47) (h2 : c < 50 + 7 * nx ∨ 56 + 7 * nx < c) : jp_in (kc_FS nx) c i = false := by simp [jp_in, kc_FS]; omega
theorem ku_rem20 : ∀ x, x < 60 → jl_rem ((x : Nat) : Int) 20 = ((x % 20 : Nat) : Int) := by decide +kernel
theorem kc_kd7 : ∀ x, x < 20 → (jl_kd (50 + 7 * x)).1 = 7 ∧ (jl_kd (54 + 7 * x)).1 = 2 := by decide +kernel
theorem kc_remember {Z : jz_Z} {Ds : Nat → List Int} {a : Nat → Int} {d : kD} {nx n : Nat} {s : jl_Mm} (hv : kIv Z Ds a d nx n) (h : kIc Z Ds a d nx n s) : jE (jf_X3_remember 40 44 s) 0 (kc_FS nx) s (kIc Z Ds a (kd_keep d nx a) ((nx + 1) % 20) (kn_1 n)) := by
  have h20 := hv.2.1
  obtain ⟨H, G, hN, hG, hg, hc, hM, hP⟩ := h
  obtain ⟨p1, p2, p3⟩ := hP
  obtain ⟨s1, t1, f1, A1⟩ := kc_copy (q := 40) (d := 50 + 7 * nx) (by decide +kernel) (kc_kd7 nx h20.1).1 hN.2.2 (by omega)
  have n1 : ∀ {c i : Nat}, c < 50 + 7 * nx ∨ 53 + 7 * nx < c → jp_in [(50 + 7 * nx, 0, 2), (50 + 7 * nx + 1, 0, 0), (50 + 7 * nx + 2, 0, 0), (50 + 7 * nx + 3, 0, 0)] c i = false := by intro c i h; simp [jp_in]; omega
  have G1 : kc_G 44 a s1 := hG.fr f1 (fun c i _ _ => n1 (by omega))
  obtain ⟨s2, t2, f2, G2⟩ := kc_copyG (q := 44) (d := 54 + 7 * nx) (by decide +kernel) (kc_kd7 nx h20.1).2 G1 (by omega)
  have n2 : ∀ {c i : Nat}, c < 54 + 7 * nx ∨ 56 + 7 * nx < c → jp_in [(54 + 7 * nx, 2, 4), (54 + 7 * nx + 1, 0, 0), (54 + 7 * nx + 2, 0, 0)] c i = false := by intro c i h; simp [jp_in]; omega
  have F2 : jp_fr (kc_FS nx) s s2 := (f1.ws (by intro c i h; simp [jp_in, kc_FS] at h ⊢; omega)).tr (f2.ws (by intro c i h; simp [jp_in, kc_FS] at h ⊢; omega))
  have q2 : jl_g s2 47 2 = (nx : Int) := by rw [f2.g _ _ (n2 (by omega)), f1.g _ _ (n1 (by omega))]; exact p1
  have q3 : jl_g s2 47 3 = (n : Int) := by rw [f2.g _ _ (n2 (by omega)), f1.g _ _ (n1 (by omega))]; exact p2
  have e1 : jl_rem (jl_add (nx : Int) 1) 20 = (((nx + 1) % 20 : Nat) : Int) := by rw [jp_add (by omega) (by omega), ku_s, ku_rem20 _ (by omega)]
  have e2 : (if jl_add (n : Int) 1 < 20 then jl_add (n : Int) 1 else 20) = ((kn_1 n : Nat) : Int) := by
    rw [jp_add (by omega) (by omega), kn_1]
    by_cases c : n < 19
    · rw [if_pos (by omega), if_pos (by omega)]; omega
    · rw [if_neg (by omega)]; split <;> omega
  rw [jf_X3_remember, if_pos (by decide +kernel), if_pos (by decide +kernel), p1, if_pos (by omega), Int.toNat_natCast, t1, jp_bd]
  rw [f1.g _ _ (n1 (by omega)), p1, if_pos (by omega), Int.toNat_natCast, t2, jp_bd, q2, e1, jp_lm, ku_min, jp_bd, jp_g_nei (by decide), q3, e2, jp_lm]
  have F3 : jp_fr (kc_FS nx) s (jl_up (jl_up s2 47 2 (((nx + 1) % 20 : Nat) : Int)) 47 3 ((kn_1 n : Nat) : Int)) := (F2.up (by simp [jp_in, kc_FS])).up (by simp [jp_in, kc_FS])
  have f3 : jp_fr [(47, 2, 4)] s2 (jl_up (jl_up s2 47 2 (((nx + 1) % 20 : Nat) : Int)) 47 3 ((kn_1 n : Nat) : Int)) := (jp_fr.rf.up (by decide)).up (by decide)
  have n3 : ∀ {c i : Nat}, c ≠ 47 → jp_in [(47, 2, 4)] c i = false := by intro c i h; simp [jp_in]; omega
  have hk : kn_1 n ≤ 20 := by rw [kn_1]; split <;> omega
  have g2 : jl_g (jl_up (jl_up s2 47 2 (((nx + 1) % 20 : Nat) : Int)) 47 3 ((kn_1 n : Nat) : Int)) 47 2 = (((nx + 1) % 20 : Nat) : Int) := by rw [jp_g_nei (by decide), jp_g_eq (by omega) (by omega)]
  have g3 : jl_g (jl_up (jl_up s2 47 2 (((nx + 1) % 20 : Nat) : Int)) 47 3 ((kn_1 n : Nat) : Int)) 47 3 = ((kn_1 n : Nat) : Int) := jp_g_eq (by omega) (by omega)
  generalize jl_up (jl_up s2 47 2 (((nx + 1) % 20 : Nat) : Int)) 47 3 ((kn_1 n : Nat) : Int) = s3 at *
  refine ⟨s3, rfl, F3, H, G, ⟨hN.1.fr F3 (kc_FSn (by decide) (by omega)) (kc_FSn (by decide) (by omega)) (fun c i _ _ => kc_FSn (by omega) (by omega)), hN.2.1.fr hN.1.2.1 F3 (fun c i _ _ => kc_FSn (by omega) (by omega)), hN.2.2.fr F3 (kc_FSn (by decide) (by omega)) (kc_FSn (by decide) (by omega)) (fun c i _ _ => kc_FSn (by omega) (by omega))⟩, hG.fr F3 (fun c i _ _ => kc_FSn (by omega) (by omega)), ⟨(F3 _ _ (kc_FSn (by decide) (by omega))).trans hg.1, hg.2⟩, fun q hq => ?_, (hM.fr3 F3 (fun c i _ _ => kc_FSn (by omega) (by omega))).dd (fun k hk => kd_keep_n hk), g2, g3, fun j hj => ?_⟩
  · obtain ⟨v, hv, e⟩ := hc q hq
    exact ⟨v, hv, (F3.g _ _ (kc_FSn (by omega) (by omega))).trans e⟩
  · cases j with
    | zero =>
      rw [kd_keep_0, show ((nx + 1) % 20 + 19 - 0) % 20 = nx by omega]
      exact ⟨(A1.fr f2 (n2 (by omega)) (n2 (by omega)) (fun c i _ _ => n2 (by omega))).fr f3 (n3 (by omega)) (n3 (by omega)) (fun c i _ _ => n3 (by omega)), G2.fr f3 (fun c i _ _ => n3 (by omega))⟩
    | succ j =>
      have hj' : j < n ∧ j + 1 < 20 := by rw [kn_1] at hj; split at hj <;> omega
      obtain ⟨x, y⟩ := p3 j hj'.1
      rw [kd_keep_s hj'.2 h20.1, show ((nx + 1) % 20 + 19 - (j + 1)) % 20 = (nx + 19 - j) % 20 by omega]
      have ne : (nx + 19 - j) % 20 ≠ nx := by omega
      have lt : (nx + 19 - j) % 20 < 20 := Nat.mod_lt _ (by decide)
      generalize (nx + 19 - j) % 20 = m at *
      exact ⟨x.fr F3 (kc_FSn (by omega) (by omega)) (kc_FSn (by omega) (by omega)) (fun c i _ _ => kc_FSn (by omega) (by omega)), y.fr F3 (fun c i _ _ => kc_FSn (by omega) (by omega))⟩
/-- the reference keeps -/
def kr_FS : jp_F := [(206, 72, 74), (257, 0, 0)]
theorem kr_keepL {a : Nat → Int} {m n : Nat} {s : jl_Mm} (hm : m < 20) (hn : n ≤ 20) (hA : kr_A a s) (h73 : jl_g s 206 73 = (m : Int)) (h72 : jl_g s 206 72 = (n : Int)) : jE (jf_X12_keeps_L15 jl_fu 0 s) 0 [(206, 72, 73), (257, 0, 0)] s (fun τ => jl_g τ 206 72 = ((kn_1 n : Nat) : Int) ∧ (∀ i, i < 105 → jl_g τ 257 (105 * m + i) = a i) ∧ ∀ x, (x < 105 * m ∨ 105 * m + 105 ≤ x) → jl_g τ 257 x = jl_g s 257 x) := by
  refine ku_for (α := jl_Mm) (G := fun k l τ => jf_X12_keeps_L15 k ((l : Nat) : Int) τ) (N := 105) (P := fun o => jE o 0 [(206, 72, 73), (257, 0, 0)] s (fun τ => jl_g τ 206 72 = ((kn_1 n : Nat) : Int) ∧ (∀ i, i < 105 → jl_g τ 257 (105 * m + i) = a i) ∧ ∀ x, (x < 105 * m ∨ 105 * m + 105 ≤ x) → jl_g τ 257 x = jl_g s 257 x)) (I := fun l τ => jp_fr [(257, 0, 0)] s τ ∧ (∀ i, i < l → jl_g τ 257 (105 * m + i) = a i) ∧ ∀ x, (x < 105 * m ∨ 105 * m + 105 ≤ x) → jl_g τ 257 x = jl_g s 257 x) (fun k l τ hl hI => Or.inr ?_) (fun k τ hI => ?_) 105 0 jl_fu s (by decide) (by decide) ⟨jp_fr.rf, by intro i hi; omega, fun _ _ => rfl⟩
  · obtain ⟨hf, hI, hx⟩ := hI
    have nf : ∀ {c i : Nat}, c ≠ 257 → jp_in [(257, 0, 0)] c i = false := by intro c i h; simp [jp_in]; omega
    have ea : jl_g τ 249 l = a l := (hf.g _ _ (nf (by decide))).trans (hA l hl)
    have na := ea ▸ jp_gn τ 249 l
    have em : jl_add (jl_mul 105 (m : Int)) (l : Int) = ((105 * m + l : Nat) : Int) := by rw [jp_mul (by omega) (by omega), jp_add (by omega) (by omega)]; omega
    refine ⟨jl_up τ 257 (105 * m + l) (a l), ?_, hf.up (by simp [jp_in]), fun i hi => ?_, fun x hx' => ?_⟩
    · show jf_X12_keeps_L15 (k + 1) (l : Int) τ = jf_X12_keeps_L15 k ((l + 1 : Nat) : Int) _
      rw [jf_X12_keeps_L15, if_neg (by omega), if_pos (by omega), hf.g _ _ (nf (by decide)), h73, em, if_pos (by omega), jp_lm, Int.toNat_natCast, Int.toNat_natCast, ea, jp_add (by omega) (by omega), ku_s]
    · by_cases c : i = l
      · subst c; exact jp_g_eq na.1 na.2
      · rw [jp_g_nei (by omega)]; exact hI i (by omega)
    · rw [jp_g_nei (by omega)]; exact hx x hx'
  · obtain ⟨hf, hI, hx⟩ := hI
    have nf : ∀ {c i : Nat}, c ≠ 257 → jp_in [(257, 0, 0)] c i = false := by intro c i h; simp [jp_in]; omega
    show jE (jf_X12_keeps_L15 (k + 1) ((105 : Nat) : Int) τ) _ _ _ _
    rw [jf_X12_keeps_L15, if_pos (by decide), hf.g _ _ (nf (by decide)), h72]
    by_cases c : n = 20
    · rw [if_pos (by omega)]
      refine ⟨τ, rfl, hf.w (by decide), ?_, hI, hx⟩
      rw [hf.g _ _ (nf (by decide)), h72, kn_1, if_neg (by omega)]; omega
    · rw [if_neg (by omega), jp_lm, jf_X12_keeps_B66, jp_add (by omega) (by omega)]
      refine ⟨_, rfl, (hf.w (by decide)).up (by decide), ?_, fun i hi => ?_, fun x hx' => ?_⟩
      · rw [jp_g_eq (by omega) (by omega), kn_1, if_pos (by omega)]; omega
      · rw [jp_g_ne (by decide)]; exact hI i hi
      · rw [jp_g_ne (by decide)]; exact hx x hx'
theorem kr_keeps {Z : jz_Z} {Ds : Nat → List Int} {a : Nat → Int} {d : kD} {nx n : Nat} {s : jl_Mm} (hv : kIv Z Ds a d nx n) (h : kIr Z Ds a d nx n s) : jE (jf_X12_keeps s) 0 kr_FS s (kIr Z Ds a (kd_keep d nx a) ((nx + 1) % 20) (kn_1 n)) := by
  have h20 := hv.2.1
  obtain ⟨hN, hM, ⟨p1, p2, p3⟩, hW, hn⟩ := h
  have hm : (nx + 1) % 20 < 20 := Nat.mod_lt _ (by decide)
  have e1 : jl_rem (jl_add (nx : Int) 1) 20 = (((nx + 1) % 20 : Nat) : Int) := by rw [jp_add (by omega) (by omega), ku_s, ku_rem20 _ (by omega)]
  have f1 : jp_fr [(206, 73, 74)] s (jl_up s 206 73 (((nx + 1) % 20 : Nat) : Int)) := jp_fr.rf.up (by decide)
  have n1 : ∀ {c i : Nat}, (c = 206 → i ≠ 73) → jp_in [(206, 73, 74)] c i = false := by intro c i h; simp [jp_in]; omega
  have g73 : jl_g (jl_up s 206 73 (((nx + 1) % 20 : Nat) : Int)) 206 73 = (((nx + 1) % 20 : Nat) : Int) := jp_g_eq (by omega) (by omega)
  rw [jf_X12_keeps, p1, e1, jp_lm]
  generalize jl_up s 206 73 (((nx + 1) % 20 : Nat) : Int) = s1 at *
  obtain ⟨τ, t1, t2, t3, t4, t5⟩ := kr_keepL hm h20.2 (hN.2.2.1.fr f1 (fun i => n1 (by intro z; omega))) g73 ((f1.g _ _ (n1 (by decide))).trans p2)
  have F : jp_fr kr_FS s τ := (f1.ws (by intro c i h; simp [jp_in, kr_FS] at h ⊢; omega)).tr (t2.ws (by intro c i h; simp [jp_in, kr_FS] at h ⊢; omega))
  have nF : ∀ {c i : Nat}, (c = 206 → i ≠ 72 ∧ i ≠ 73) → c ≠ 257 → jp_in kr_FS c i = false := by intro c i h h2; simp [jp_in, kr_FS]; omega
  have M' : kr_M d τ := by
    obtain ⟨h1, h2, h3, h4, h5, h6⟩ := hM
    exact ⟨fun i hi => (F.g _ _ (nF (by intro z; omega) (by decide))).trans (h1 i hi), ⟨(F.g _ _ (nF (by decide) (by decide))).trans h2.1, (F.g _ _ (nF (by decide) (by decide))).trans h2.2⟩, ⟨(F.g _ _ (nF (by decide) (by decide))).trans h3.1, fun i hi => (F.g _ _ (nF (by intro z; omega) (by decide))).trans (h3.2 i hi)⟩, ⟨(F.g _ _ (nF (by decide) (by decide))).trans h4.1, fun i hi => (F.g _ _ (nF (by intro z; omega) (by decide))).trans (h4.2 i hi)⟩, ⟨(F.g _ _ (nF (by decide) (by decide))).trans h5.1, fun i hi => (F.g _ _ (nF (by intro z; omega) (by decide))).trans (h5.2 i hi)⟩, (F.gl _ _ (nF (by decide) (by decide))).trans h6⟩
  refine ⟨τ, t1, F, hN.fr F (fun c i _ _ => nF (by omega) (by omega)) ⟨nF (by decide) (by decide), nF (by decide) (by decide)⟩, M'.dd (fun k hk => kd_keep_n hk), ⟨?_, t3, fun j hj i hi => ?_⟩, hW.fr F (fun c i hc => nF (by rcases hc with hc | hc <;> omega) (by rcases hc with hc | hc <;> omega)), ⟨fun i hi => ⟨(F.gl _ _ (nF (by intro z; omega) (by decide))).trans (hn.1 i hi).1, (hn.1 i hi).2⟩, fun i hi => ⟨(F.gl _ _ (nF (by intro z; omega) (by decide))).trans (hn.2 i hi).1, (hn.2 i hi).2⟩⟩⟩
  · rw [t2.g _ _ (by decide)]; exact g73
  · cases j with
    | zero =>
      rw [kd_keep_0, show ((nx + 1) % 20 + 20 - 0) % 20 = (nx + 1) % 20 by omega]; exact t4 i hi
    | succ j =>
      have hj' : j < n ∧ j + 1 < 20 := by rw [kn_1] at hj; split at hj <;> omega
      have x := p3 j hj'.1 i hi
      rw [kd_keep_s hj'.2 h20.1, show ((nx + 1) % 20 + 20 - (j + 1)) % 20 = (nx + 20 - j) % 20 by omega]
      have ne : (nx + 20 - j) % 20 ≠ (nx + 1) % 20 := by omega
      generalize (nx + 20 - j) % 20 = m at *
      generalize (nx + 1) % 20 = m' at *
      rw [t5 _ (by omega), f1.g _ _ (n1 (by intro z; omega))]; exact x
