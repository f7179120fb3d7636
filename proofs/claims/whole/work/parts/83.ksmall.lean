/-! PURE, both: the small calls that only tell -/
def kp_has (Z : jz_Z) (Ds : Nat → List Int) (a : Nat → Int) (d : kD) (n : Nat) (v : Int) : Int :=
  if v = 0 then ((ks_nw Z : Nat) : Int) else if v = 1 then ((ks_np Z : Nat) : Int) else if v = 2 then ((ks_nl Z : Nat) : Int) else if v = 3 then ((ks_nr Z : Nat) : Int)
  else if v = 4 then a 0 else if v = 5 then a 1 else if v = 6 then ku_n (ks_litP a) (ks_nl Z) else if v = 7 then ku_n (ks_bel Z Ds a) (ks_nl Z) else if v = 8 then a 24 else if v = 9 then d 5 0 else if v = 10 then (n : Int) else -1
theorem kc_hasC {Z : jz_Z} {Ds : Nat → List Int} {a : Nat → Int} {d : kD} {nx n : Nat} {v : Int} {s : jl_Mm} (hv : kIv Z Ds a d nx n) (hs : kIc Z Ds a d nx n s) : jE (jf_X11_has v s) (kp_has Z Ds a d n v) kc_FB s (fun _ => True) := by
  obtain ⟨H, G, ⟨hW, hK, hA⟩, hG, -, -, hM, hP⟩ := hs
  have h8 := hW.1.l
  rw [jf_X11_has, kp_has]
  by_cases c0 : v = 0
  · rw [if_pos c0, if_pos c0]
    rw [hW.g0, hW.gr0, hW.n1]
    exact jE.ret trivial
  rw [if_neg c0, if_neg c0]
  by_cases c1 : v = 1
  · rw [if_pos c1, if_pos c1]
    rw [hW.g0, hW.gr0, hW.n2]
    exact jE.ret trivial
  rw [if_neg c1, if_neg c1]
  by_cases c2 : v = 2
  · rw [if_pos c2, if_pos c2]
    rw [hW.g0, hW.gr0, hW.n3]
    exact jE.ret trivial
  rw [if_neg c2, if_neg c2]
  by_cases c3 : v = 3
  · rw [if_pos c3, if_pos c3]
    rw [hW.g0, hW.gr0, hW.n4]
    exact jE.ret trivial
  rw [if_neg c3, if_neg c3]
  by_cases c4 : v = 4
  · rw [if_pos c4, if_pos c4]
    rw [hA.1]
    exact jE.ret trivial
  rw [if_neg c4, if_neg c4]
  by_cases c5 : v = 5
  · rw [if_pos c5, if_pos c5]
    rw [hA.2.1]
    exact jE.ret trivial
  rw [if_neg c5, if_neg c5]
  by_cases c6 : v = 6
  · rw [if_pos c6, if_pos c6]
    rw [kc_lits (Or.inl rfl) hW hA, jp_bd, kx_pop, jp_bd, ku_pop_n _ _ h8.2]
    exact jE.ret trivial
  rw [if_neg c6, if_neg c6]
  by_cases c7 : v = 7
  · rw [if_pos c7, if_pos c7]
    obtain ⟨τ, t1, t2, -⟩ := kc_bel (Or.inl rfl) hW hv.1.1 hA hK hv.1.2.1
    rw [t1, jp_bd, kx_pop, jp_bd, ks_belB, ku_pop_n _ _ h8.2]
    exact ⟨τ, rfl, t2.w (by decide), trivial⟩
  rw [if_neg c7, if_neg c7]
  by_cases c8 : v = 8
  · rw [if_pos c8, if_pos c8]
    rw [hG.1]
    exact jE.ret trivial
  rw [if_neg c8, if_neg c8]
  by_cases c9 : v = 9
  · rw [if_pos c9, if_pos c9]
    rw [hM.2.2.2.1.1]
    exact jE.ret trivial
  rw [if_neg c9, if_neg c9]
  by_cases c10 : v = 10
  · rw [if_pos c10, if_pos c10]
    rw [hP.2.1]
    exact jE.ret trivial
  rw [if_neg c10, if_neg c10]
  exact jE.ret trivial
theorem kr_has {Z : jz_Z} {Ds : Nat → List Int} {a : Nat → Int} {d : kD} {nx n : Nat} {v : Int} {s : jl_Mm} (hv : kIv Z Ds a d nx n) (hs : kIr Z Ds a d nx n s) : jE (jf_X12_has v s) (kp_has Z Ds a d n v) kr_FA s (kr_N Z Ds a) := by
  obtain ⟨hN, hM, hH, -, -⟩ := hs
  have hW := hN.1
  have hA := hN.2.2.1
  have h8 := hW.1.l
  rw [jf_X12_has, kp_has]
  by_cases c0 : v = 0
  · rw [if_pos c0, if_pos c0]
    rw [hW.nw, jp_bd]
    exact jE.ret hN
  rw [if_neg c0, if_neg c0]
  by_cases c1 : v = 1
  · rw [if_pos c1, if_pos c1]
    rw [hW.np, jp_bd]
    exact jE.ret hN
  rw [if_neg c1, if_neg c1]
  by_cases c2 : v = 2
  · rw [if_pos c2, if_pos c2]
    rw [hW.nl, jp_bd]
    exact jE.ret hN
  rw [if_neg c2, if_neg c2]
  by_cases c3 : v = 3
  · rw [if_pos c3, if_pos c3]
    rw [hW.nr, jp_bd]
    exact jE.ret hN
  rw [if_neg c3, if_neg c3]
  by_cases c4 : v = 4
  · rw [if_pos c4, if_pos c4]
    rw [show ((0 : Int) : Int).toNat = 0 from rfl, hA 0 (by decide)]
    exact jE.ret hN
  rw [if_neg c4, if_neg c4]
  by_cases c5 : v = 5
  · rw [if_pos c5, if_pos c5]
    rw [show ((1 : Int) : Int).toNat = 1 from rfl, hA 1 (by decide)]
    exact jE.ret hN
  rw [if_neg c5, if_neg c5]
  by_cases c6 : v = 6
  · rw [if_pos c6, if_pos c6]
    rw [kr_litM hW hA, jp_bd]
    exact jE.ret hN
  rw [if_neg c6, if_neg c6]
  by_cases c7 : v = 7
  · rw [if_pos c7, if_pos c7]
    obtain ⟨τ, t1, t2, -⟩ := kr_held hW hv.1.1 hA hN.2.1 hv.1.2.1
    rw [t1, jp_bd, ks_belB, kr_bits _ h8.2, jp_bd]
    have f : jp_fr kr_FA s τ := t2.w (by decide)
    exact ⟨τ, rfl, f, hN.frA f (hA.fr t2 (fun i => kr_FHn (by decide) (by intro z; omega) (by decide))) ((t2.g _ _ (by decide)).trans hN.2.2.2.1)⟩
  rw [if_neg c7, if_neg c7]
  by_cases c8 : v = 8
  · rw [if_pos c8, if_pos c8]
    rw [show ((24 : Int) : Int).toNat = 24 from rfl, hA 24 (by decide)]
    exact jE.ret hN
  rw [if_neg c8, if_neg c8]
  by_cases c9 : v = 9
  · rw [if_pos c9, if_pos c9]
    rw [hM.2.2.2.1.1]
    exact jE.ret hN
  rw [if_neg c9, if_neg c9]
  by_cases c10 : v = 10
  · rw [if_pos c10, if_pos c10]
    rw [hH.2.1]
    exact jE.ret hN
  rw [if_neg c10, if_neg c10]
  exact jE.ret hN
theorem kI_has {v : Int} : kI_call (jf_X11_has v) (jf_X12_has v) := kI_see (fun Z Ds a d nx m hV => ⟨_, fun s hs => kc_hasC hV hs, fun s hs => kr_has hV hs⟩)
theorem kI_fault {v : Int} : kI_call (jf_X11_fault v) (jf_X12_fault v) := kI_see (fun Z Ds a d nx m hV => ⟨if v = 0 then d 1 0 else if v = 1 then d 1 1 else -1, fun s hs => by
  obtain ⟨H, G, hN, hG, -, -, hM, hP⟩ := hs
  rw [jf_X11_fault, hM.2.1.1, hM.2.1.2]
  by_cases c0 : v = 0
  · rw [if_pos c0, if_pos c0]; exact jE.ret trivial
  rw [if_neg c0, if_neg c0]
  by_cases c1 : v = 1
  · rw [if_pos c1, if_pos c1]; exact jE.ret trivial
  rw [if_neg c1, if_neg c1]; exact jE.ret trivial, fun s hs => by
  obtain ⟨hN, hM, hH, -, -⟩ := hs
  have e : ∀ u : Int, jf_X12_fault_B24 u s = some (u, s) := fun _ => rfl
  rw [jf_X12_fault, hM.2.1.1, hM.2.1.2, e, e, e]
  by_cases c0 : v = 0
  · rw [if_pos c0, if_pos c0]; exact jE.ret hN
  rw [if_neg c0, if_neg c0]
  by_cases c1 : v = 1
  · rw [if_pos c1, if_pos c1]; exact jE.ret hN
  rw [if_neg c1, if_neg c1]; exact jE.ret hN⟩)
def kp_person (Z : jz_Z) (a : Nat → Int) (v w : Int) : Int := if 0 ≤ v ∧ v < ((ks_np Z : Nat) : Int) then (if w = 0 then a (2 + v.toNat) else if w = 1 then Z.2.1 3 v.toNat else if w = 2 then ks_of Z a v else -1) else -1
theorem kI_person {v w : Int} (hv : jl_n3 v) : kI_call (jf_X11_person v w) (jf_X12_person v w) := kI_see (fun Z Ds a d nx m hV => ⟨kp_person Z a v w, fun s hs => by
  obtain ⟨H, G, ⟨hW, hK, hA⟩, hG, -, -, hM, hP⟩ := hs
  have h6 := hW.1.p
  rw [jf_X11_person, hW.isP, jp_bd, kp_person]
  by_cases c : 0 ≤ v ∧ v < ((ks_np Z : Nat) : Int)
  · obtain ⟨p, rfl⟩ : ∃ p : Nat, v = (p : Int) := ⟨v.toNat, by omega⟩
    have e3 : jl_g s (H + 3) p = Z.2.1 3 p := (hW.2.2.2.2.2.1 _ (by omega)).2.2.2
    have e2 : jl_g s 41 p = a (2 + p) := hA.2.2.1 p (by omega)
    have r6 : 0 ≤ (p : Int) ∧ (p : Int) < ((6 : Nat) : Int) := by omega
    rw [if_pos c, if_neg (by decide), if_pos c, if_pos r6, Int.toNat_natCast, e2, hW.g0, hW.gr0, if_pos r6, e3, kc_of (Or.inl rfl) hW hA, jp_bd]
    by_cases c0 : w = 0
    · rw [if_pos c0, if_pos c0]; exact jE.ret trivial
    rw [if_neg c0, if_neg c0]
    by_cases c1 : w = 1
    · rw [if_pos c1, if_pos c1]; exact jE.ret trivial
    rw [if_neg c1, if_neg c1]
    by_cases c2 : w = 2
    · rw [if_pos c2, if_pos c2]; exact jE.ret trivial
    rw [if_neg c2, if_neg c2]; exact jE.ret trivial
  · rw [if_neg c, if_pos rfl, if_neg c]; exact jE.ret trivial, fun s hs => by
  obtain ⟨hN, hM, hH, -, -⟩ := hs
  have hW := hN.1
  have hA := hN.2.2.1
  have h6 := hW.1.p
  have e : ∀ u t, jf_X12_person_B58 u t = some (u, t) := fun _ _ => rfl
  rw [jf_X12_person, hW.isP hv, jp_bd, kp_person]
  by_cases c : 0 ≤ v ∧ v < ((ks_np Z : Nat) : Int)
  · obtain ⟨p, rfl⟩ : ∃ p : Nat, v = (p : Int) := ⟨v.toNat, by omega⟩
    have a2 : jl_add 2 (p : Int) = ((2 + p : Nat) : Int) := by rw [jp_add (by omega) (by omega)]; omega
    have a13 : jl_add 13 (jl_mul 2 (p : Int)) = ((12 + (2 * p + 1) : Nat) : Int) := by rw [jp_mul (by omega) (by omega), jp_add (by omega) (by omega)]; omega
    have r1 : 0 ≤ ((2 + p : Nat) : Int) ∧ ((2 + p : Nat) : Int) < ((105 : Nat) : Int) := by omega
    have r2 : 0 ≤ ((12 + (2 * p + 1) : Nat) : Int) ∧ ((12 + (2 * p + 1) : Nat) : Int) < ((24 : Nat) : Int) := by omega
    rw [if_pos c, if_neg (by decide), if_pos c, a2, a13, if_pos r1, if_pos r2, Int.toNat_natCast, Int.toNat_natCast, Int.toNat_natCast, hA _ (by omega), hW.2.2.1 _ (by omega), kr_of hW hA, jp_bd, e, e, e, e]
    by_cases c0 : w = 0
    · rw [if_pos c0, if_pos c0]; exact jE.ret hN
    rw [if_neg c0, if_neg c0]
    by_cases c1 : w = 1
    · rw [if_pos c1, if_pos c1]; exact jE.ret hN
    rw [if_neg c1, if_neg c1]
    by_cases c2 : w = 2
    · rw [if_pos c2, if_pos c2]; exact jE.ret hN
    rw [if_neg c2, if_neg c2]; exact jE.ret hN
  · rw [if_neg c, if_pos rfl, if_neg c]; exact jE.ret hN⟩)
def kp_draft (Z : jz_Z) (Ds : Nat → List Int) (a : Nat → Int) (v n : Int) : Int := if (0 ≤ v ∧ v < ((ks_nw Z : Nat) : Int)) ∧ (0 ≤ n ∧ n ≤ 60 ∧ a 0 + n ≤ 999) then ks_dr (Ds 0) (a 0 + n) v else -1
theorem kI_draft {v n : Int} (hv : jl_n3 v) (hn : jl_n3 n) : kI_call (jf_X11_draft v n) (jf_X12_draft v n) := kI_see (fun Z Ds a d nx m hV => ⟨kp_draft Z Ds a v n, fun s hs => by
  obtain ⟨H, G, ⟨hW, hK, hA⟩, hG, -, -, hM, hP⟩ := hs
  have h30 := hW.1.w
  have hV0 := hV.1.1.1
  rw [jf_X11_draft, hW.isW, jp_bd, kp_draft]
  by_cases c : 0 ≤ v ∧ v < ((ks_nw Z : Nat) : Int)
  · rw [if_pos c, if_neg (by decide), kc_comes hA hV0, jp_bd]
    by_cases f : 0 ≤ n ∧ n ≤ 60 ∧ a 0 + n ≤ 999
    · have hnw : 0 < ks_nw Z := by omega
      rw [if_pos f, if_neg (by decide), if_pos (show (0 ≤ v ∧ v < ((ks_nw Z : Nat) : Int)) ∧ (0 ≤ n ∧ n ≤ 60 ∧ a 0 + n ≤ 999) from ⟨c, f⟩), hA.1, jp_add (by omega) (by omega)]
      obtain ⟨τ, t1, t2, -⟩ := kc_draughty (h := a 0 + n) (w := v) (Or.inl rfl) hW (hK hnw 0 (by decide)) (hV.1.2.1 hnw).1 ⟨by omega, by omega⟩ ⟨by omega, by omega⟩
      rw [t1, jp_bd]
      exact ⟨τ, rfl, t2.w (by decide), trivial⟩
    · rw [if_neg f, if_pos rfl, if_neg (show ¬ ((0 ≤ v ∧ v < ((ks_nw Z : Nat) : Int)) ∧ (0 ≤ n ∧ n ≤ 60 ∧ a 0 + n ≤ 999)) from fun q => f q.2)]; exact jE.ret trivial
  · rw [if_neg c, if_pos rfl, if_neg (show ¬ ((0 ≤ v ∧ v < ((ks_nw Z : Nat) : Int)) ∧ (0 ≤ n ∧ n ≤ 60 ∧ a 0 + n ≤ 999)) from fun q => c q.1)]; exact jE.ret trivial, fun s hs => by
  obtain ⟨hN, hM, hH, -, -⟩ := hs
  have hW := hN.1
  have hA := hN.2.2.1
  have h30 := hW.1.w
  have hV0 := hV.1.1.1
  rw [jf_X12_draft, hW.isW hv, jp_bd, kp_draft]
  by_cases c : 0 ≤ v ∧ v < ((ks_nw Z : Nat) : Int)
  · have hnw : 0 < ks_nw Z := by omega
    rw [if_pos c, if_neg (by decide), kr_ahead hN.2.2.2.2 hA ⟨hV0.1, hV.1.2.2.1⟩ hn (by decide) (by decide), jp_bd]
    by_cases f : 0 ≤ n ∧ n ≤ 60 ∧ a 0 + n ≤ 999
    · have e : (if 0 < ks_nw Z ∧ 0 ≤ n ∧ n ≤ 60 ∧ a 0 + n ≤ 999 then (1 : Int) else 0) = 1 := if_pos ⟨hnw, f⟩
      obtain ⟨w, rfl⟩ : ∃ w : Nat, v = (w : Int) := ⟨v.toNat, by omega⟩
      have A1 := hA.up (i := 0) (v := a 0 + n) ⟨by omega, by omega⟩
      have f1 : jp_fr [(249, 0, 0)] s (jl_up s 249 0 (a 0 + n)) := jp_fr.rf.up rfl
      have nf : ∀ {c i : Nat}, c ≠ 249 → jp_in [(249, 0, 0)] c i = false := by intro c i h1; simp [jp_in]; omega
      rw [e, if_neg (by decide), if_pos (show (0 ≤ (w : Int) ∧ (w : Int) < ((ks_nw Z : Nat) : Int)) ∧ (0 ≤ n ∧ n ≤ 60 ∧ a 0 + n ≤ 999) from ⟨c, f⟩), show ((0 : Int) : Int).toNat = 0 from rfl, hA 0 (by decide), jp_add (by omega) (by omega), jp_lm]
      generalize jl_up s 249 0 (a 0 + n) = s1 at *
      obtain ⟨τ, t1, t2, -⟩ := kr_draft (a := ks_u a 0 (a 0 + n)) hW.1 (hV.1.1.u0 (by omega)) A1 (hN.2.1.fr f1 (fun c i _ _ => nf (by omega))) hV.1.2.1 (by omega : w < ks_nw Z)
      have nt : ∀ {c i : Nat}, c < 206 ∨ (206 < c ∧ c ≠ 284) ∨ (c = 206 ∧ i ≠ 58 ∧ i ≠ 106 ∧ i ≠ 55) → jp_in [(206, 58, 59), (284, 0, 0), (206, 106, 107), (206, 55, 56)] c i = false := by intro c i h1; simp [jp_in]; omega
      have A2 := A1.fr t2 (fun i => nt (by omega))
      have g0 : jl_g τ 249 0 = a 0 + n := (A2 0 (by decide)).trans ks_ue
      rw [t1, jp_bd, g0, jp_sub (by omega) (by omega), jp_lm, ks_ue]
      have A3 : kr_A a (jl_up τ 249 0 (a 0 + n - n)) := (A2.up (i := 0) (v := a 0 + n - n) ⟨by omega, by omega⟩).cg (fun j hj => by
        by_cases q : j = 0
        · subst q; rw [ks_ue]; omega
        · rw [ks_un q, ks_un q])
      have f3 : jp_fr kr_FA s (jl_up τ 249 0 (a 0 + n - n)) := ((f1.w (by decide)).tr (t2.w (by decide))).up (by decide)
      refine ⟨_, rfl, f3, hN.frA f3 A3 ?_⟩
      rw [jp_g_ne (by decide), t2.g _ _ (nt (by omega)), f1.g _ _ (nf (by decide))]; exact hN.2.2.2.1
    · have e : (if 0 < ks_nw Z ∧ 0 ≤ n ∧ n ≤ 60 ∧ a 0 + n ≤ 999 then (1 : Int) else 0) = 0 := if_neg (fun q => f q.2)
      rw [e, if_pos rfl, if_neg (show ¬ ((0 ≤ v ∧ v < ((ks_nw Z : Nat) : Int)) ∧ (0 ≤ n ∧ n ≤ 60 ∧ a 0 + n ≤ 999)) from fun q => f q.2)]; exact jE.ret hN
  · rw [if_neg c, if_pos rfl, if_neg (show ¬ ((0 ≤ v ∧ v < ((ks_nw Z : Nat) : Int)) ∧ (0 ≤ n ∧ n ≤ 60 ∧ a 0 + n ≤ 999)) from fun q => c q.1)]; exact jE.ret hN⟩)
theorem kI_octet {v : Int} : kI_call (jf_X11_octet v) (jf_X12_octet v) := kI_see (fun Z Ds a d nx m hV => ⟨if 0 ≤ v ∧ v < d 7 0 then d 6 v.toNat else -1, fun s hs => by
  obtain ⟨H, G, hN, hG, -, -, hM, hP⟩ := hs
  have h27 := hV.2.2.2.2.2.2.1
  have e : ∀ u t, jf_X11_octet_B22 u t = some (u, t) := fun _ _ => rfl
  have e1 : ∀ t, jf_X11_octet_B21 t = some (-1, t) := fun _ => rfl
  rw [jf_X11_octet, hM.2.2.2.2.1.1, e1]
  by_cases c0 : v < 0
  · rw [if_pos c0, if_neg (by omega)]; exact jE.ret trivial
  rw [if_neg c0]
  by_cases c1 : d 7 0 ≤ v
  · rw [if_pos c1, if_neg (by omega)]; exact jE.ret trivial
  rw [if_neg c1, if_pos (show 0 ≤ v ∧ v < ((27 : Nat) : Int) by omega), if_pos (show 0 ≤ v ∧ v < d 7 0 by omega), e, hM.2.2.2.2.1.2 _ (by omega)]; exact jE.ret trivial, fun s hs => by
  obtain ⟨hN, hM, hH, -, -⟩ := hs
  have h27 := hV.2.2.2.2.2.2.1
  have e : ∀ u t, jf_X12_octet_B22 u t = some (u, t) := fun _ _ => rfl
  have e1 : ∀ t, jf_X12_octet_B21 t = some (-1, t) := fun _ => rfl
  rw [jf_X12_octet, hM.2.2.2.2.1.1, e1]
  by_cases c0 : v < 0
  · rw [if_pos c0, if_neg (by omega)]; exact jE.ret hN
  rw [if_neg c0]
  by_cases c1 : d 7 0 ≤ v
  · rw [if_pos c1, if_neg (by omega)]; exact jE.ret hN
  rw [if_neg c1, if_pos (show 0 ≤ v ∧ v < ((27 : Nat) : Int) by omega), if_pos (show 0 ≤ v ∧ v < d 7 0 by omega), e, hM.2.2.2.2.1.2 _ (by omega)]; exact jE.ret hN⟩)
theorem kI_status {v : Int} (hv : jl_n3 v) : kI_call (jf_X11_status v) (jf_X12_status v) := kI_see (fun Z Ds a d nx m hV => ⟨if 0 ≤ v ∧ v ≤ 5 then d 0 v.toNat else -1, fun s hs => by
  obtain ⟨H, G, hN, hG, -, -, hM, hP⟩ := hs
  have e : ∀ u t, jf_X11_status_B20 u t = some (u, t) := fun _ _ => rfl
  have e1 : ∀ t, jf_X11_status_B19 t = some (-1, t) := fun _ => rfl
  rw [jf_X11_status, e1]
  by_cases c0 : v < 0
  · rw [if_pos c0, if_neg (by omega)]; exact jE.ret trivial
  rw [if_neg c0]
  by_cases c1 : 6 ≤ v
  · rw [if_pos c1, if_neg (by omega)]; exact jE.ret trivial
  rw [if_neg c1, if_pos (show 0 ≤ v ∧ v < ((6 : Nat) : Int) by omega), if_pos (show 0 ≤ v ∧ v ≤ 5 by omega), e, hM.1 _ (by omega)]; exact jE.ret trivial, fun s hs => by
  obtain ⟨hN, hM, hH, -, -⟩ := hs
  have e : ∀ u t, jf_X12_status_B22 u t = some (u, t) := fun _ _ => rfl
  rw [jf_X12_status, jx12_isIn s (jl_n36 hv) ⟨by decide, by decide⟩ ⟨by decide, by decide⟩, jp_bd, e]
  by_cases c0 : 0 ≤ v ∧ v ≤ 5
  · rw [if_pos c0, if_neg (by decide), if_pos c0, if_pos (show 0 ≤ v ∧ v < ((6 : Nat) : Int) by omega), e, hM.1 _ (by omega)]; exact jE.ret hN
  · rw [if_neg c0, if_pos rfl, if_neg c0]; exact jE.ret hN⟩)
def kp_plan (Z : jz_Z) (v w : Int) : Int := if 0 ≤ v ∧ v < ((ks_nr Z : Nat) : Int) then (if w = 0 then Z.2.1 7 v.toNat else if w = 1 then Z.2.1 8 v.toNat else if w = 2 then Z.2.1 9 v.toNat else -1) else -1
theorem kI_plan {v w : Int} (hv : jl_n3 v) (hw : jl_n3 w) : kI_call (jf_X11_plan v w) (jf_X12_plan v w) := kI_see (fun Z Ds a d nx m hV => ⟨kp_plan Z v w, fun s hs => by
  obtain ⟨H, G, ⟨hW, hK, hA⟩, hG, -, -, hM, hP⟩ := hs
  have h16 := hW.1.r
  have e1 : ∀ t, jf_X11_plan_B15 t = some (-1, t) := fun _ => rfl
  rw [jf_X11_plan, hW.g0, hW.gr0, hW.n4, e1, kp_plan]
  by_cases c0 : v < 0
  · rw [if_pos c0, if_neg (by omega)]; exact jE.ret trivial
  rw [if_neg c0]
  by_cases c : v < ((ks_nr Z : Nat) : Int)
  · obtain ⟨k, rfl⟩ : ∃ k : Nat, v = (k : Int) := ⟨v.toNat, by omega⟩
    have hrow := hW.2.2.2.2.2.2.2 k (by omega)
    have gH : ∀ x y : jl_O, (if 0 ≤ s 0 2 ∧ (jl_kd H).1 = 8 then x else y) = x := fun x y => if_pos ⟨by rw [hW.2.2.2.1]; omega, jz_kd hW.2.1⟩
    have r16 : 0 ≤ (k : Int) ∧ (k : Int) < ((16 : Nat) : Int) := by omega
    rw [if_pos c, if_pos (show 0 ≤ (k : Int) ∧ (k : Int) < ((ks_nr Z : Nat) : Int) by omega), gH, if_pos r16, Int.toNat_natCast, hrow.1, gH, if_pos r16, hrow.2.1, gH, if_pos r16, hrow.2.2]
    by_cases c0 : w = 0
    · rw [if_pos c0, if_pos c0]; exact jE.ret trivial
    rw [if_neg c0, if_neg c0]
    by_cases c1 : w = 1
    · rw [if_pos c1, if_pos c1]; exact jE.ret trivial
    rw [if_neg c1, if_neg c1]
    by_cases c2 : w = 2
    · rw [if_pos c2, if_pos c2]; exact jE.ret trivial
    rw [if_neg c2, if_neg c2]; exact jE.ret trivial
  · rw [if_neg c, if_neg (by omega)]; exact jE.ret trivial, fun s hs => by
  obtain ⟨hN, hM, hH, -, -⟩ := hs
  have hW := hN.1
  have h16 := hW.1.r
  have e : ∀ u t, jf_X12_plan_B45 u t = some (u, t) := fun _ _ => rfl
  have e1 : ∀ t, jf_X12_plan_B44 t = some (-1, t) := fun _ => rfl
  have nr1 : jl_sub ((ks_nr Z : Nat) : Int) 1 = ((ks_nr Z : Nat) : Int) - 1 := jp_sub (by omega) (by omega)
  rw [jf_X12_plan, hW.nr, jp_bd, nr1, jx12_isIn s (jl_n36 hv) ⟨by decide, by decide⟩ ⟨by omega, by omega⟩, jp_bd, e1, jx12_isIn s (jl_n36 hw) ⟨by decide, by decide⟩ ⟨by decide, by decide⟩, jp_bd, e1, kp_plan]
  by_cases c : 0 ≤ v ∧ v ≤ ((ks_nr Z : Nat) : Int) - 1
  · obtain ⟨k, rfl⟩ : ∃ k : Nat, v = (k : Int) := ⟨v.toNat, by omega⟩
    have hrow := hW.2.2.2.2 k (by omega)
    rw [if_pos c, if_neg (by decide), if_pos (show 0 ≤ (k : Int) ∧ (k : Int) < ((ks_nr Z : Nat) : Int) by omega), Int.toNat_natCast]
    by_cases f : 0 ≤ w ∧ w ≤ 2
    · have a0 : jl_add 48 (jl_mul 3 (k : Int)) = ((48 + 3 * k : Nat) : Int) := by rw [jp_mul (by omega) (by omega), jp_add (by omega) (by omega)]; omega
      have a1 : jl_add ((48 + 3 * k : Nat) : Int) w = ((48 + 3 * k + w.toNat : Nat) : Int) := by rw [jp_add (by omega) (by omega)]; omega
      rw [if_pos f, if_neg (by decide), a0, a1, if_pos (by omega), Int.toNat_natCast, e]
      have hw3 : w = 0 ∨ w = 1 ∨ w = 2 := by omega
      rcases hw3 with rfl | rfl | rfl
      · rw [if_pos rfl, show 48 + 3 * k + (0 : Int).toNat = 48 + 3 * k from rfl, hrow.1]; exact jE.ret hN
      · rw [if_neg (by decide), if_pos rfl, show 48 + 3 * k + (1 : Int).toNat = 48 + (3 * k + 1) from rfl, hrow.2.1]; exact jE.ret hN
      · rw [if_neg (by decide), if_neg (by decide), if_pos rfl, show 48 + 3 * k + (2 : Int).toNat = 48 + (3 * k + 2) from rfl, hrow.2.2]; exact jE.ret hN
    · rw [if_neg f, if_pos rfl, if_neg (show ¬ w = 0 by omega), if_neg (show ¬ w = 1 by omega), if_neg (show ¬ w = 2 by omega)]; exact jE.ret hN
  · rw [if_neg c, if_pos rfl, if_neg (by omega)]; exact jE.ret hN⟩)
