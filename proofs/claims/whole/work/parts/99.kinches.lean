/-! PURE, both: inches -/
theorem kc_M.frG {d : kD} {s τ : jl_Mm} {F : jp_F} (h : kc_M d s) (f : jp_fr F s τ) (w : ∀ c i, c < 3 ∨ (c = 200 ∧ i = 4) ∨ c = 201 ∨ (203 < c ∧ c < 206) → jp_in F c i = false) : kc_M d τ := by
  obtain ⟨h1, h2, h3, h4, h5, h6⟩ := h
  exact ⟨fun i hi => (f.g _ _ (w _ _ (by omega))).trans (h1 i hi), ⟨(f.g _ _ (w _ _ (by omega))).trans h2.1, (f.g _ _ (w _ _ (by omega))).trans h2.2⟩, ⟨(f.g _ _ (w _ _ (by omega))).trans h3.1, fun i hi => (f.g _ _ (w _ _ (by omega))).trans (h3.2 i hi)⟩, ⟨(f.g _ _ (w _ _ (by omega))).trans h4.1, fun i hi => (f.g _ _ (w _ _ (by omega))).trans (h4.2 i hi)⟩, ⟨(f.g _ _ (w _ _ (by omega))).trans h5.1, fun i hi => (f.g _ _ (w _ _ (by omega))).trans (h5.2 i hi)⟩, (f.g _ _ (w _ _ (by omega))).trans h6⟩
/-- what the class's calls on lengths write, the reference's -/
def kc_FV : jp_F := [(196, 0, 0), (197, 0, 0), (198, 0, 0), (199, 0, 0), (191, 0, 0), (192, 0, 0), (193, 0, 0), (200, 6, 11), (202, 0, 0), (203, 0, 0)]
theorem kc_FVn {c i : Nat} (h : c < 191 ∨ 199 < c) (h2 : c = 200 → i < 6) (h3 : c ≠ 202) (h4 : c ≠ 203) : jp_in kc_FV c i = false := by simp [jp_in, kc_FV]; omega
theorem kc_FTV {s τ : jl_Mm} (f : jp_fr kc_FT s τ) : jp_fr kc_FV s τ := f.ws (by intro c i h; simp [jp_in, kc_FT, kc_FV] at h ⊢; omega)
def kr_FV : jp_F := (256, 0, 0) :: kr_FL
theorem kI_see2 {fc fr : jl_Mm → jl_O} (h : ∀ Z Ds a d nx n, kIv Z Ds a d nx n → ∃ r, (∀ s, kIc Z Ds a d nx n s → jE (fc s) r kc_FV s (fun _ => True)) ∧ (∀ s, kIr Z Ds a d nx n s → jE (fr s) r kr_FV s (kr_N Z Ds a))) : kI_call fc fr := by
  refine kI_mk (fun Z Ds a d nx n hv => ?_)
  obtain ⟨r, h1, h2⟩ := h Z Ds a d nx n hv
  have nV : ∀ {c i : Nat}, c ≠ 256 → jp_in kr_FL c i = false → jp_in kr_FV c i = false := by
    intro c i h1 h2
    have q : ((256 : Nat) == c) = false := beq_eq_false_iff_ne.mpr (by omega)
    show (((256 : Nat) == c && _) || jp_in kr_FL c i) = false
    rw [q, h2]; rfl
  refine ⟨r, kc_FV, kr_FV, Z, Ds, a, d, nx, n, fun c i hc => kc_FVn (by omega) (by omega) (by omega) (by omega), fun c i hc => nV (by omega) (kr_FLn (by omega) (by intro z; omega) (by omega)), hv, fun s hs => ?_, fun s hs => ?_⟩
  · obtain ⟨τ, t1, t2, -⟩ := h1 s hs
    exact ⟨τ, t1, t2, hs.m t2 (fun c i h1 h2 => kc_FVn (by omega) (by omega) (by omega) (by omega)) ⟨by decide, by decide⟩ (fun _ _ => rfl) (hs.M.frG t2 (fun c i hc => kc_FVn (by omega) (by omega) (by omega) (by omega)))⟩
  · obtain ⟨τ, t1, t2, t3⟩ := h2 s hs
    refine ⟨τ, t1, t2, hs.fr t2 (fun c i hc => nV ?_ (kr_FLn ?_ ?_ ?_)) t3⟩ <;> (rcases hc with hc | hc | hc | hc | hc | hc | hc | hc <;> first | omega | (rcases hc with hc | hc <;> omega))
theorem kIc.S {Z : jz_Z} {Ds : Nat → List Int} {a : Nat → Int} {d : kD} {nx n : Nat} {s : jl_Mm} (hv : kIv Z Ds a d nx n) (h : kIc Z Ds a d nx n s) : kt_S d (d 5 0).toNat s := by
  have h5 := hv.2.2.2.2.1
  have M := h.M.2.2.2.1
  exact ⟨by rw [M.1]; omega, fun i hi => M.2 i (by omega)⟩
theorem kIr.R {Z : jz_Z} {Ds : Nat → List Int} {a : Nat → Int} {d : kD} {nx n : Nat} {s : jl_Mm} (hv : kIv Z Ds a d nx n) (h : kIr Z Ds a d nx n s) : kt_R d (d 5 0).toNat s := by
  have h5 := hv.2.2.2.2.1
  have M := h.2.1.2.2.2.1
  exact ⟨by rw [M.1]; omega, fun i hi => M.2 i (by omega)⟩
theorem kIv.r {Z : jz_Z} {Ds : Nat → List Int} {a : Nat → Int} {d : kD} {nx n : Nat} (hv : kIv Z Ds a d nx n) : (d 5 0).toNat ≤ 16 ∧ ∀ k, k < (d 5 0).toNat → 0 ≤ d 4 (3 * k) ∧ d 4 (3 * k) ≤ 30 := by
  have h5 := hv.2.2.2.2.1
  exact ⟨by omega, fun k hk => (hv.2.2.2.2.2.1 k (by omega)).1⟩
def kp_inches (Z : jz_Z) (Ds : Nat → List Int) (a : Nat → Int) (d : kD) (v k : Int) : Int :=
  if (0 ≤ v ∧ v < ((ks_nl Z : Nat) : Int)) ∧ 0 < a (8 + v.toNat) then (if k = -1 then kt_cnt Z Ds a d (d 5 0).toNat v.toNat 99 else kt_kth Z Ds a d (d 5 0).toNat v.toNat k 99) else -1
theorem kc_inches {Z : jz_Z} {Ds : Nat → List Int} {a : Nat → Int} {d : kD} {nx n : Nat} {v k : Int} {s : jl_Mm} (hV : kIv Z Ds a d nx n) (hs : kIc Z Ds a d nx n s) : jE (jf_X11_inches v k s) (kp_inches Z Ds a d v k) kc_FV s (fun _ => True) := by
  obtain ⟨H, hN, hG⟩ := hs.nA
  have h8 := hN.1.1.l
  have z : ∀ t, jf_X11_inches_B58 t = some (-1, t) := fun _ => rfl
  have z9 : ∀ q t, jf_X11_inches_B59 q t = some (q, t) := fun _ _ => rfl
  rw [jf_X11_inches]
  by_cases c : (0 ≤ v ∧ v < ((ks_nl Z : Nat) : Int)) ∧ 0 < a (8 + v.toNat)
  · obtain ⟨l, rfl⟩ : ∃ l : Nat, v = (l : Int) := ⟨v.toNat, by omega⟩
    obtain ⟨τ, t1, t2, t3⟩ := kc_gather (l := l) hN hV.1 (hs.S hV) hV.r.1 hV.r.2 (by omega)
    rw [kc_lit1 hN.1 hN.2.2 c, jp_bd, if_neg (by decide), t1, jp_bd, kp_inches, if_pos c, Int.toNat_natCast, t3.1, z]
    by_cases ck : k = -1
    · rw [if_pos ck, if_pos ck]
      exact ⟨τ, rfl, kc_FTV t2, trivial⟩
    rw [if_neg ck, if_neg ck]
    by_cases c0 : k < 0
    · rw [if_pos c0, kt_kth_hi (by omega)]; exact ⟨τ, rfl, kc_FTV t2, trivial⟩
    rw [if_neg c0]
    by_cases c1 : kt_cnt Z Ds a d (d 5 0).toNat l 99 ≤ k
    · rw [if_pos c1, kt_kth_hi (by omega)]; exact ⟨τ, rfl, kc_FTV t2, trivial⟩
    have cb : kt_cnt Z Ds a d (d 5 0).toNat l 99 ≤ ((99 : Nat) : Int) := (ku_n_ge (fun j => kt_fit Z Ds a d (d 5 0).toNat l (j + 1)) 99).2
    obtain ⟨j, j1, j2, j3⟩ := kt_ex (Z := Z) (Ds := Ds) (a := a) (d := d) (m := (d 5 0).toNat) (l := l) (by omega : 0 ≤ k) 99 (by omega)
    have e := t3.2 j j1 j2
    rw [j3] at e
    rw [if_neg c1, if_pos (by omega), e, z9, kt_kth_of j2 j3 99 j1]
    exact ⟨τ, rfl, kc_FTV t2, trivial⟩
  · rw [kc_lit0 hN.1 hN.2.2 c, jp_bd, if_pos rfl, kp_inches, if_neg c]
    exact jE.ret trivial
theorem kr_inches {Z : jz_Z} {Ds : Nat → List Int} {a : Nat → Int} {d : kD} {nx n : Nat} {v k : Int} {s : jl_Mm} (hv : jl_n3 v) (hk : jl_n3 k) (hV : kIv Z Ds a d nx n) (hs : kIr Z Ds a d nx n s) : jE (jf_X12_inches v k s) (kp_inches Z Ds a d v k) kr_FV s (kr_N Z Ds a) := by
  have hN := hs.1
  have h8 := hN.1.1.l
  have hk2 := hk.2
  have z : ∀ t, jf_X12_inches_B22 t = some (-1, t) := fun _ => rfl
  rw [jf_X12_inches, hN.1.isL hv, jp_bd, z]
  by_cases c1 : 0 ≤ v ∧ v < ((ks_nl Z : Nat) : Int)
  · obtain ⟨l, rfl⟩ : ∃ l : Nat, v = (l : Int) := ⟨v.toNat, by omega⟩
    rw [if_pos c1, if_neg (by decide), kp_inches, Int.toNat_natCast]
    by_cases c2 : 0 < a (8 + l)
    · rw [kr_lit1 hN.2.2.1 (by omega) c2, jp_bd, if_neg (by decide), if_pos (show (0 ≤ (l : Int) ∧ (l : Int) < ((ks_nl Z : Nat) : Int)) ∧ 0 < a (8 + l) from ⟨c1, c2⟩)]
      by_cases c3 : -1 ≤ k
      · obtain ⟨τ, t1, t2, t3, t4⟩ := kr_lays (l := l) hN hV.1 hV.r.1 (by omega) (hs.R hV)
        have t2' : jp_fr kr_FV s τ := t2.w (by decide)
        rw [if_pos c3, t1, jp_bd]
        by_cases ck : k = -1
        · rw [if_pos ck, if_pos ck, t4.1]; exact ⟨τ, rfl, t2', t3⟩
        · rw [if_neg ck, if_neg ck, kr_inL (by omega) t4]; exact ⟨τ, rfl, t2', t3⟩
      · rw [if_neg c3, if_neg (show ¬ k = -1 by omega), z, kt_kth_hi (by omega)]; exact jE.ret hN
    · rw [kr_lit0 hN.2.2.1 (by omega) c2, jp_bd, if_pos rfl, z, if_neg (fun q => c2 q.2)]; exact jE.ret hN
  · rw [if_neg c1, if_pos rfl, kp_inches, if_neg (fun q => c1 q.1)]; exact jE.ret hN
theorem kI_inches {v k : Int} (hv : jl_n3 v) (hk : jl_n3 k) : kI_call (jf_X11_inches v k) (jf_X12_inches v k) := kI_see2 (fun Z Ds a d nx n hV => ⟨_, fun s hs => kc_inches hV hs, fun s hs => kr_inches hv hk hV hs⟩)
