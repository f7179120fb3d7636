/-! PURE: all that stands between two calls. d: 0 refused, 1 fault and place, 2 bytes, 3 how many, 4 seen, 5 rows, 6 picture, 7 its size, 8 seed, 9 where the past goes on and how many ACTS, 10.. the past by the reference's places -/
abbrev kD : Type := Nat → Nat → Int
/-- a ring of what is kept -/
def kc_G (q : Nat) (a : Nat → Int) (s : jl_Mm) : Prop :=
  jl_g s q 3 = a 24 ∧ ∃ f : Nat, f < 40 ∧ jl_g s q 2 = (f : Int) ∧ ∀ k : Nat, (k : Int) < a 24 → jl_g s (q + 1) ((f + k) % 40) = a (25 + 2 * k) ∧ jl_g s (q + 2) ((f + k) % 40) = a (26 + 2 * k)
def kc_cur (s : jl_Mm) : Prop := ∀ q, q = 3 ∨ q = 18 ∨ q = 33 → ∃ w : Nat, (w = 0 ∨ w = 1 ∨ w = 2) ∧ jl_g s q 5 = (w : Int)
/-- the past: nx where it goes on, n how many -/
def kc_P (P9 : Nat) (d : kD) (nx n : Nat) (s : jl_Mm) : Prop :=
  jl_g s 47 2 = (nx : Int) ∧ jl_g s 47 3 = (n : Int) ∧ ∀ j, j < n → kc_A P9 (50 + 7 * ((nx + 19 - j) % 20)) (d (10 + (nx + 20 - j) % 20)) s ∧ kc_G (54 + 7 * ((nx + 19 - j) % 20)) (d (10 + (nx + 20 - j) % 20)) s
def kc_M (d : kD) (s : jl_Mm) : Prop :=
  (∀ i, i < 6 → jl_g s 205 i = d 0 i) ∧ (jl_g s 0 15 = d 1 0 ∧ jl_g s 0 16 = d 1 1) ∧ (jl_g s 1 1 = d 3 0 ∧ ∀ i : Nat, (i : Int) < d 3 0 → jl_g s 2 i = d 2 i) ∧
  (jl_g s 200 4 = d 5 0 ∧ ∀ i : Nat, (i : Int) < 3 * d 5 0 → jl_g s 201 i = d 4 i) ∧ (jl_g s 0 13 = d 7 0 ∧ ∀ i : Nat, (i : Int) < d 7 0 → jl_g s 204 i = d 6 i) ∧ jl_g s 0 17 = d 8 0
def kr_M (d : kD) (s : jl_Mm) : Prop :=
  (∀ i, i < 6 → jl_g s 208 i = d 0 i) ∧ (jl_g s 206 7 = d 1 0 ∧ jl_g s 206 8 = d 1 1) ∧ (jl_g s 206 1 = d 3 0 ∧ ∀ i : Nat, (i : Int) < d 3 0 → jl_g s 207 i = d 2 i) ∧
  (jl_g s 206 65 = d 5 0 ∧ ∀ i : Nat, (i : Int) < 3 * d 5 0 → jl_g s 253 i = d 4 i) ∧ (jl_g s 206 110 = d 7 0 ∧ ∀ i : Nat, (i : Int) < d 7 0 → jl_g s 285 i = d 6 i) ∧ jl_gl s 206 74 = d 8 0
def kr_H (d : kD) (nx n : Nat) (s : jl_Mm) : Prop :=
  jl_g s 206 73 = (nx : Int) ∧ jl_g s 206 72 = (n : Int) ∧ ∀ j, j < n → ∀ i, i < 105 → jl_g s 257 (105 * ((nx + 20 - j) % 20) + i) = d (10 + (nx + 20 - j) % 20) i
/-- the names of the standing street -/
def kr_nm (Z : jz_Z) (s : jl_Mm) : Prop :=
  (∀ i : Nat, (i : Int) < Z.1 2 → jl_gl s 242 (16 + i) = jh_cn (Z.2.2 1 i) ∧ jz_vn (Z.2.2 1 i)) ∧ ∀ i : Nat, (i : Int) < Z.1 3 → jl_gl s 242 (16 + (8 + i)) = jh_cn (Z.2.2 4 i) ∧ jz_vn (Z.2.2 4 i)
/-- the class, the reference, what can be -/
def kIc (Z : jz_Z) (Ds : Nat → List Int) (a : Nat → Int) (d : kD) (nx n : Nat) (s : jl_Mm) : Prop :=
  ∃ H G : Nat, kc_N H Z Ds a s ∧ kc_G 44 a s ∧ (s 0 3 = (G : Int) ∧ jz_Hq G ∧ G ≠ H) ∧ kc_cur s ∧ kc_M d s ∧ kc_P (ks_np Z) d nx n s
def kIr (Z : jz_Z) (Ds : Nat → List Int) (a : Nat → Int) (d : kD) (nx n : Nat) (s : jl_Mm) : Prop :=
  kr_N Z Ds a s ∧ kr_M d s ∧ kr_H d nx n s ∧ jy_W s ∧ kr_nm Z s
def kIv (Z : jz_Z) (Ds : Nat → List Int) (a : Nat → Int) (d : kD) (nx n : Nat) : Prop :=
  kz_N Z Ds a ∧ (nx < 20 ∧ n ≤ 20) ∧ (0 ≤ d 3 0 ∧ d 3 0 ≤ 1600) ∧ (∀ i : Nat, (i : Int) < d 3 0 → 0 ≤ d 2 i ∧ d 2 i ≤ 255) ∧ (0 ≤ d 5 0 ∧ d 5 0 ≤ 16) ∧
  (∀ k : Nat, (k : Int) < d 5 0 → (0 ≤ d 4 (3 * k) ∧ d 4 (3 * k) ≤ 30) ∧ (0 ≤ d 4 (3 * k + 1) ∧ d 4 (3 * k + 1) ≤ 255) ∧ (0 ≤ d 4 (3 * k + 2) ∧ d 4 (3 * k + 2) ≤ 8)) ∧
  (0 ≤ d 7 0 ∧ d 7 0 ≤ 27) ∧ (0 ≤ d 8 0 ∧ d 8 0 < 2147483648) ∧ ∀ j, j < n → kz_N Z Ds (d (10 + (nx + 20 - j) % 20))
theorem kc_G.fr {q : Nat} {a : Nat → Int} {s τ : jl_Mm} {F : jp_F} (h : kc_G q a s) (f : jp_fr F s τ) (w : ∀ c i, q ≤ c → c < q + 3 → jp_in F c i = false) : kc_G q a τ := by
  obtain ⟨h1, p, h2, h3, h4⟩ := h
  exact ⟨(f.g _ _ (w _ _ (by omega) (by omega))).trans h1, p, h2, (f.g _ _ (w _ _ (by omega) (by omega))).trans h3, fun k hk => ⟨(f.g _ _ (w _ _ (by omega) (by omega))).trans (h4 k hk).1, (f.g _ _ (w _ _ (by omega) (by omega))).trans (h4 k hk).2⟩⟩
theorem kc_P.fr {P9 : Nat} {d : kD} {nx n : Nat} {s τ : jl_Mm} {F : jp_F} (h : kc_P P9 d nx n s) (f : jp_fr F s τ) (w : ∀ c i, 47 ≤ c → c < 190 → jp_in F c i = false) : kc_P P9 d nx n τ := by
  obtain ⟨h1, h2, h3⟩ := h
  refine ⟨(f.g _ _ (w _ _ (by omega) (by omega))).trans h1, (f.g _ _ (w _ _ (by omega) (by omega))).trans h2, fun j hj => ?_⟩
  obtain ⟨x, y⟩ := h3 j hj
  exact ⟨x.fr f (w _ _ (by omega) (by omega)) (w _ _ (by omega) (by omega)) (fun c i _ _ => w _ _ (by omega) (by omega)), y.fr f (fun c i _ _ => w _ _ (by omega) (by omega))⟩
theorem kc_M.fr {d : kD} {s τ : jl_Mm} {F : jp_F} (h : kc_M d s) (f : jp_fr F s τ) (w : ∀ c i, c < 191 ∨ 199 < c → c < 206 → jp_in F c i = false) : kc_M d τ := by
  obtain ⟨h1, h2, h3, h4, h5, h6⟩ := h
  exact ⟨fun i hi => (f.g _ _ (w _ _ (by omega) (by omega))).trans (h1 i hi), ⟨(f.g _ _ (w _ _ (by omega) (by omega))).trans h2.1, (f.g _ _ (w _ _ (by omega) (by omega))).trans h2.2⟩, ⟨(f.g _ _ (w _ _ (by omega) (by omega))).trans h3.1, fun i hi => (f.g _ _ (w _ _ (by omega) (by omega))).trans (h3.2 i hi)⟩, ⟨(f.g _ _ (w _ _ (by omega) (by omega))).trans h4.1, fun i hi => (f.g _ _ (w _ _ (by omega) (by omega))).trans (h4.2 i hi)⟩, ⟨(f.g _ _ (w _ _ (by omega) (by omega))).trans h5.1, fun i hi => (f.g _ _ (w _ _ (by omega) (by omega))).trans (h5.2 i hi)⟩, (f.g _ _ (w _ _ (by omega) (by omega))).trans h6⟩
theorem kIc.fr {Z : jz_Z} {Ds : Nat → List Int} {a : Nat → Int} {d : kD} {nx n : Nat} {s τ : jl_Mm} {F : jp_F} (h : kIc Z Ds a d nx n s) (f : jp_fr F s τ) (w : ∀ c i, c < 191 ∨ 199 < c → c < 206 → jp_in F c i = false) : kIc Z Ds a d nx n τ := by
  obtain ⟨H, G, ⟨hW, hK, hA⟩, hG, ⟨g1, g2, g3⟩, hc, hM, hP⟩ := h
  refine ⟨H, G, ⟨hW.fr f (w _ _ (by omega) (by omega)) (w _ _ (by omega) (by omega)) (fun c i _ _ => w _ _ (by omega) (by omega)), hK.fr hW.2.1 f (fun c i _ _ => w _ _ (by omega) (by omega)), hA.fr f (w _ _ (by omega) (by omega)) (w _ _ (by omega) (by omega)) (fun c i _ _ => w _ _ (by omega) (by omega))⟩, hG.fr f (fun c i _ _ => w _ _ (by omega) (by omega)), ⟨(f _ _ (w _ _ (by omega) (by omega))).trans g1, g2, g3⟩, fun q hq => ?_, hM.fr f w, hP.fr f (fun c i _ _ => w _ _ (by omega) (by omega))⟩
  obtain ⟨v, hv, e⟩ := hc q hq
  exact ⟨v, hv, (f.g _ _ (w _ _ (by omega) (by omega))).trans e⟩
/-- the cells that the reference keeps between two calls, but the street's, the hour's -/
def kr_us (c i : Nat) : Prop := c = 207 ∨ c = 208 ∨ c = 242 ∨ c = 253 ∨ c = 257 ∨ c = 285 ∨ jy_is c ∨ (c = 206 ∧ (i = 1 ∨ i = 7 ∨ i = 8 ∨ i = 65 ∨ i = 72 ∨ i = 73 ∨ i = 74 ∨ i = 110))
theorem kr_M.fr {d : kD} {s τ : jl_Mm} {F : jp_F} (h : kr_M d s) (f : jp_fr F s τ) (w : ∀ c i, kr_us c i → jp_in F c i = false) : kr_M d τ := by
  obtain ⟨h1, h2, h3, h4, h5, h6⟩ := h
  have z : ∀ i, (i = 1 ∨ i = 7 ∨ i = 8 ∨ i = 65 ∨ i = 72 ∨ i = 73 ∨ i = 74 ∨ i = 110) → jp_in F 206 i = false := fun i hi => w 206 i (Or.inr (Or.inr (Or.inr (Or.inr (Or.inr (Or.inr (Or.inr ⟨rfl, hi⟩)))))))
  exact ⟨fun i hi => (f.g _ _ (w _ _ (Or.inr (Or.inl rfl)))).trans (h1 i hi), ⟨(f.g _ _ (z _ (by omega))).trans h2.1, (f.g _ _ (z _ (by omega))).trans h2.2⟩, ⟨(f.g _ _ (z _ (by omega))).trans h3.1, fun i hi => (f.g _ _ (w _ _ (Or.inl rfl))).trans (h3.2 i hi)⟩, ⟨(f.g _ _ (z _ (by omega))).trans h4.1, fun i hi => (f.g _ _ (w _ _ (Or.inr (Or.inr (Or.inr (Or.inl rfl)))))).trans (h4.2 i hi)⟩, ⟨(f.g _ _ (z _ (by omega))).trans h5.1, fun i hi => (f.g _ _ (w _ _ (Or.inr (Or.inr (Or.inr (Or.inr (Or.inr (Or.inl rfl)))))))).trans (h5.2 i hi)⟩, (f.gl _ _ (z _ (by omega))).trans h6⟩
theorem kr_H.fr {d : kD} {nx n : Nat} {s τ : jl_Mm} {F : jp_F} (h : kr_H d nx n s) (f : jp_fr F s τ) (w : ∀ c i, kr_us c i → jp_in F c i = false) : kr_H d nx n τ := by
  obtain ⟨h1, h2, h3⟩ := h
  have z : ∀ i, (i = 1 ∨ i = 7 ∨ i = 8 ∨ i = 65 ∨ i = 72 ∨ i = 73 ∨ i = 74 ∨ i = 110) → jp_in F 206 i = false := fun i hi => w 206 i (Or.inr (Or.inr (Or.inr (Or.inr (Or.inr (Or.inr (Or.inr ⟨rfl, hi⟩)))))))
  exact ⟨(f.g _ _ (z _ (by omega))).trans h1, (f.g _ _ (z _ (by omega))).trans h2, fun j hj i hi => (f.g _ _ (w _ _ (Or.inr (Or.inr (Or.inr (Or.inr (Or.inl rfl))))))).trans (h3 j hj i hi)⟩
theorem kr_nm.fr {Z : jz_Z} {s τ : jl_Mm} {F : jp_F} (h : kr_nm Z s) (f : jp_fr F s τ) (w : ∀ c i, kr_us c i → jp_in F c i = false) : kr_nm Z τ :=
  ⟨fun i hi => ⟨(f.gl _ _ (w _ _ (Or.inr (Or.inr (Or.inl rfl))))).trans (h.1 i hi).1, (h.1 i hi).2⟩, fun i hi => ⟨(f.gl _ _ (w _ _ (Or.inr (Or.inr (Or.inl rfl))))).trans (h.2 i hi).1, (h.2 i hi).2⟩⟩
/-- the reference, where its street and its hour stand -/
theorem kIr.fr {Z : jz_Z} {Ds : Nat → List Int} {a : Nat → Int} {d : kD} {nx n : Nat} {s τ : jl_Mm} {F : jp_F} (h : kIr Z Ds a d nx n s) (f : jp_fr F s τ) (w : ∀ c i, kr_us c i → jp_in F c i = false) (hN : kr_N Z Ds a τ) : kIr Z Ds a d nx n τ :=
  ⟨hN, h.2.1.fr f w, h.2.2.1.fr f w, h.2.2.2.1.fr f (fun c i hc => w c i (Or.inr (Or.inr (Or.inr (Or.inr (Or.inr (Or.inr (Or.inl hc)))))))), h.2.2.2.2.fr f w⟩
theorem kr_N.fr {Z : jz_Z} {Ds : Nat → List Int} {a : Nat → Int} {s τ : jl_Mm} {F : jp_F} (h : kr_N Z Ds a s) (f : jp_fr F s τ) (w : ∀ c i, 241 ≤ c → c < 250 → jp_in F c i = false) (w2 : jp_in F 206 63 = false ∧ jp_in F 206 54 = false) : kr_N Z Ds a τ :=
  ⟨h.1.fr f (fun c i _ _ => w _ _ (by omega) (by omega)), h.2.1.fr f (fun c i _ _ => w _ _ (by omega) (by omega)), h.2.2.1.fr f (fun i => w _ _ (by omega) (by omega)), (f.g _ _ w2.1).trans h.2.2.2.1, (f.g _ _ w2.2).trans h.2.2.2.2⟩
/-- what the class does leaves the reference -/
theorem kIr.lo {Z : jz_Z} {Ds : Nat → List Int} {a : Nat → Int} {d : kD} {nx n : Nat} {s τ : jl_Mm} {F : jp_F} (h : kIr Z Ds a d nx n s) (f : jp_fr F s τ) (w : ∀ c i, 206 ≤ c → jp_in F c i = false) : kIr Z Ds a d nx n τ :=
  h.fr f (fun c i hc => w c i (by rcases hc with hc | hc | hc | hc | hc | hc | hc | hc <;> first | omega | (rcases hc with hc | hc <;> omega) | (obtain ⟨hc, -⟩ := hc; omega))) (h.1.fr f (fun c i _ _ => w _ _ (by omega)) ⟨w _ _ (by decide), w _ _ (by decide)⟩)
theorem kIc.hi {Z : jz_Z} {Ds : Nat → List Int} {a : Nat → Int} {d : kD} {nx n : Nat} {s τ : jl_Mm} {F : jp_F} (h : kIc Z Ds a d nx n s) (f : jp_fr F s τ) (w : ∀ c i, c < 206 → jp_in F c i = false) : kIc Z Ds a d nx n τ := h.fr f (fun c i _ hc => w c i hc)
/-- both, in what stands -/
def kI (s : jl_Mm) : Prop := ∃ Z Ds a d nx n, kIv Z Ds a d nx n ∧ kIc Z Ds a d nx n s ∧ kIr Z Ds a d nx n s
/-- a call of both: they answer alike and stand alike -/
def kI_call (fc fr : jl_Mm → jl_O) : Prop := ∀ s, kI s → ∃ r τ υ, fc s = some (r, τ) ∧ fr τ = some (r, υ) ∧ kI υ
theorem kI_mk {fc fr : jl_Mm → jl_O} (h : ∀ Z Ds a d nx n, kIv Z Ds a d nx n → ∃ r Fc Fr Z' Ds' a' d' nx' n', (∀ c i, 206 ≤ c → jp_in Fc c i = false) ∧ (∀ c i, c < 206 → jp_in Fr c i = false) ∧ kIv Z' Ds' a' d' nx' n' ∧ (∀ s, kIc Z Ds a d nx n s → jE (fc s) r Fc s (kIc Z' Ds' a' d' nx' n')) ∧ (∀ s, kIr Z Ds a d nx n s → jE (fr s) r Fr s (kIr Z' Ds' a' d' nx' n'))) : kI_call fc fr := by
  rintro s ⟨Z, Ds, a, d, nx, n, hv, hc, hr⟩
  obtain ⟨r, Fc, Fr, Z', Ds', a', d', nx', n', wc, wr, hv', gc, gr⟩ := h Z Ds a d nx n hv
  obtain ⟨τ, t1, t2, t3⟩ := gc s hc
  obtain ⟨υ, u1, u2, u3⟩ := gr τ (hr.lo t2 wc)
  exact ⟨r, τ, υ, t1, u1, Z', Ds', a', d', nx', n', hv', t3.hi u2 wr, u3⟩
/-- a call that leaves all as it stands: of the class within its scratch, of the reference within its -/
theorem kI_see {fc fr : jl_Mm → jl_O} (h : ∀ Z Ds a d nx n, kIv Z Ds a d nx n → ∃ r, (∀ s, kIc Z Ds a d nx n s → jE (fc s) r kc_FB s (fun _ => True)) ∧ (∀ s, kIr Z Ds a d nx n s → jE (fr s) r kr_FA s (kr_N Z Ds a))) : kI_call fc fr := by
  refine kI_mk (fun Z Ds a d nx n hv => ?_)
  obtain ⟨r, h1, h2⟩ := h Z Ds a d nx n hv
  refine ⟨r, kc_FB, kr_FA, Z, Ds, a, d, nx, n, fun c i hc => kc_FBn (by omega), fun c i hc => kr_FAn (by omega) (by intro z; omega) (by omega), hv, fun s hs => ?_, fun s hs => ?_⟩
  · obtain ⟨τ, t1, t2, -⟩ := h1 s hs
    exact ⟨τ, t1, t2, hs.fr t2 (fun c i h1 _ => kc_FBn h1)⟩
  · obtain ⟨τ, t1, t2, t3⟩ := h2 s hs
    refine ⟨τ, t1, t2, hs.fr t2 (fun c i hc => kr_FAn ?_ ?_ ?_) t3⟩ <;> (rcases hc with hc | hc | hc | hc | hc | hc | hc | hc <;> first | omega | (rcases hc with hc | hc <;> omega))
theorem kc_FAB {o : jl_O} {r : Int} {s : jl_Mm} (h : jE o r kc_FA s (fun _ => True)) : jE o r kc_FB s (fun _ => True) := h.mono (by decide) (fun _ _ _ => trivial)
/-- the calls ahead -/
theorem kI_later {v n : Int} (hv : jl_n3 v) (hn : jl_n3 n) : kI_call (jf_X11_later v n) (jf_X12_later v n) := kI_see (fun Z Ds a d nx m hV => ⟨_, fun s ⟨H, G, hN, _⟩ => kc_FAB (kc_later hV.1 hN v n), fun s hs => kr_later hV.1 hs.1 hv hn⟩)
theorem kI_held {v n : Int} (hv : jl_n3 v) (hn : jl_n3 n) : kI_call (jf_X11_held v n) (jf_X12_held v n) := kI_see (fun Z Ds a d nx m hV => ⟨_, fun s ⟨H, G, hN, _⟩ => kc_FAB (kc_held hV.1 hN v n), fun s hs => kr_heldC hV.1 hs.1 hv hn⟩)
theorem kI_out {v : Int} (hv : jl_n3 v) : kI_call (jf_X11_out v) (jf_X12_out v) := kI_see (fun Z Ds a d nx m hV => ⟨_, fun s ⟨H, G, hN, _⟩ => kc_FAB (kc_outC hV.1 hN v), fun s hs => kr_outC hV.1 hs.1 hv⟩)
theorem kI_trusted {v n : Int} (hv : jl_n3 v) (hn : jl_n3 n) : kI_call (jf_X11_trusted v n) (jf_X12_trusted v n) := kI_see (fun Z Ds a d nx m hV => ⟨_, fun s ⟨H, G, hN, _⟩ => kc_FAB (kc_trusted hV.1 hN v n), fun s hs => kr_trusted hV.1 hs.1 hv hn⟩)
theorem kI_shorts {v n : Int} (hv : jl_n3 v) (hn : jl_n3 n) : kI_call (jf_X11_shorts v n) (jf_X12_shorts v n) := kI_see (fun Z Ds a d nx m hV => ⟨_, fun s ⟨H, G, hN, _⟩ => kc_FAB (kc_shorts hV.1 hN v n), fun s hs => kr_shorts hV.1 hs.1 hv hn⟩)
theorem kI_together {v n : Int} (hv : jl_n3 v) (hn : jl_n3 n) : kI_call (jf_X11_together v n) (jf_X12_together v n) := kI_see (fun Z Ds a d nx m hV => ⟨_, fun s ⟨H, G, hN, _⟩ => kc_FAB (kc_together hV.1 hN hv n), fun s hs => kr_together hV.1 hs.1 hv hn⟩)
theorem kI_keystone {v n : Int} (hv : jl_n3 v) (hn : jl_n3 n) : kI_call (jf_X11_keystone v n) (jf_X12_keystone v n) := kI_see (fun Z Ds a d nx m hV => ⟨_, fun s ⟨H, G, hN, _⟩ => kc_keystone hV.1 hN v n, fun s hs => kr_keystone hV.1 hs.1 hv hn⟩)
theorem kI_change {v n : Int} (hv : jl_n3 v) (hn : jl_n3 n) : kI_call (jf_X11_change v n) (jf_X12_change v n) := kI_see (fun Z Ds a d nx m hV => ⟨_, fun s ⟨H, G, hN, _⟩ => kc_change hV.1 hN v n, fun s hs => kr_change hV.1 hs.1 hv hn⟩)
theorem kI_odds {v : Int} (hv : jl_n3 v) : kI_call (jf_X11_odds v) (jf_X12_odds v) := kI_see (fun Z Ds a d nx m hV => ⟨_, fun s ⟨H, G, hN, _⟩ => kc_FAB (kc_odds hV.1 hN v), fun s hs => kr_odds hV.1 hs.1 hv⟩)
