/-! PURE, both: street -/
def kz_U (w : Nat) : List Int := if w = 0 then [1000] else if w = 1 then [1001, 43, 1] else [13]
def kz_sl (r : List Int × jz_Z) (v : Nat) : List Int := (r.1.take (r.2.1 (20 + v)).toNat).drop (r.2.1 (10 + v)).toNat
abbrev kz_tt (r : List Int × jz_Z) (v : Nat) : Prop := r.2.1 (10 + v) < r.2.1 (20 + v)
def kz_bd (r : List Int × jz_Z) : Prop := ∀ v, v < 3 → 0 ≤ r.2.1 (10 + v) ∧ 0 ≤ r.2.1 (20 + v) ∧ r.2.1 (20 + v) ≤ (r.1.length : Int)
/-- the codes of part w -/
def kz_D (r : List Int × jz_Z) (w : Nat) : List Int := if kz_tt r w then kz_sl r w else kz_U w
theorem kz_UT {w : Nat} (hw : w < 3) : kv_T w (decide (w = 2)) (kz_U w) := by
  have h : w = 0 ∨ w = 1 ∨ w = 2 := by omega
  rcases h with rfl | rfl | rfl
  · refine ⟨by decide, fun c hc => ?_⟩
    have : c = 1000 := by simpa [kz_U] using hc
    subst this
    exact ⟨by decide, Or.inr (Or.inl (by decide))⟩
  · refine ⟨by decide, fun c hc => ?_⟩
    have : c = 1001 ∨ c = 43 ∨ c = 1 := by simpa [kz_U] using hc
    rcases this with rfl | rfl | rfl
    · exact ⟨by decide, Or.inr (Or.inl (by decide))⟩
    · exact ⟨by decide, Or.inr (Or.inr ⟨16, by decide, by decide⟩)⟩
    · exact ⟨by decide, Or.inl (by decide)⟩
  · refine ⟨by decide, fun c hc => ?_⟩
    have : c = 13 := by simpa [kz_U] using hc
    subst this
    exact ⟨by decide, Or.inl (by decide)⟩
theorem kz_J.T {k : Nat} {L : List Int} {Z : jz_Z} (h : kz_J k L Z) {w : Nat} (hw : w < 3) : kv_T w (decide (w = 2)) (kz_D (L, Z) w) := by
  rw [kz_D]
  by_cases c : kz_tt (L, Z) w
  · rw [if_pos c]; exact (h.2.2.2 w hw).2 c
  · rw [if_neg c]; exact kz_UT hw
theorem kz_ut {w : Nat} {cs : List Int} {r : List Int × jz_Z} (hw : w < 3) (hb : kz_bd r) (hc : 0 < cs.length) : kz_bd (jz_ut w cs r) ∧ (∀ v, v < 3 → v ≠ w → (kz_tt (jz_ut w cs r) v ↔ kz_tt r v) ∧ kz_sl (jz_ut w cs r) v = kz_sl r v) ∧ kz_sl (jz_ut w cs r) w = (if kz_tt r w then kz_sl r w else cs) ∧ (jz_ut w cs r).2.2 = r.2.2 ∧ ∀ j, j < 7 → (jz_ut w cs r).2.1 j = r.2.1 j := by
  rw [jz_ut]
  by_cases c : r.2.1 (10 + w) < r.2.1 (20 + w)
  · rw [if_pos c, if_pos (show kz_tt r w from c)]
    exact ⟨hb, fun v _ _ => ⟨Iff.rfl, rfl⟩, rfl, rfl, fun _ _ => rfl⟩
  · rw [if_neg c, if_neg (show ¬ kz_tt r w from c)]
    generalize hr : (r.1 ++ cs, jz_s (jz_s r.2 (10 + w) (r.1.length : Int)) (20 + w) ((r.1.length + cs.length : Nat) : Int)) = r'
    have f1 : r'.1 = r.1 ++ cs := by rw [← hr]
    have f2 : r'.2.2 = r.2.2 := by rw [← hr]; rfl
    have f3 : ∀ j, r'.2.1 j = if j = 20 + w then ((r.1.length + cs.length : Nat) : Int) else if j = 10 + w then (r.1.length : Int) else r.2.1 j := fun j => by rw [← hr]; rfl
    clear hr
    have e1 : ∀ v, v < 3 → r'.2.1 (10 + v) = if v = w then (r.1.length : Int) else r.2.1 (10 + v) := by
      intro v hv
      rw [f3, if_neg (by omega)]
      by_cases q : v = w
      · rw [if_pos (by omega), if_pos q]
      · rw [if_neg (by omega), if_neg q]
    have e2 : ∀ v, v < 3 → r'.2.1 (20 + v) = if v = w then ((r.1.length + cs.length : Nat) : Int) else r.2.1 (20 + v) := by
      intro v hv
      rw [f3]
      by_cases q : v = w
      · rw [if_pos (by omega), if_pos q]
      · rw [if_neg (by omega), if_neg (by omega), if_neg q]
    refine ⟨fun v hv => ?_, fun v hv hn => ⟨?_, ?_⟩, ?_, f2, fun j hj => by rw [f3, if_neg (by omega), if_neg (by omega)]⟩
    · have := hb v hv
      rw [e1 v hv, e2 v hv, f1, List.length_append]
      by_cases q : v = w
      · rw [if_pos q, if_pos q]; omega
      · rw [if_neg q, if_neg q]; omega
    · show r'.2.1 (10 + v) < r'.2.1 (20 + v) ↔ _
      rw [e1 v hv, e2 v hv, if_neg hn, if_neg hn]
    · have := hb v hv
      rw [kz_sl, kz_sl, e1 v hv, e2 v hv, if_neg hn, if_neg hn, f1, List.take_append_of_le_length (by omega)]
    · have hl : r.1.length + cs.length = (r.1 ++ cs).length := List.length_append.symm
      rw [kz_sl, e1 w hw, e2 w hw, if_pos rfl, if_pos rfl, f1, Int.toNat_natCast, Int.toNat_natCast, hl, List.take_length, List.drop_left]
theorem kz_un {r : List Int × jz_Z} (hb : kz_bd r) : (∀ w, w < 3 → kz_sl (jz_un r) w = kz_D r w) ∧ (jz_un r).2.2 = r.2.2 ∧ ∀ j, j < 7 → (jz_un r).2.1 j = r.2.1 j := by
  rw [jz_un]
  obtain ⟨b1, o1, s1, r1, n1⟩ := kz_ut (w := 0) (cs := [1000]) (by decide) hb (by decide)
  generalize jz_ut 0 [1000] r = x1 at *
  obtain ⟨b2, o2, s2, r2, n2⟩ := kz_ut (w := 1) (cs := [1001, 43, 1]) (by decide) b1 (by decide)
  generalize jz_ut 1 [1001, 43, 1] x1 = x2 at *
  obtain ⟨b3, o3, s3, r3, n3⟩ := kz_ut (w := 2) (cs := [13]) (by decide) b2 (by decide)
  generalize jz_ut 2 [13] x2 = x3 at *
  refine ⟨fun w hw => ?_, r3.trans (r2.trans r1), fun j hj => (n3 j hj).trans ((n2 j hj).trans (n1 j hj))⟩
  have h : w = 0 ∨ w = 1 ∨ w = 2 := by omega
  rw [kz_D]
  rcases h with rfl | rfl | rfl
  · rw [(o3 0 (by decide) (by decide)).2, (o2 0 (by decide) (by decide)).2, s1]; rfl
  · rw [(o3 1 (by decide) (by decide)).2, s2, (o1 1 (by decide) (by decide)).2]
    by_cases c : kz_tt r 1
    · rw [if_pos c, if_pos ((o1 1 (by decide) (by decide)).1.mpr c)]
    · rw [if_neg c, if_neg (fun q => c ((o1 1 (by decide) (by decide)).1.mp q))]; rfl
  · rw [s3, (o2 2 (by decide) (by decide)).2, (o1 2 (by decide) (by decide)).2]
    by_cases c : kz_tt r 2
    · rw [if_pos c, if_pos ((o2 2 (by decide) (by decide)).1.mpr ((o1 2 (by decide) (by decide)).1.mpr c))]
    · rw [if_neg c, if_neg (fun q => c ((o1 2 (by decide) (by decide)).1.mp ((o2 2 (by decide) (by decide)).1.mp q)))]; rfl
theorem kz_V.eq {Z Z' : jz_Z} (h : kz_V Z) (e : ∀ j, j < 7 → Z'.1 j = Z.1 j) (e2 : Z'.2 = Z.2) : kz_V Z' := by
  rw [kz_V, e 1 (by decide), e 2 (by decide), e 3 (by decide), e 4 (by decide), e 5 (by decide), e 6 (by decide), e2]
  exact h
/-- the class's codes -/
theorem kc_CE {H : Nat} {r : List Int × jz_Z} {D : List Int} {w : Nat} {s : jl_Mm} (h : jz_X True (H + 10) r s) (hw : w < 3) (hD : kz_sl r w = D) : kc_C (H + 10) w D s := by
  obtain ⟨⟨y1, y2⟩, hd, -⟩ := h
  obtain ⟨y3, y4⟩ := y2 trivial
  obtain ⟨d1, d2, d3, d4, d5, d6, d7⟩ := hd trivial w hw
  have hl : D.length = (r.2.1 (20 + w)).toNat - (r.2.1 (10 + w)).toNat := by
    rw [← hD, kz_sl, List.length_drop, List.length_take]; omega
  have hD' : (r.1.take (r.2.1 (20 + w)).toNat).drop (r.2.1 (10 + w)).toNat = D := hD
  refine ⟨(r.2.1 (10 + w)).toNat, (r.2.1 (20 + w)).toNat, by omega, by omega, by omega, by omega, fun i hi => ?_, fun m => d6 (by rw [hD']; exact m), fun m => d7 (by rw [hD']; exact m)⟩
  have hx : (r.2.1 (10 + w)).toNat + i < r.1.length := by omega
  rw [y4 _ hx]
  congr 1
  subst hD
  simp only [kz_sl, List.getElem_drop, List.getElem_take]
/-- the reference's codes -/
theorem kr_CT {r : List Int × jz_Z} {w : Nat} {s : jl_Mm} (h : jh_T r s) (hw : w < 3) : kr_C w (kz_D r w) (kz_U w) s := by
  obtain ⟨-, -, -, -, -, -, hl, hc, hd⟩ := h
  obtain ⟨x1, x2⟩ := hd w hw
  rw [kz_D]
  by_cases c : kz_tt r w
  · obtain ⟨a1, a2, a3, a4⟩ := x1 c
    have c' : r.2.1 (10 + w) < r.2.1 (20 + w) := c
    rw [if_pos c]
    refine Or.inr ⟨(r.2.1 (10 + w)).toNat, (r.2.1 (20 + w)).toNat, by omega, by omega, ?_, by omega, fun i hi => ?_⟩
    · rw [kz_sl, List.length_drop, List.length_take]; omega
    · rw [kz_sl, List.length_drop, List.length_take] at hi
      rw [hc ((r.2.1 (10 + w)).toNat + i) (by omega)]
      simp only [kz_sl, List.getElem_drop, List.getElem_take]
  · rw [if_neg c]
    exact Or.inl ⟨x2 c, rfl⟩
/-- how all stands at HOUR 0 -/
def ks_first (Z : jz_Z) : Nat → Int := fun j => if j = 1 then Z.1 5 else if 2 ≤ j ∧ j < 8 ∧ ((j - 2 : Nat) : Int) < Z.1 2 then Z.2.1 2 (j - 2) else 0
theorem ks_first_h {Z : jz_Z} {i : Nat} (hi : i < 6) : ks_first Z (2 + i) = if (i : Int) < Z.1 2 then Z.2.1 2 i else 0 := by
  rw [ks_first, if_neg (by omega), show 2 + i - 2 = i by omega]
  by_cases c : (i : Int) < Z.1 2
  · rw [if_pos ⟨by omega, by omega, c⟩, if_pos c]
  · rw [if_neg (fun q => c q.2.2), if_neg c]
theorem ks_first_0 {Z : jz_Z} {j : Nat} (hj : j = 0 ∨ 8 ≤ j) : ks_first Z j = 0 := by
  rw [ks_first, if_neg (by omega), if_neg (by omega)]
theorem ks_first_V {Z : jz_Z} (h : kz_V Z) : ks_V Z (ks_first Z) := by
  have hp := h.p
  have h5 := h.2.2.2.2.1
  have h7 := h.2.2.2.2.2.2.1
  have e1 : ks_first Z 1 = Z.1 5 := if_pos rfl
  refine ⟨by rw [ks_first_0 (Or.inl rfl)]; decide, by rw [e1]; exact h5, fun p hp' => ?_, fun l hl => ?_⟩
  · have c : (p : Int) < Z.1 2 := by omega
    rw [ks_first_h (by omega), if_pos c]
    exact (h7 p c).1
  · rw [ks_first_0 (by omega), ks_first_0 (by omega)]
    exact ⟨by decide, by decide, fun _ => rfl, fun _ => rfl⟩
def kd_st (d : kD) : kD := fun k => if k = 5 then ks_u (d 5) 0 0 else kd_f d 0 (-1) k
theorem kd_st_n {d : kD} {k : Nat} (h : k ≠ 1 ∧ k ≠ 3 ∧ k ≠ 5) : kd_st d k = d k := by rw [kd_st, if_neg h.2.2, kd_f_n ⟨h.1, h.2.1⟩]
theorem kIv.st {Z Z' : jz_Z} {Ds Ds' : Nat → List Int} {a a' : Nat → Int} {d : kD} {nx n : Nat} (h : kIv Z Ds a d nx n) (h' : kz_N Z' Ds' a') : kIv Z' Ds' a' (kd_st d) nx 0 := by
  have e : ∀ k, k ≠ 1 ∧ k ≠ 3 ∧ k ≠ 5 → kd_st d k = d k := fun k h => kd_st_n h
  have e3 : kd_st d 3 0 = 0 := rfl
  have e5 : kd_st d 5 0 = 0 := rfl
  obtain ⟨-, h2, h3, h4, h5, h6, h7, h8, -⟩ := h
  refine ⟨h', ⟨h2.1, by omega⟩, ?_, ?_, ?_, ?_, ?_, ?_, fun j hj => by omega⟩
  · rw [e3]; decide
  · rw [e3]; intro i hi; omega
  · rw [e5]; decide
  · rw [e5]; intro i hi; omega
  · rw [e 7 (by decide)]; exact h7
  · rw [e 8 (by decide)]; exact h8
abbrev kc_FS1 (H : Nat) : jp_F := jz_FA H ++ [(0, 15, 17), (1, 1, 2), (0, 2, 4), (190, 0, 1), (40, 0, 2), (41, 0, 0), (42, 0, 0), (43, 0, 0), (44, 3, 4), (47, 3, 4), (200, 4, 5)]
theorem kc_FS1n {H c i : Nat} (hH : jz_Hq H) (h1 : c < H ∨ H + 14 < c) (h2 : c ≠ 1 ∧ c ≠ 38 ∧ c ≠ 39 ∧ c ≠ 190 ∧ (c < 40 ∨ 43 < c)) (h3 : c = 0 → i < 2 ∨ (3 < i ∧ i < 15) ∨ 16 < i) (h4 : c = 44 ∨ c = 47 → i ≠ 3) (h5 : c = 200 → i ≠ 4) : jp_in (kc_FS1 H) c i = false := by
  simp [jp_in, jz_FA, jz_FC]; omega
abbrev kc_FS2 (H : Nat) : jp_F := jz_FA H ++ [(0, 15, 17), (1, 1, 2), (205, 1, 2)]
theorem kc_FS2n {H c i : Nat} (hH : jz_Hq H) (h1 : c < H ∨ H + 14 < c) (h2 : c ≠ 1 ∧ c ≠ 38 ∧ c ≠ 39) (h3 : c = 0 → i < 15 ∨ 16 < i) (h5 : c = 205 → i ≠ 1) : jp_in (kc_FS2 H) c i = false := by
  simp [jp_in, jz_FA, jz_FC]; omega
theorem kr_FO1n {c i : Nat} (h1 : c < 241 ∧ c ≠ 206 ∨ 249 < c ∧ c ≠ 282 ∧ c ≠ 283) : jp_in jh_FO c i = false := by simp [jp_in, jh_FO, jh_FT, jh_FZ]; omega
theorem kr_FO6n {i : Nat} (h1 : i = 63 ∨ i = 73 ∨ i = 74 ∨ i = 110) : jp_in jh_FO 206 i = false := by simp [jp_in, jh_FO, jh_FT, jh_FZ]; omega
theorem kr_FK1n {c i : Nat} (h1 : c < 241 ∧ c ≠ 206 ∧ c ≠ 208 ∨ 248 < c ∧ c ≠ 282 ∧ c ≠ 283) : jp_in jh_FK c i = false := by simp [jp_in, jh_FK, jh_FT]; omega
theorem kr_FK6n {i : Nat} (h1 : i = 54 ∨ i = 63 ∨ i = 65 ∨ i = 72 ∨ i = 73 ∨ i = 74 ∨ i = 110) : jp_in jh_FK 206 i = false := by simp [jp_in, jh_FK, jh_FT]; omega
theorem kr_FKhn {c i : Nat} (h1 : (c = 241 ∧ 6 ≤ i) ∨ (c = 242 ∧ 16 ≤ i) ∨ (c = 243 ∧ 12 ≤ i) ∨ (c = 244 ∧ 16 ≤ i) ∨ (c = 245 ∧ 48 ≤ i) ∨ (c = 246 ∧ 3 ≤ i) ∨ (c = 247 ∧ 3 ≤ i) ∨ (c = 248 ∧ 1600 ≤ i)) : jp_in jh_FK c i = false := by simp [jp_in, jh_FK, jh_FT]; omega
theorem kr_N.frK {Z : jz_Z} {Ds : Nat → List Int} {a : Nat → Int} {s τ : jl_Mm} (h : kr_N Z Ds a s) (f : jp_fr jh_FK s τ) : kr_N Z Ds a τ := by
  obtain ⟨⟨h0, h1, h2, h3, h4⟩, hK, hA, g1, g2⟩ := h
  have cf : ∀ {w : Nat} {D U : List Int}, kr_C w D U s → kr_C w D U τ := by
    intro w D U hC
    rcases hC with ⟨x, y⟩ | ⟨f1, t1, x1, x2, x3, x4, x5⟩
    · exact Or.inl ⟨(f.g _ _ (kr_FKhn (by omega))).trans x, y⟩
    · exact Or.inr ⟨f1, t1, (f.g _ _ (kr_FKhn (by omega))).trans x1, (f.g _ _ (kr_FKhn (by omega))).trans x2, x3, x4, fun i hi => (f.g _ _ (kr_FKhn (by omega))).trans (x5 i hi)⟩
  refine ⟨⟨h0, fun k hk => (f.g _ _ (kr_FKhn (by omega))).trans (h1 k hk), fun i hi => (f.g _ _ (kr_FKhn (by omega))).trans (h2 i hi), fun i hi => ⟨(f.g _ _ (kr_FKhn (by omega))).trans (h3 i hi).1, (f.g _ _ (kr_FKhn (by omega))).trans (h3 i hi).2⟩, fun i hi => ⟨(f.g _ _ (kr_FKhn (by omega))).trans (h4 i hi).1, (f.g _ _ (kr_FKhn (by omega))).trans (h4 i hi).2.1, (f.g _ _ (kr_FKhn (by omega))).trans (h4 i hi).2.2⟩⟩, fun y => ⟨cf (hK y).1, cf (hK y).2.1, cf (hK y).2.2⟩, fun i hi => (f.g _ _ (kr_FK1n (by omega))).trans (hA i hi), (f.g _ _ (kr_FK6n (by omega))).trans g1, (f.g _ _ (kr_FK6n (by omega))).trans g2⟩
theorem kI_street : kI_call jf_X11_street jf_X12_street := kI_mkV (fun Z Ds a d nx n hZ hV => by
  have h3 := hV.2.2.1
  obtain ⟨x, hx⟩ : ∃ x : Nat, d 3 0 = (x : Int) := ⟨(d 3 0).toNat, by omega⟩
  have hx2 : x ≤ 1600 := by omega
  by_cases hf : (jz_street (d 2) x).1.1 = 0
  · obtain ⟨k, hk, hJ⟩ := kz_street hf
    have hbd : kz_bd ((jz_street (d 2) x).1.2.2, (jz_street (d 2) x).2) := fun v hv => (hJ.2.2.2 v hv).1
    obtain ⟨u1, u2, u3⟩ := kz_un hbd
    have hVs := hJ.1
    have hw2 := hJ.2.2.1 hk
    have hT : ∀ w, w < 3 → kv_T w (decide (w = 2)) (kz_D ((jz_street (d 2) x).1.2.2, (jz_street (d 2) x).2) w) := fun w hw => hJ.T hw
    have hst := fun s h1 h2 h3 => (jx12_street (T := d 2) (e := x) (s := s) hx2 h1 h2 h3).1 hf
    have hcl := fun (H G : Nat) s (hH : jz_Hq H) (hG : jz_Hq G) (hne : G ≠ H) h3 h2 hP h5 => jx11_streetT (T := d 2) (e := x) (H := H) (G := G) (s := s) hH hG hne h3 h2 hP h5 hf
    generalize hR : ((jz_street (d 2) x).1.2.2, (jz_street (d 2) x).2) = R at *
    have eR : (jz_street (d 2) x).2 = R.2 := by rw [← hR]
    rw [eR] at hVs hw2 hst
    clear hJ hR eR hbd
    generalize hZ' : (jz_un R).2 = Z' at *
    have hVz : kz_V Z' := hVs.eq u3 u2
    have n2 : Z'.1 2 = R.2.1 2 := u3 2 (by decide)
    have np : ks_np Z' = (R.2.1 2).toNat := by rw [ks_np, n2]
    have nw : 0 < ks_nw Z' := by rw [ks_nw, u3 1 (by decide)]; omega
    have hN' : kz_N Z' (kz_D R) (ks_first Z') := ⟨ks_first_V hVz, fun _ => ⟨hT 0 (by decide), hT 1 (by decide), hT 2 (by decide)⟩, by rw [ks_first_0 (Or.inl rfl)]; decide, by rw [ks_first_0 (by decide)]; decide, by rw [ks_first_0 (by decide)]; decide⟩
    -- which Street of the class is the standing one
    have two : ∀ s, kIc Z Ds a d nx n s → ∃ H G : Nat, jz_Hq H ∧ jz_Hq G ∧ G ≠ H ∧ s 0 2 = (H : Int) ∧ s 0 3 = (G : Int) := fun s hs => by
      obtain ⟨H, G, ⟨hW, -, -⟩, -, ⟨g1, g2, g3⟩, -⟩ := hs
      exact ⟨H, G, hW.2.1, g2, g3, hW.2.2.2.1, g1⟩
    refine ⟨R.2.1 0, kc_FS1 8 ++ kc_FS1 23, jh_FO, Z', kz_D R, ks_first Z', kd_st d, nx, 0, fun c i hc => ?_, fun c i hc => kr_FO1n (by omega), hV.st hN', fun s hs => ?_, fun s hs => ?_⟩
    · rw [jp_in_app, kc_FS1n (Or.inl rfl) (by omega) (by omega) (by omega) (by omega) (by omega), kc_FS1n (Or.inr rfl) (by omega) (by omega) (by omega) (by omega) (by omega)]; rfl
    · have M := hs.M
      obtain ⟨H, G, ⟨hW, hK, hA⟩, hG, ⟨g1, g2, g3⟩, hc, -, hP⟩ := hs
      have P : jq_P (d 2) x s := ⟨hx2, M.2.2.1.1.trans hx, fun i hi => M.2.2.1.2 i (by omega)⟩
      have hG38 : G + 14 < 38 ∧ 7 < G := by rcases g2 with rfl | rfl <;> decide
      have hH38 : H + 14 < 38 ∧ 7 < H := by rcases hW.2.1 with rfl | rfl <;> decide
      have hGH : H + 14 < G ∨ G + 14 < H := by rcases g2 with rfl | rfl <;> rcases hW.2.1 with rfl | rfl <;> omega
      obtain ⟨τ, t1, f, E, v11, v15, v16, v02, v03, v190, v400, v401, v41, v42, v44, v47, v200⟩ := hcl G H s g2 hW.2.1 (Ne.symm g3) g1 hW.2.2.2.1 P (hc (G + 10) (by rcases g2 with rfl | rfl <;> decide))
      have e0 : Z'.1 0 = R.2.1 0 := u3 0 (by decide)
      rw [e0] at t1
      obtain ⟨eR, eX, -⟩ := E
      have eR' : jz_R G Z' τ := by rw [← hZ']; exact eR
      have nf : ∀ {c i : Nat}, (c < G ∨ G + 14 < c) → (c ≠ 1 ∧ c ≠ 38 ∧ c ≠ 39 ∧ c ≠ 190 ∧ (c < 40 ∨ 43 < c)) → (c = 0 → i < 2 ∨ (3 < i ∧ i < 15) ∨ 16 < i) → (c = 44 ∨ c = 47 → i ≠ 3) → (c = 200 → i ≠ 4) → jp_in (kc_FS1 G) c i = false := fun h1 h2 h3 h4 h5 => kc_FS1n g2 h1 h2 h3 h4 h5
      refine ⟨τ, t1, ?_, G, H, ⟨⟨hVz, g2, v190, v02, eR'⟩, fun _ w hw => kc_CE eX hw (u1 w hw), ?_, ?_, ?_, ?_, ?_⟩, ?_, ⟨v03, hW.2.1, Ne.symm g3⟩, fun q hq => ?_, ?_, ?_, ?_, fun j hj => by omega⟩
      · refine jp_fr.ws (fun c i h => ?_) f
        rw [jp_in_app]
        rcases g2 with rfl | rfl
        · rw [h]; rfl
        · rw [h, Bool.or_true]
      · rw [v400, ks_first_0 (Or.inl rfl)]
      · rw [v401, eR'.1 5 (by decide)]; rfl
      · intro i hi
        have c : (i : Int) < Z'.1 2 := by have := hVz.p; omega
        rw [v41 i hi.1, (eR'.2.1 i c).2.2.1, ks_first_h hi.1, if_pos c]
      · intro i hi; rw [(v42 i hi).1, ks_first_0 (by omega)]
      · intro i hi; rw [(v42 i hi).2, ks_first_0 (by omega)]
      · obtain ⟨-, p, q1, q2, -⟩ := hG
        refine ⟨by rw [v44, ks_first_0 (by decide)], p, q1, (f.g _ _ (nf (by omega) (by omega) (by omega) (by omega) (by omega))).trans q2, fun k hk => ?_⟩
        rw [ks_first_0 (by decide)] at hk; omega
      · by_cases c : q = G + 10
        · subst c; exact eX.2.2
        · obtain ⟨v, hv, e⟩ := hc q hq
          have hq' : q < G ∨ G + 14 < q := by rcases g2 with rfl | rfl <;> rcases hq with rfl | rfl | rfl <;> omega
          exact ⟨v, hv, (f.g _ _ (nf hq' (by omega) (by omega) (by omega) (by omega))).trans e⟩
      · have e : ∀ k, k ≠ 1 ∧ k ≠ 3 ∧ k ≠ 5 → kd_st d k = d k := fun k h => kd_st_n h
        have e3 : kd_st d 3 0 = 0 := rfl
        have e5 : kd_st d 5 0 = 0 := rfl
        obtain ⟨m1, m2, m3, m4, m5, m6⟩ := M
        refine ⟨?_, ⟨v15, v16⟩, ⟨by rw [e3]; exact v11, fun i hi => by omega⟩, ⟨by rw [e5]; exact v200, fun i hi => by omega⟩, ?_, ?_⟩
        · rw [e 0 (by decide)]; exact fun i hi => (f.g _ _ (nf (by omega) (by omega) (by omega) (by omega) (by omega))).trans (m1 i hi)
        · rw [e 7 (by decide), e 6 (by decide)]; exact ⟨(f.g _ _ (nf (by omega) (by omega) (by omega) (by omega) (by omega))).trans m5.1, fun i hi => (f.g _ _ (nf (by omega) (by omega) (by omega) (by omega) (by omega))).trans (m5.2 i hi)⟩
        · rw [e 8 (by decide)]; exact (f.g _ _ (nf (by omega) (by omega) (by omega) (by omega) (by omega))).trans m6
      · exact (f.g _ _ (nf (by omega) (by omega) (by omega) (by omega) (by omega))).trans hP.1
      · rw [v47]; rfl
    · obtain ⟨hN, M, hH, hW, hn⟩ := hs
      obtain ⟨τ, t1, f, T1, T0, w1, w7, w8⟩ := hst s (M.2.2.1.1.trans hx) (fun i hi => M.2.2.1.2 i (by omega)) hW
      have T1' := T1
      obtain ⟨b54, b53, b41, b2, b3, b4, bl, bc, bd⟩ := T1
      obtain ⟨z72, z65, z0, z1, zh, zh0, z8⟩ := T0
      have e41 : ∀ k, k < 6 → jl_g τ 241 (6 + k) = Z'.1 (k + 1) := fun k hk => (b41 k hk).trans (u3 (k + 1) (by omega)).symm
      have er : Z'.2 = R.2.2 := u2
      refine ⟨τ, t1, f, ⟨⟨hVz, e41, fun i hi => ?_, fun i hi => ?_, fun i hi => ?_⟩, fun _ => ⟨kr_CT T1' (by decide), kr_CT T1' (by decide), kr_CT T1' (by decide)⟩, fun i hi => ?_, (f.g _ _ (kr_FO6n (by decide))).trans hN.2.2.2.1, by rw [b54, if_pos nw]⟩, ?_, ⟨(f.g _ _ (kr_FO6n (by decide))).trans hH.1, by rw [z72]; rfl, fun j hj => by omega⟩, hW.fr f (fun c i hc => kr_FO1n (by rcases hc with hc | hc <;> omega)), ⟨fun i hi => ?_, fun i hi => ?_⟩⟩
      · rw [er]; rw [n2] at hi; exact (b2 i hi).2.2.2
      · rw [er]; rw [u3 3 (by decide)] at hi; exact (b3 i hi).2.2
      · rw [er]; rw [u3 4 (by decide)] at hi; exact b4 i hi
      · by_cases c0 : i = 0
        · subst c0; rw [z0, ks_first_0 (Or.inl rfl)]
        by_cases c1 : i = 1
        · subst c1; rw [z1]; exact (u3 5 (by decide)).symm
        by_cases c8 : 8 ≤ i
        · rw [z8 i c8 hi, ks_first_0 (Or.inr c8)]
        · obtain ⟨j, rfl⟩ : ∃ j, i = 2 + j := ⟨i - 2, by omega⟩
          rw [ks_first_h (by omega), n2]
          by_cases c : (j : Int) < R.2.1 2
          · rw [if_pos c, zh j c, er]
          · rw [if_neg c, zh0 j (by omega) (by omega)]
      · have e : ∀ k, k ≠ 1 ∧ k ≠ 3 ∧ k ≠ 5 → kd_st d k = d k := fun k h => kd_st_n h
        have e3 : kd_st d 3 0 = 0 := rfl
        have e5 : kd_st d 5 0 = 0 := rfl
        obtain ⟨m1, m2, m3, m4, m5, m6⟩ := M
        refine ⟨?_, ⟨w7, w8⟩, ⟨by rw [e3]; exact w1, fun i hi => by omega⟩, ⟨by rw [e5]; exact z65, fun i hi => by omega⟩, ?_, ?_⟩
        · rw [e 0 (by decide)]; exact fun i hi => (f.g _ _ (kr_FO1n (by omega))).trans (m1 i hi)
        · rw [e 7 (by decide), e 6 (by decide)]; exact ⟨(f.g _ _ (kr_FO6n (by decide))).trans m5.1, fun i hi => (f.g _ _ (kr_FO1n (by omega))).trans (m5.2 i hi)⟩
        · rw [e 8 (by decide)]; exact (f.gl _ _ (kr_FO6n (by decide))).trans m6
      · rw [er]; rw [n2] at hi; exact ⟨(b2 i hi).1, (b2 i hi).2.1⟩
      · rw [er]; rw [u3 3 (by decide)] at hi; exact ⟨(b3 i hi).1, (b3 i hi).2.1⟩
  · have hd : kIv Z Ds a (kd_no (kd_f d ((jz_street (d 2) x).1.1 : Int) ((jz_street (d 2) x).1.2.1 : Int)) 1) nx n := hV.f.no
    refine ⟨-1, kc_FS2 8 ++ kc_FS2 23, jh_FK, Z, Ds, a, _, nx, n, fun c i hc => ?_, fun c i hc => kr_FK1n (by omega), hd, fun s hs => ?_, fun s hs => ?_⟩
    · rw [jp_in_app, kc_FS2n (Or.inl rfl) (by omega) (by omega) (by omega) (by omega), kc_FS2n (Or.inr rfl) (by omega) (by omega) (by omega) (by omega)]; rfl
    · have M := hs.M
      obtain ⟨H, G, ⟨hW, hK, hA⟩, hG, ⟨g1, g2, g3⟩, hc, -, hP⟩ := hs
      have P : jq_P (d 2) x s := ⟨hx2, M.2.2.1.1.trans hx, fun i hi => M.2.2.1.2 i (by omega)⟩
      have hGH : H + 14 < G ∨ G + 14 < H := by rcases g2 with rfl | rfl <;> rcases hW.2.1 with rfl | rfl <;> omega
      have hH38 : H + 14 < 38 ∧ 7 < H := by rcases hW.2.1 with rfl | rfl <;> decide
      have hG38 : G + 14 < 38 ∧ 7 < G := by rcases g2 with rfl | rfl <;> decide
      obtain ⟨τ, t1, f, v11, v15, v16, v205, vc⟩ := jx11_streetF g2 g1 P (hc (G + 10) (by rcases g2 with rfl | rfl <;> decide)) hf
      have nf : ∀ {c i : Nat}, (c < G ∨ G + 14 < c) → (c ≠ 1 ∧ c ≠ 38 ∧ c ≠ 39) → (c = 0 → i < 15 ∨ 16 < i) → (c = 205 → i ≠ 1) → jp_in (kc_FS2 G) c i = false := fun h1 h2 h3 h5 => kc_FS2n g2 h1 h2 h3 h5
      have nr := jp_gn s 205 1
      refine ⟨τ, t1, ?_, H, G, ⟨?_, ?_, hA.fr f (nf (by omega) (by omega) (by omega) (by omega)) (nf (by omega) (by omega) (by omega) (by omega)) (fun c i _ _ => nf (by omega) (by omega) (by omega) (by omega))⟩, hG.fr f (fun c i _ _ => nf (by omega) (by omega) (by omega) (by omega)), ⟨(f _ _ (nf (by omega) (by omega) (by omega) (by omega))).trans g1, g2, g3⟩, fun q hq => ?_, ?_, ?_⟩
      · refine jp_fr.ws (fun c i h => ?_) f
        rw [jp_in_app]
        rcases g2 with rfl | rfl
        · rw [h]; rfl
        · rw [h, Bool.or_true]
      · obtain ⟨w0, w1, w2, w3, w4⟩ := hW
        exact ⟨w0, w1, (f _ _ (nf (by omega) (by omega) (by omega) (by omega))).trans w2, (f _ _ (nf (by omega) (by omega) (by omega) (by omega))).trans w3, w4.fr f (fun c i _ _ => nf (by omega) (by omega) (by omega) (by omega))⟩
      · exact fun y w hw => (hK y w hw).fr f (fun c i _ _ => nf (by omega) (by omega) (by omega) (by omega))
      · by_cases c : q = G + 10
        · subst c; exact vc
        · obtain ⟨v, hv, e⟩ := hc q hq
          have hq' : q < G ∨ G + 14 < q := by rcases g2 with rfl | rfl <;> rcases hq with rfl | rfl | rfl <;> omega
          exact ⟨v, hv, (f.g _ _ (nf hq' (by omega) (by omega) (by omega))).trans e⟩
      · have e : ∀ k, k ≠ 0 ∧ k ≠ 1 ∧ k ≠ 3 → kd_no (kd_f d ((jz_street (d 2) x).1.1 : Int) ((jz_street (d 2) x).1.2.1 : Int)) 1 k = d k := fun k h => by rw [kd_no, kd_n h.1, kd_f_n ⟨h.2.1, h.2.2⟩]
        have e1 : kd_no (kd_f d ((jz_street (d 2) x).1.1 : Int) ((jz_street (d 2) x).1.2.1 : Int)) 1 1 = kd_f d ((jz_street (d 2) x).1.1 : Int) ((jz_street (d 2) x).1.2.1 : Int) 1 := kd_n (by decide)
        have e3 : kd_no (kd_f d ((jz_street (d 2) x).1.1 : Int) ((jz_street (d 2) x).1.2.1 : Int)) 1 3 0 = 0 := by rw [kd_no, kd_n (by decide)]; rfl
        obtain ⟨m1, m2, m3, m4, m5, m6⟩ := M
        refine ⟨fun i hi => ?_, by rw [e1]; exact ⟨v15, v16⟩, ⟨by rw [e3]; exact v11, fun i hi => by omega⟩, ?_, ?_, ?_⟩
        · by_cases q : i = 1
          · subst q
            rw [v205, m1 1 (by decide), kd_no, kd_e]; rfl
          · rw [f.g _ _ (nf (by omega) (by omega) (by omega) (by omega)), m1 i hi, kd_no, kd_ni q]; rfl
        · rw [e 5 (by decide), e 4 (by decide)]; exact ⟨(f.g _ _ (nf (by omega) (by omega) (by omega) (by omega))).trans m4.1, fun i hi => (f.g _ _ (nf (by omega) (by omega) (by omega) (by omega))).trans (m4.2 i hi)⟩
        · rw [e 7 (by decide), e 6 (by decide)]; exact ⟨(f.g _ _ (nf (by omega) (by omega) (by omega) (by omega))).trans m5.1, fun i hi => (f.g _ _ (nf (by omega) (by omega) (by omega) (by omega))).trans (m5.2 i hi)⟩
        · rw [e 8 (by decide)]; exact (f.g _ _ (nf (by omega) (by omega) (by omega) (by omega))).trans m6
      · obtain ⟨p1, p2, p3⟩ := hP.fr f (fun c i _ _ => nf (by omega) (by omega) (by omega) (by omega))
        refine ⟨p1, p2, fun j hj => ?_⟩
        rw [kd_no, kd_n (by omega), kd_f_n (by omega)]; exact p3 j hj
    · obtain ⟨hN, M, hH, hW, hn⟩ := hs
      obtain ⟨τ, t1, f, w1, w7, w8, w208⟩ := (jx12_street (T := d 2) (e := x) hx2 (M.2.2.1.1.trans hx) (fun i hi => M.2.2.1.2 i (by omega)) hW).2 hf
      refine ⟨τ, t1, f, hN.frK f, ?_, ⟨(f.g _ _ (kr_FK6n (by decide))).trans hH.1, (f.g _ _ (kr_FK6n (by decide))).trans hH.2.1, fun j hj i hi => ?_⟩, hW.fr f (fun c i hc => kr_FK1n (by rcases hc with hc | hc <;> omega)), ⟨fun i hi => ⟨(f.gl _ _ (kr_FKhn (by omega))).trans (hn.1 i hi).1, (hn.1 i hi).2⟩, fun i hi => ⟨(f.gl _ _ (kr_FKhn (by omega))).trans (hn.2 i hi).1, (hn.2 i hi).2⟩⟩⟩
      · have e : ∀ k, k ≠ 0 ∧ k ≠ 1 ∧ k ≠ 3 → kd_no (kd_f d ((jz_street (d 2) x).1.1 : Int) ((jz_street (d 2) x).1.2.1 : Int)) 1 k = d k := fun k h => by rw [kd_no, kd_n h.1, kd_f_n ⟨h.2.1, h.2.2⟩]
        have e1 : kd_no (kd_f d ((jz_street (d 2) x).1.1 : Int) ((jz_street (d 2) x).1.2.1 : Int)) 1 1 = kd_f d ((jz_street (d 2) x).1.1 : Int) ((jz_street (d 2) x).1.2.1 : Int) 1 := kd_n (by decide)
        have e3 : kd_no (kd_f d ((jz_street (d 2) x).1.1 : Int) ((jz_street (d 2) x).1.2.1 : Int)) 1 3 0 = 0 := by rw [kd_no, kd_n (by decide)]; rfl
        obtain ⟨m1, m2, m3, m4, m5, m6⟩ := M
        refine ⟨fun i hi => ?_, by rw [e1]; exact ⟨w7, w8⟩, ⟨by rw [e3]; exact w1, fun i hi => by omega⟩, ?_, ?_, ?_⟩
        · by_cases q : i = 1
          · subst q
            rw [w208, m1 1 (by decide), kd_no, kd_e]; rfl
          · rw [f.g _ _ (by simp [jp_in, jh_FK, jh_FT]; omega), m1 i hi, kd_no, kd_ni q]; rfl
        · rw [e 5 (by decide), e 4 (by decide)]; exact ⟨(f.g _ _ (kr_FK6n (by decide))).trans m4.1, fun i hi => (f.g _ _ (kr_FK1n (by omega))).trans (m4.2 i hi)⟩
        · rw [e 7 (by decide), e 6 (by decide)]; exact ⟨(f.g _ _ (kr_FK6n (by decide))).trans m5.1, fun i hi => (f.g _ _ (kr_FK1n (by omega))).trans (m5.2 i hi)⟩
        · rw [e 8 (by decide)]; exact (f.gl _ _ (kr_FK6n (by decide))).trans m6
      · rw [kd_no, kd_n (by omega), kd_f_n (by omega)]
        exact (f.g _ _ (kr_FK1n (by omega))).trans (hH.2.2 j hj i hi))
