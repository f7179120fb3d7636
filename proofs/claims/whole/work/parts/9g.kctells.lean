/-! PURE, the class: tells -/
theorem kt_mst_cnt {Z : jz_Z} {Ds : Nat → List Int} {a : Nat → Int} {d : kD} {m l h : Nat} {w : Int} : ∀ i, kt_mst Z Ds a d m l h w i ≤ kt_cnt Z Ds a d m l i ∧ ∀ x, kt_tal Z Ds a d m l h w x i ≤ kt_cnt Z Ds a d m l i
  | 0 => ⟨Int.le_refl _, fun x => Int.le_refl _⟩
  | i + 1 => by
    obtain ⟨p, q⟩ := kt_mst_cnt (Z := Z) (Ds := Ds) (a := a) (d := d) (m := m) (l := l) (h := h) (w := w) i
    have t : ∀ x, kt_tal Z Ds a d m l h w x (i + 1) ≤ kt_cnt Z Ds a d m l (i + 1) := by
      intro x
      have := q x
      rw [kt_tal_S, kt_cnt_S]
      by_cases c : kt_fit Z Ds a d m l (i + 1) = true
      · rw [if_pos c]; split <;> omega
      · rw [if_neg c, if_neg (fun z => c z.1)]; exact this
    refine ⟨?_, t⟩
    have := t (kt_way Z Ds a l h w i)
    have ge : kt_cnt Z Ds a d m l i ≤ kt_cnt Z Ds a d m l (i + 1) := by rw [kt_cnt_S]; split <;> omega
    rw [kt_mst]
    split
    · split <;> omega
    · omega
theorem kc_mostLeft {H l r m h w : Nat} {Z : jz_Z} {Ds : Nat → List Int} {a : Nat → Int} {d : kD} {s : jl_Mm} (hN : kc_N H Z Ds a s) (hV : kz_N Z Ds a) (hl : l < ks_nl Z) (hr : r ≤ 30) (hh : h < r) (h6 : jl_g s 200 6 = kt_cnt Z Ds a d m l 99) (hY : kt_Y Z Ds a d m l r (fun _ _ => 99) s) (hH : kt_H Z a s) :
    jf_X6_mostLeft ((h + 1 : Nat) : Int) (w : Int) s = some (kt_mst Z Ds a d m l (h + 1) (w : Int) 99, s) := by
  have p6 := hN.1.1.p
  rw [jf_X6_mostLeft]
  refine ku_for (α := Unit) (G := fun g p _ => jf_X6_mostLeft_L2 g ((h + 1 : Nat) : Int) (w : Int) ((p : Nat) : Int) s) (N := ks_np Z) (P := fun o => o = some (kt_mst Z Ds a d m l (h + 1) (w : Int) 99, s)) (I := fun p _ => ∀ q, q < p → a (2 + q) ≠ (w : Int)) (fun g p u hp hI => ?_) (fun g u hI => ?_) (ks_np Z) 0 jl_fu () (Nat.zero_add _) (by show ks_np Z < 4000; omega) (fun q hq => by omega)
  · have ea : jl_add (p : Int) 1 = ((p + 1 : Nat) : Int) := by rw [jp_add (by omega) (by omega)]; omega
    show jf_X6_mostLeft_L2 (g + 1) ((h + 1 : Nat) : Int) (w : Int) (p : Int) s = _ ∨ ∃ _ : Unit, jf_X6_mostLeft_L2 (g + 1) ((h + 1 : Nat) : Int) (w : Int) (p : Int) s = jf_X6_mostLeft_L2 g ((h + 1 : Nat) : Int) (w : Int) ((p + 1 : Nat) : Int) s ∧ _
    rw [jf_X6_mostLeft_L2, hN.1.g, hN.1.gr, hN.1.n2, if_neg (by omega), if_pos (by omega), Int.toNat_natCast, hH p hp, ea]
    by_cases c : a (2 + p) = (w : Int)
    · left
      have hT : ∀ x, x < 9 → jl_g s 203 (54 * h + 9 * p + x) = kt_tal Z Ds a d m l (h + 1) (w : Int) (x : Int) 99 := fun x hx => by rw [hY h p x hh hp hx, c]
      rw [if_pos c, kc_tallyFrom (by omega) (by omega), jp_bd, kc_most (by omega) hT, kt_mx9 hN.1.1]
    · right
      refine ⟨(), if_neg c, fun q hq => ?_⟩
      by_cases e : q = p
      · subst e; exact c
      · exact hI q (by omega)
  · show jf_X6_mostLeft_L2 (g + 1) ((h + 1 : Nat) : Int) (w : Int) ((ks_np Z : Nat) : Int) s = _
    rw [jf_X6_mostLeft_L2, hN.1.g, hN.1.gr, hN.1.n2, if_pos (Int.le_refl _), h6, (kt_mst_0 99 (fun j hj => kt_way_0 hN.1.1 hV hl hj (by omega) hI)).2]
/-- what is held before window w of hour h + 1 -/
def kt_cY (Z : jz_Z) (Ds : Nat → List Int) (a : Nat → Int) (d : kD) (m l h w : Nat) : kt_B := if h = 0 ∧ w = 0 then (1, 0, kt_cnt Z Ds a d m l 99) else kt_bW Z Ds a d m l (h + 1) (kt_bH Z Ds a d m l h) w
theorem kt_bW_n {Z : jz_Z} {Ds : Nat → List Int} {a : Nat → Int} {d : kD} {m l h : Nat} {x : kt_B} : ∀ w, x.1 ≠ -1 ∨ 0 < w → (kt_bW Z Ds a d m l h x w).1 ≠ -1
  | 0, e => by rcases e with e | e; exact e; omega
  | w + 1, _ => by
    rw [kt_bW, kt_b1]
    split
    · show ((h : Nat) : Int) ≠ -1; omega
    · rename_i c; exact fun z => c (Or.inl z)
theorem kt_cY_S {Z : jz_Z} {Ds : Nat → List Int} {a : Nat → Int} {d : kD} {m l h w : Nat} (hw : 0 < ks_nw Z) : kt_cY Z Ds a d m l h (w + 1) = if kt_mst Z Ds a d m l (h + 1) (w : Int) 99 < (kt_cY Z Ds a d m l h w).2.2 then (((h + 1 : Nat) : Int), ((w : Nat) : Int), kt_mst Z Ds a d m l (h + 1) (w : Int) 99) else kt_cY Z Ds a d m l h w := by
  rw [kt_cY, if_neg (by omega), kt_bW, kt_cY]
  by_cases c : h = 0 ∧ w = 0
  · obtain ⟨rfl, rfl⟩ := c
    have le := (kt_mst_cnt (Z := Z) (Ds := Ds) (a := a) (d := d) (m := m) (l := l) (h := 0 + 1) (w := ((0 : Nat) : Int)) 99).1
    rw [if_pos (⟨rfl, rfl⟩ : (0 : Nat) = 0 ∧ (0 : Nat) = 0), kt_b1, if_pos (show (kt_bW Z Ds a d m l (0 + 1) (kt_bH Z Ds a d m l 0) 0).1 = -1 ∨ kt_mst Z Ds a d m l (0 + 1) ((0 : Nat) : Int) 99 < (kt_bW Z Ds a d m l (0 + 1) (kt_bH Z Ds a d m l 0) 0).2.2 from Or.inl rfl)]
    by_cases e : kt_mst Z Ds a d m l (0 + 1) ((0 : Nat) : Int) 99 < kt_cnt Z Ds a d m l 99
    · rw [if_pos (show kt_mst Z Ds a d m l (0 + 1) ((0 : Nat) : Int) 99 < ((1 : Int), (0 : Int), kt_cnt Z Ds a d m l 99).2.2 from e)]
    · rw [if_neg (show ¬ kt_mst Z Ds a d m l (0 + 1) ((0 : Nat) : Int) 99 < ((1 : Int), (0 : Int), kt_cnt Z Ds a d m l 99).2.2 from e), show kt_mst Z Ds a d m l (0 + 1) ((0 : Nat) : Int) 99 = kt_cnt Z Ds a d m l 99 by omega]
      rfl
  · have hn : (kt_bW Z Ds a d m l (h + 1) (kt_bH Z Ds a d m l h) w).1 ≠ -1 := by
      refine kt_bW_n w ?_
      by_cases c2 : 0 < w
      · exact Or.inr c2
      · left
        obtain ⟨h', rfl⟩ : ∃ h', h = h' + 1 := ⟨h - 1, by omega⟩
        rw [kt_bH]
        exact kt_bW_n _ (Or.inr hw)
    rw [if_neg c, kt_b1]
    by_cases e : kt_mst Z Ds a d m l (h + 1) (w : Int) 99 < (kt_bW Z Ds a d m l (h + 1) (kt_bH Z Ds a d m l h) w).2.2
    · rw [if_pos e, if_pos (Or.inr e)]
    · rw [if_neg e, if_neg (fun z => by rcases z with z | z; exact hn z; exact e z)]
theorem kt_cY_H {Z : jz_Z} {Ds : Nat → List Int} {a : Nat → Int} {d : kD} {m l h : Nat} (hw : 0 < ks_nw Z) : kt_cY Z Ds a d m l h (ks_nw Z) = kt_cY Z Ds a d m l (h + 1) 0 ∧ kt_cY Z Ds a d m l (h + 1) 0 = kt_bH Z Ds a d m l (h + 1) := by
  rw [kt_cY, kt_cY, if_neg (by omega), if_neg (by omega)]
  exact ⟨rfl, rfl⟩
def kt_K (y : kt_B) (s : jl_Mm) : Prop := jl_g s 200 8 = y.1 ∧ jl_g s 200 9 = y.2.1 ∧ jl_g s 200 10 = y.2.2
abbrev kc_FK : jp_F := [(200, 8, 11)]
theorem kc_FKn {c i : Nat} (h : c ≠ 200 ∨ i < 8) : jp_in kc_FK c i = false := by simp [jp_in]; omega
theorem kc_N.frK {H : Nat} {Z : jz_Z} {Ds : Nat → List Int} {a : Nat → Int} {s τ : jl_Mm} (h : kc_N H Z Ds a s) (f : jp_fr kc_FK s τ) : kc_N H Z Ds a τ := ⟨h.1.fr f (by decide) (by decide) (fun c i _ _ => kc_FKn (by omega)), h.2.1.fr h.1.2.1 f (fun c i _ _ => kc_FKn (by omega)), h.2.2.fr f (kc_FKn (by omega)) (kc_FKn (by omega)) (fun c i _ _ => kc_FKn (by omega))⟩
theorem kc_src44 {H l r m h : Nat} {Z : jz_Z} {Ds : Nat → List Int} {a : Nat → Int} {d : kD} {s : jl_Mm} {R36 : Int → Int → jl_Mm → jl_O} (hN : kc_N H Z Ds a s) (hV : kz_N Z Ds a) (hl : l < ks_nl Z) (hr : r ≤ 30) (hh : h < r) (h6 : jl_g s 200 6 = kt_cnt Z Ds a d m l 99) (hY : kt_Y Z Ds a d m l r (fun _ _ => 99) s) (hH : kt_H Z a s) (hK : kt_K (kt_cY Z Ds a d m l h 0) s) :
    ∃ τ, jf_X6_searchTelling_L44 R36 jl_fu (r : Int) ((h + 1 : Nat) : Int) 0 s = R36 (r : Int) ((h + 2 : Nat) : Int) τ ∧ jp_fr kc_FK s τ ∧ kt_K (kt_cY Z Ds a d m l (h + 1) 0) τ := by
  have w30 := hN.1.1.w
  have hw := kz_nw hN.1.1 hV.1 hl
  refine ku_for (α := jl_Mm) (G := fun g w τ => jf_X6_searchTelling_L44 R36 g (r : Int) ((h + 1 : Nat) : Int) ((w : Nat) : Int) τ) (N := ks_nw Z) (P := fun o => ∃ τ, o = R36 (r : Int) ((h + 2 : Nat) : Int) τ ∧ jp_fr kc_FK s τ ∧ kt_K (kt_cY Z Ds a d m l (h + 1) 0) τ) (I := fun w τ => jp_fr kc_FK s τ ∧ kt_K (kt_cY Z Ds a d m l h w) τ) (fun g w τ hw' hI => Or.inr ?_) (fun g τ hI => ?_) (ks_nw Z) 0 jl_fu s (Nat.zero_add _) (by show ks_nw Z < 4000; omega) ⟨jp_fr.rf, hK⟩
  · obtain ⟨fI, kI⟩ := hI
    have N := hN.frK fI
    have ea : jl_add (w : Int) 1 = ((w + 1 : Nat) : Int) := by rw [jp_add (by omega) (by omega)]; omega
    have eM := kc_mostLeft (w := w) (d := d) (m := m) N hV hl hr hh ((fI.g _ _ (kc_FKn (by omega))).trans h6) (hY.fr fI (fun i => kc_FKn (by omega))) (fun p hp => (fI.g _ _ (kc_FKn (by omega))).trans (hH p hp))
    have lo := (kt_mst_ex (Ds := Ds) (a := a) (d := d) (m := m) (l := l) (h := h + 1) (w := (w : Int)) hN.1.1 99).1
    have hi := (kt_mst_cnt (Z := Z) (Ds := Ds) (a := a) (d := d) (m := m) (l := l) (h := h + 1) (w := (w : Int)) 99).1
    have cb : kt_cnt Z Ds a d m l 99 ≤ ((99 : Nat) : Int) := (ku_n_ge (fun j => kt_fit Z Ds a d m l (j + 1)) 99).2
    show ∃ x, jf_X6_searchTelling_L44 R36 (g + 1) (r : Int) ((h + 1 : Nat) : Int) (w : Int) τ = jf_X6_searchTelling_L44 R36 g (r : Int) ((h + 1 : Nat) : Int) ((w + 1 : Nat) : Int) x ∧ _
    rw [jf_X6_searchTelling_L44, N.1.g, N.1.gr, N.1.n1, if_neg (by omega), eM, jp_bd, kI.2.2, kt_cY_S hw]
    generalize kt_mst Z Ds a d m l (h + 1) (w : Int) 99 = M at *
    generalize kt_cY Z Ds a d m l h w = y at *
    by_cases c : M < y.2.2
    · rw [if_neg (by omega), jp_lm, jp_lm, jp_lm, jf_X6_searchTelling_B94, ea, if_pos c]
      refine ⟨_, rfl, ((fI.up (by decide)).up (by decide)).up (by decide), ?_, ?_, ?_⟩
      · rw [jp_g_nei (by decide), jp_g_nei (by decide), jp_g_eq (by omega) (by omega)]
      · rw [jp_g_nei (by decide), jp_g_eq (by omega) (by omega)]
      · rw [jp_g_eq (by omega) (by omega)]
    · rw [if_pos (by omega), jf_X6_searchTelling_B94, ea, if_neg c]
      exact ⟨τ, rfl, fI, kI⟩
  · obtain ⟨fI, kI⟩ := hI
    have N := hN.frK fI
    have ea : jl_add ((h + 1 : Nat) : Int) 1 = ((h + 2 : Nat) : Int) := by rw [jp_add (by omega) (by omega)]; omega
    rw [(kt_cY_H hw).1] at kI
    refine ⟨τ, ?_, fI, kI⟩
    show jf_X6_searchTelling_L44 R36 (g + 1) (r : Int) ((h + 1 : Nat) : Int) ((ks_nw Z : Nat) : Int) τ = _
    rw [jf_X6_searchTelling_L44, N.1.g, N.1.gr, N.1.n1, if_pos (Int.le_refl _), ea]
theorem kc_search {H l m c : Nat} {Z : jz_Z} {Ds : Nat → List Int} {a : Nat → Int} {d : kD} {s : jl_Mm} (hN : kc_N H Z Ds a s) (hV : kz_N Z Ds a) (hl : l < ks_nl Z) (h9 : a 0 < 999) (hc : kt_cnt Z Ds a d m l 99 = (c : Int)) (c0 : 0 < c) (hG : kt_G Z Ds a d m l 99 s) :
    jE (jf_X6_searchTelling (l : Int) s) 0 kc_FV s (kt_K (kt_bH Z Ds a d m l (kt_T a))) := by
  have h0 := hV.1.1
  have hw := kz_nw hN.1.1 hV.1 hl
  have cb : kt_cnt Z Ds a d m l 99 ≤ ((99 : Nat) : Int) := (ku_n_ge (fun j => kt_fit Z Ds a d m l (j + 1)) 99).2
  have hT : (if 999 - a 0 < 30 then 999 - a 0 else 30) = (kt_T a : Int) := by rw [kt_T]; split <;> omega
  have hT1 : kt_T a ≤ 30 ∧ 1 ≤ kt_T a ∧ a 0 + (kt_T a : Int) ≤ 999 := by split at hT <;> omega
  obtain ⟨s1, t1, f1, Y1, H1⟩ := kc_tallyAll (r := kt_T a) hN hV hl hT1.1 hT1.2.2 hc c0 hG
  have N1 := hN.frY f1
  have e6 : jl_g s1 200 6 = kt_cnt Z Ds a d m l 99 := (f1.g _ _ (kc_FYtn (by omega) (by decide))).trans hG.1
  have fV : jp_fr kc_FV s s1 := f1.ws (by intro c i h; simp [jp_in, kc_FYt, kc_FV] at h ⊢; omega)
  rw [jf_X6_searchTelling, kc_reach hN.2.2 h0, jp_bd, hT, t1, jp_bd, jp_lm, jp_lm, jp_lm]
  have f2 : jp_fr kc_FK s1 (jl_up (jl_up (jl_up s1 200 8 1) 200 9 0) 200 10 (jl_g (jl_up (jl_up s1 200 8 1) 200 9 0) 200 6)) := ((jp_fr.rf.up (by decide)).up (by decide)).up (by decide)
  have K2 : kt_K (kt_cY Z Ds a d m l 0 0) (jl_up (jl_up (jl_up s1 200 8 1) 200 9 0) 200 10 (jl_g (jl_up (jl_up s1 200 8 1) 200 9 0) 200 6)) := by
    rw [kt_cY, if_pos ⟨rfl, rfl⟩, jp_g_nei (by decide), jp_g_nei (by decide), e6]
    refine ⟨?_, ?_, ?_⟩
    · rw [jp_g_nei (by decide), jp_g_nei (by decide), jp_g_eq (by decide) (by decide)]
    · rw [jp_g_nei (by decide), jp_g_eq (by decide) (by decide)]
    · rw [jp_g_eq (by omega) (by omega)]
  generalize jl_up (jl_up (jl_up s1 200 8 1) 200 9 0) 200 10 (jl_g (jl_up (jl_up s1 200 8 1) 200 9 0) 200 6) = s2 at *
  have N2 := N1.frK f2
  have Y2 := Y1.fr f2 (fun i => kc_FKn (by omega))
  have H2 : kt_H Z a s2 := fun p hp => (f2.g _ _ (kc_FKn (by omega))).trans (H1 p hp)
  have e62 := (f2.g _ _ (kc_FKn (by omega))).trans e6
  have FV : jp_fr kc_FV s s2 := fV.tr (f2.ws (by intro c i h; simp [jp_in, kc_FV] at h ⊢; omega))
  refine ku_for (α := jl_Mm) (G := fun g h τ => jf_X6_searchTelling_L36 g (kt_T a : Int) ((h + 1 : Nat) : Int) τ) (N := kt_T a) (P := fun o => jE o 0 kc_FV s (kt_K (kt_bH Z Ds a d m l (kt_T a)))) (I := fun h τ => jp_fr kc_FK s2 τ ∧ kt_K (kt_cY Z Ds a d m l h 0) τ) (fun g h τ hh hI => Or.inr ?_) (fun g τ hI => ?_) (kt_T a) 0 jl_fu s2 (Nat.zero_add _) (by show kt_T a < 4000; omega) ⟨jp_fr.rf, K2⟩
  · obtain ⟨fI, kI⟩ := hI
    obtain ⟨υ, u1, u2, u3⟩ := kc_src44 (d := d) (m := m) (R36 := jf_X6_searchTelling_L36 g) (N2.frK fI) hV hl hT1.1 hh ((fI.g _ _ (kc_FKn (by omega))).trans e62) (Y2.fr fI (fun i => kc_FKn (by omega))) (fun p hp => (fI.g _ _ (kc_FKn (by omega))).trans (H2 p hp)) kI
    refine ⟨υ, ?_, fI.tr u2, u3⟩
    show jf_X6_searchTelling_L36 (g + 1) (kt_T a : Int) ((h + 1 : Nat) : Int) τ = _
    rw [jf_X6_searchTelling_L36, if_neg (by omega), u1]
  · obtain ⟨fI, kI⟩ := hI
    obtain ⟨t, et⟩ : ∃ t, kt_T a = t + 1 := ⟨kt_T a - 1, by omega⟩
    show jE (jf_X6_searchTelling_L36 (g + 1) (kt_T a : Int) ((kt_T a + 1 : Nat) : Int) τ) _ _ _ _
    rw [jf_X6_searchTelling_L36, if_pos (by omega)]
    refine ⟨τ, rfl, FV.tr (fI.ws (by intro c i h; simp [jp_in, kc_FV] at h ⊢; omega)), ?_⟩
    rw [et] at kI ⊢
    rw [(kt_cY_H hw).2] at kI
    exact kI
theorem kc_tells {Z : jz_Z} {Ds : Nat → List Int} {a : Nat → Int} {d : kD} {nx n : Nat} {v k : Int} {s : jl_Mm} (hV : kIv Z Ds a d nx n) (hs : kIc Z Ds a d nx n s) : jE (jf_X11_tells v k s) (kp_tells Z Ds a d v k) kc_FV s (fun _ => True) := by
  obtain ⟨H, hN, hG⟩ := hs.nA
  have h8 := hN.1.1.l
  have h0 := hV.1.1.1
  have h9 := hV.1.2.2.1
  have z : ∀ t, jf_X11_tells_B30 t = some (-1, t) := fun _ => rfl
  rw [jf_X11_tells]
  simp only [z]
  by_cases c0 : 0 ≤ k ∧ k ≤ 2
  · rw [if_neg (by omega), if_neg (by omega)]
    by_cases c : (0 ≤ v ∧ v < ((ks_nl Z : Nat) : Int)) ∧ 0 < a (8 + v.toNat)
    · obtain ⟨l, rfl⟩ : ∃ l : Nat, v = (l : Int) := ⟨v.toNat, by omega⟩
      have hl : l < ks_nl Z := by omega
      rw [kc_lit1 hN.1 hN.2.2 c, jp_bd, if_neg (by decide), hN.2.2.1, kp_tells, if_pos (show ((0 ≤ (l : Int) ∧ (l : Int) < ((ks_nl Z : Nat) : Int)) ∧ 0 < a (8 + (l : Int).toNat)) ∧ (0 ≤ k ∧ k ≤ 2) from ⟨c, c0⟩), Int.toNat_natCast]
      by_cases ch : a 0 < 999
      · obtain ⟨τ, t1, t2, t3⟩ := kc_gather (l := l) hN hV.1 (hs.S hV) hV.r.1 hV.r.2 hl
        rw [if_pos ch, t1, jp_bd, t3.1]
        have cb : 0 ≤ kt_cnt Z Ds a d (d 5 0).toNat l 99 := (ku_n_ge (fun j => kt_fit Z Ds a d (d 5 0).toNat l (j + 1)) 99).1
        by_cases cc : kt_cnt Z Ds a d (d 5 0).toNat l 99 = 0
        · rw [if_pos cc, if_neg (by omega)]
          exact ⟨τ, rfl, kc_FTV t2, trivial⟩
        · obtain ⟨c', hc'⟩ : ∃ c' : Nat, kt_cnt Z Ds a d (d 5 0).toNat l 99 = (c' : Int) := ⟨(kt_cnt Z Ds a d (d 5 0).toNat l 99).toNat, by omega⟩
          obtain ⟨υ, u1, u2, u3⟩ := kc_search (hN.frT t2) hV.1 hl ch hc' (by omega) t3
          have hT1 : ∃ t, kt_T a = t + 1 := ⟨kt_T a - 1, by rw [kt_T]; split <;> omega⟩
          obtain ⟨t, et⟩ := hT1
          have hn : (kt_bH Z Ds a d (d 5 0).toNat l (kt_T a)).1 ≠ -1 := by
            rw [et, kt_bH]
            exact kt_bW_n _ (Or.inr (kz_nw hN.1.1 hV.1.1 hl))
          rw [if_neg cc, if_pos (by omega), u1, jp_bd, kt_an, if_neg hn, u3.1, u3.2.1, u3.2.2]
          have FV : jp_fr kc_FV s υ := (kc_FTV t2).tr u2
          by_cases k0 : k = 0
          · rw [if_pos k0, if_pos k0]; exact ⟨υ, rfl, FV, trivial⟩
          rw [if_neg k0, if_neg k0]
          by_cases k1 : k = 1
          · rw [if_pos k1, if_pos k1]; exact ⟨υ, rfl, FV, trivial⟩
          rw [if_neg k1, if_neg k1]; exact ⟨υ, rfl, FV, trivial⟩
      · have et : kt_T a = 0 := by rw [kt_T]; split <;> omega
        rw [if_neg ch, et]
        have e : (if 0 < kt_cnt Z Ds a d (d 5 0).toNat l 99 then kt_an k (kt_bH Z Ds a d (d 5 0).toNat l 0) else -1) = -1 := by
          split
          · rfl
          · rfl
        rw [e]
        exact jE.ret trivial
    · rw [kc_lit0 hN.1 hN.2.2 c, jp_bd, if_pos rfl, kp_tells, if_neg (fun q => c q.1)]
      exact jE.ret trivial
  · have e : kp_tells Z Ds a d v k = -1 := by rw [kp_tells, if_neg (fun q => c0 q.2)]
    rw [e]
    by_cases c1 : k < 0
    · rw [if_pos c1]; exact jE.ret trivial
    · rw [if_neg c1, if_pos (by omega)]; exact jE.ret trivial
theorem kI_tells {v k : Int} (hv : jl_n3 v) (hk : jl_n3 k) : kI_call (jf_X11_tells v k) (jf_X12_tells v k) := kI_see2 (fun Z Ds a d nx n hV => ⟨_, fun s hs => kc_tells hV hs, fun s hs => kr_tells hv hk hV hs⟩)
