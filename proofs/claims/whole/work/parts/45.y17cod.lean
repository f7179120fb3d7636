/-! PURE, the reference's street reader: codes told -/
/-- where the reference keeps the codes of the three kinds -/
def jh_D (L : List Int) (Z : jz_Z) (s : jl_Mm) : Prop :=
  L.length ≤ 1600 ∧ jl_g s 206 52 = (L.length : Int) ∧ (∀ i (h : i < L.length), jl_g s 248 i = L[i]) ∧
  ∀ w, w < 3 → (Z.1 (10 + w) < Z.1 (20 + w) → jl_g s 246 w = Z.1 (10 + w) ∧ jl_g s 247 w = Z.1 (20 + w) ∧ 0 ≤ Z.1 (10 + w) ∧ Z.1 (20 + w) ≤ (L.length : Int)) ∧ (¬ Z.1 (10 + w) < Z.1 (20 + w) → jl_g s 246 w = -1)
theorem jh_D.fr {L : List Int} {Z Z' : jz_Z} {s τ : jl_Mm} {F : jp_F} (h : jh_D L Z s) (f : jp_fr F s τ) (w0 : jp_in F 206 52 = false) (w1 : ∀ c i, 246 ≤ c → c < 249 → jp_in F c i = false) (hZ : ∀ w, w < 3 → Z'.1 (10 + w) = Z.1 (10 + w) ∧ Z'.1 (20 + w) = Z.1 (20 + w)) : jh_D L Z' τ := by
  obtain ⟨h0, h1, h2, h3⟩ := h
  refine ⟨h0, (f.g _ _ w0).trans h1, fun i hi => (f.g _ _ (w1 _ _ (by decide) (by decide))).trans (h2 i hi), fun w hw => ?_⟩
  obtain ⟨a, b⟩ := hZ w hw
  rw [a, b, f.g 246 w (w1 _ _ (by decide) (by decide)), f.g 247 w (w1 _ _ (by decide) (by decide))]
  exact h3 w hw
def jh_FC : jp_F := [(206, 2, 3), (206, 4, 5), (206, 5, 7), (206, 10, 11), (206, 43, 44), (241, 0, 6), (242, 0, 16), (243, 0, 12), (244, 0, 16), (245, 0, 48), (206, 52, 53), (206, 55, 56), (206, 100, 101), (206, 102, 103), (206, 103, 104), (206, 104, 105), (246, 0, 3), (247, 0, 3), (248, 0, 1600), (282, 0, 0), (283, 0, 0)]
theorem jh_copy {w A : Nat} {cs : List Int} (hw : w < 3) : ∀ (m n l : Nat) (s : jl_Mm), m + l = cs.length → m < n → A + cs.length ≤ 1600 → jl_g s 206 100 = (cs.length : Int) → jl_g s 206 52 = ((A + l : Nat) : Int) → (∀ i (h : i < cs.length), jl_g s 282 i = cs[i]) → jE (jf_X12_codesTold_L92 n (w : Int) (l : Int) s) 0 [(206, 52, 53), (247, w, w + 1), (248, 0, 1600)] s (fun τ => jl_g τ 206 52 = ((A + cs.length : Nat) : Int) ∧ jl_g τ 247 w = ((A + cs.length : Nat) : Int) ∧ (∀ i (h : i < cs.length), l ≤ i → jl_g τ 248 (A + i) = cs[i]) ∧ (∀ i, i < A + l → jl_g τ 248 i = jl_g s 248 i)) := by
  intro m
  induction m with
  | zero =>
    intro n l s hm hn hA h1 h2 h3
    obtain ⟨n, rfl⟩ : ∃ j, n = j + 1 := ⟨n - 1, by omega⟩
    rw [jf_X12_codesTold_L92, h1, if_pos (by omega), if_pos (by omega), Int.toNat_natCast, h2]
    refine jE.lm (by simp [jp_in]) (jE.ret ⟨?_, ?_, fun i hi hl => by omega, fun i hi => ?_⟩)
    · rw [jp_g_ne (by decide), h2]; omega
    · rw [jp_g_eq (by omega) (by omega)]; omega
    · rw [jp_g_ne (by decide)]
  | succ m ih =>
    intro n l s hm hn hA h1 h2 h3
    obtain ⟨n, rfl⟩ : ∃ j, n = j + 1 := ⟨n - 1, by omega⟩
    have hl : l < cs.length := by omega
    have hc := h3 l hl
    have cn := jp_gn s 282 l
    rw [hc] at cn
    obtain ⟨cn1, cn2⟩ := cn
    rw [jf_X12_codesTold_L92, h1, if_neg (by omega), if_pos (by omega), h2, if_pos (by omega), Int.toNat_natCast, Int.toNat_natCast, hc, jp_lm]
    have g52 : jl_g (jl_up s 248 (A + l) cs[l]) 206 52 = ((A + l : Nat) : Int) := by rw [jp_g_ne (by decide)]; exact h2
    rw [g52, jp_add (by omega) (by omega), jp_lm, jp_add (by omega) (by omega)]
    have fr : jp_fr [(206, 52, 53), (247, w, w + 1), (248, 0, 1600)] s (jl_up (jl_up s 248 (A + l) cs[l]) 206 52 (((A + l : Nat) : Int) + 1)) := (jp_fr.rf.up (by simp [jp_in]; omega)).up (by simp [jp_in])
    have v : ∀ i, jl_g (jl_up (jl_up s 248 (A + l) cs[l]) 206 52 (((A + l : Nat) : Int) + 1)) 248 i = if i = A + l then cs[l] else jl_g s 248 i := by
      intro i
      rw [jp_g_ne (by decide)]
      by_cases q : i = A + l
      · subst q; rw [if_pos rfl, jp_g_eq cn1 cn2]
      · rw [if_neg q, jp_g_nei q]
    refine jE.fr fr (jE.mono (ih n (l + 1) _ (by omega) (by omega) hA ?_ ?_ (fun i hi => ?_)) (by simp) (fun τ _ ⟨z1, z2, z3, z4⟩ => ⟨z1, z2, fun i hi hl => ?_, fun i hi => ?_⟩))
    · rw [jp_g_nei (by decide), jp_g_ne (by decide)]; exact h1
    · rw [jp_g_eq (by omega) (by omega)]; omega
    · rw [jp_g_ne (by decide), jp_g_ne (by decide)]; exact h3 i hi
    · by_cases q : i = l
      · subst q
        rw [z4 _ (by omega), v, if_pos rfl]
      · exact z3 i hi (by omega)
    · rw [z4 i (by omega), v, if_neg (by omega)]
theorem jh_FQo {c i : Nat} (h1 : c ≠ 206) (h2 : c ≠ 282) (h3 : c ≠ 283) : jp_in jy_FQ c i = false := by
  simp [jp_in, jy_FQ, Ne.symm h1, Ne.symm h2, Ne.symm h3, h1, h2, h3]
theorem jh_FCw {w c i : Nat} (hw : w < 3) (hc : jp_in [(206, 52, 53), (247, w, w + 1), (248, 0, 1600)] c i = true) : jp_in jh_FC c i = true := by
  have : (c = 206 ∧ i = 52) ∨ (c = 247 ∧ i < 3) ∨ (c = 248 ∧ i < 1600) := by simp [jp_in] at hc; omega
  rcases this with ⟨rfl, rfl⟩ | ⟨rfl, hi⟩ | ⟨rfl, hi⟩
  · decide
  · simp [jp_in, jh_FC]; omega
  · simp [jp_in, jh_FC]; omega
theorem jh_codes {T : Nat → Int} {e w : Nat} {st : jq_S} {Z : jz_Z} {s : jl_Mm} {v : Int} (hw : w < 3) (h : jh_B T e st Z s) (h0 : st.1 = 0) (hs : jq_wf T e st) (hD : jh_D st.2.2 Z s) (hnot : ¬ Z.1 (10 + w) < Z.1 (20 + w)) (hlen : st.2.2.length ≤ st.2.1) : jE (jf_X12_codesTold (w : Int) v s) 0 jh_FC s (fun τ => jh_B T e (jz_codes T e w Z st).1 (jz_codes T e w Z st).2 τ ∧ jq_wf T e (jz_codes T e w Z st).1 ∧ ((jz_codes T e w Z st).1.1 = 0 → jh_D (jz_codes T e w Z st).1.2.2 (jz_codes T e w Z st).2 τ ∧ (jz_codes T e w Z st).1.2.2.length ≤ (jz_codes T e w Z st).1.2.1)) := by
  have hL := h.1.1 h0
  have he := hL.1
  have hpe := hL.pe
  have m5 : jl_g s 206 5 = 0 := hL.2.2.2.1
  obtain ⟨d0, d1, d2, d3⟩ := hD
  rw [jf_X12_codesTold, if_pos m5, if_pos (by omega), Int.toNat_natCast, if_pos ((d3 w hw).2 hnot), jf_X12_codesTold_B23, if_pos m5, jp_lm, jp_lm, jp_lm, jp_lm, jp_lm]
  have frA : jp_fr [(206, 55, 56), (206, 100, 101), (206, 102, 103), (206, 103, 104), (206, 104, 105)] s (jl_up (jl_up (jl_up (jl_up (jl_up s 206 55 (w : Int)) 206 100 0) 206 102 0) 206 103 0) 206 104 0) := ((((jp_fr.rf.up rfl).up rfl).up rfl).up rfl).up rfl
  have V : jy_V w 0 0 st.2.1 [] [] (jl_up (jl_up (jl_up (jl_up (jl_up s 206 55 (w : Int)) 206 100 0) 206 102 0) 206 103 0) 206 104 0) := by
    refine ⟨?_, ?_, ?_, ?_, fun i hi => absurd hi (Nat.not_lt_zero _), ?_, fun i hi => absurd hi (Nat.not_lt_zero _), Nat.zero_le _, by omega, by decide⟩
    · simp (disch := omega) only [if_pos, if_neg, jp_bd, jp_lm, jp_let, jp_zb0, jp_zb1, jp_add, jp_sub, jp_g_eq, jp_g_eqg, jp_g_ne, jp_g_nei, jp_r_ne, jp_r_nei, Int.toNat_natCast]
    · simp (disch := omega) only [if_pos, if_neg, jp_bd, jp_lm, jp_let, jp_zb0, jp_zb1, jp_add, jp_sub, jp_g_eq, jp_g_eqg, jp_g_ne, jp_g_nei, jp_r_ne, jp_r_nei, Int.toNat_natCast]
      rfl
    · simp (disch := omega) only [if_pos, if_neg, jp_bd, jp_lm, jp_let, jp_zb0, jp_zb1, jp_add, jp_sub, jp_g_eq, jp_g_eqg, jp_g_ne, jp_g_nei, jp_r_ne, jp_r_nei, Int.toNat_natCast]
      rfl
    · simp (disch := omega) only [if_pos, if_neg, jp_bd, jp_lm, jp_let, jp_zb0, jp_zb1, jp_add, jp_sub, jp_g_eq, jp_g_eqg, jp_g_ne, jp_g_nei, jp_r_ne, jp_r_nei, Int.toNat_natCast]
      rfl
    · simp (disch := omega) only [if_pos, if_neg, jp_bd, jp_lm, jp_let, jp_zb0, jp_zb1, jp_add, jp_sub, jp_g_eq, jp_g_eqg, jp_g_ne, jp_g_nei, jp_r_ne, jp_r_nei, Int.toNat_natCast]
      rfl
  generalize jl_up (jl_up (jl_up (jl_up (jl_up s 206 55 (w : Int)) 206 100 0) 206 102 0) 206 103 0) 206 104 0 = a at *
  have La : jy_L T e st.2.1 a := hL.fr frA (by intro i hi; simp [jp_in]; omega) (by intro i; simp [jp_in]) (by intro c i hc; simp [jp_in]; rcases hc with hc | hc <;> omega)
  have Q : jy_Q T e st.2.1 w 0 0 st.2.1 [] [] a := ⟨La, V⟩
  -- the sum or test, read alone
  have R : jE (if (w : Int) = 2 then jf_X12_qTest a else jf_X12_qSums a) 0 jy_FQ a (fun τ => ((jq_g T e w 60 (if w = 2 then 0 else 3) 0 0 (0, st.2.1, [])).1 ≠ 0 → jy_K (jq_g T e w 60 (if w = 2 then 0 else 3) 0 0 (0, st.2.1, [])).1 (jq_g T e w 60 (if w = 2 then 0 else 3) 0 0 (0, st.2.1, [])).2.1 τ) ∧ ((jq_g T e w 60 (if w = 2 then 0 else 3) 0 0 (0, st.2.1, [])).1 = 0 → jy_Q T e (jq_g T e w 60 (if w = 2 then 0 else 3) 0 0 (0, st.2.1, [])).2.1 w 0 0 (jq_g T e w 60 (if w = 2 then 0 else 3) 0 0 (0, st.2.1, [])).2.1 [] (jq_g T e w 60 (if w = 2 then 0 else 3) 0 0 (0, st.2.1, [])).2.2 τ)) := by
    by_cases q : w = 2
    · rw [if_pos (by omega), if_pos q]
      exact jx12_qTest (d := 60) (by omega) (by decide) (by decide) Q
    · rw [if_neg (by omega), if_neg q]
      exact jE.mono (jx12_qSums (d := 60) (by omega) (by decide) (by decide) (by decide) Q) (by decide) (fun τ _ z => ⟨fun y => (z.1 y).1, z.2⟩)
  have hML := jq_ML_all (T := T) (e := e) (kind := w) 60 (if w = 2 then 0 else 3) 0 0 st (by split <;> decide) (by split <;> decide) (by decide) hs (by split <;> (intro y; cases y)) (by split <;> (intro y; cases y))
  obtain ⟨wf, -, rl⟩ := hML
  have eq0 := jh_g0 (T := T) (e := e) (kind := w) (d := 60) (t := if w = 2 then 0 else 3) (o := 0) (a := 0) h0
  have hZ : jz_codes T e w Z st = (jq_g T e w 60 (if w = 2 then 0 else 3) 0 0 st, jz_s (jz_s Z (10 + w) (st.2.2.length : Int)) (20 + w) ((jq_g T e w 60 (if w = 2 then 0 else 3) 0 0 st).2.2.length : Int)) := rfl
  have hh : jq_h (if w = 2 then 0 else 3) 0 ≤ 128 := by split <;> decide
  rw [hZ]
  clear hZ
  simp only
  generalize jq_g T e w 60 (if w = 2 then 0 else 3) 0 0 (0, st.2.1, []) = R0 at *
  generalize jq_g T e w 60 (if w = 2 then 0 else 3) 0 0 st = RR at *
  obtain ⟨b, b1, b2, b3⟩ := R
  have k1 : RR.1 = R0.1 := by rw [eq0]; rfl
  have k2 : RR.2.1 = R0.2.1 := by rw [eq0]; rfl
  have k3 : RR.2.2 = st.2.2 ++ R0.2.2 := by rw [eq0]; rfl
  have hif : (if (w : Int) = 2 then (jl_bd (jf_X12_qTest a) fun r21 s22 => jf_X12_codesTold_B72 (w : Int) s22) else (jl_bd (jf_X12_qSums a) fun r9 s10 => jf_X12_codesTold_B72 (w : Int) s10)) = jl_bd (if (w : Int) = 2 then jf_X12_qTest a else jf_X12_qSums a) fun _ s22 => jf_X12_codesTold_B72 (w : Int) s22 := by
    split <;> rfl
  have frAC : jp_fr jh_FC s a := frA.w (by decide)
  have frb : jp_fr jh_FC s b := frAC.tr (b2.w (by decide))
  have frsb : ∀ c i, (c ≠ 206 ∨ i = 52) → c ≠ 282 → c ≠ 283 → jl_g b c i = jl_g s c i := by
    intro c i h1 h2 h3
    rcases h1 with h1 | rfl
    · rw [b2.g c i (jh_FQo h1 h2 h3), frA.g c i (by simp [jp_in]; omega)]
    · by_cases hc : c = 206
      · subst hc; rw [b2.g 206 52 (by decide), frA.g 206 52 (by decide)]
      · rw [b2.g c 52 (jh_FQo hc h2 h3), frA.g c 52 (by simp [jp_in])]
  have Mb : jh_M b := by
    obtain ⟨x, y, z⟩ := h.2.1
    exact ⟨by rw [frsb _ _ (by decide) (by decide) (by decide)]; exact x, by rw [frsb _ _ (by decide) (by decide) (by decide)]; exact y, by rw [frsb _ _ (by decide) (by decide) (by decide)]; exact z⟩
  have Rb : jh_R Z b := by
    have r1 : jh_R Z a := (h.2.2 h0).fr frA (fun c i h1 h2 => by simp [jp_in]; omega)
    exact r1.fr b2 (fun c i h1 h2 => jh_FQo (by omega) (by omega) (by omega))
  rw [hif, b1, jp_bd, jf_X12_codesTold_B72]
  by_cases z : R0.1 = 0
  · have Qb := b3.2 z
    have Lb : jy_L T e R0.2.1 b := Qb.1
    obtain ⟨-, -, -, -, -, v6, v7, -⟩ := Qb.2
    have m5b : jl_g b 206 5 = 0 := Lb.2.2.2.1
    obtain ⟨c, c1, c2, -, c4, -⟩ := rl h0 (k1.trans z)
    have ec : c = R0.2.2 := List.append_cancel_left (c1.symm.trans k3)
    subst ec
    have hwf := wf.1
    have c52 : jl_g b 206 52 = (st.2.2.length : Int) := (frsb _ _ (Or.inr rfl) (by decide) (by decide)).trans d1
    have hpos : 0 < R0.2.2.length := by
      cases hcs : R0.2.2 with
      | nil =>
        rw [hcs] at c4
        have := c4 [] (by rw [List.length_nil, Nat.zero_add]; exact hh)
        rw [jq_ty] at this
        simp at this
      | cons x xs => simp
    rw [if_pos m5b, if_pos (by omega), c52, jp_lm, Int.toNat_natCast]
    have fr6 : jp_fr [(246, w, w + 1)] b (jl_up b 246 w (st.2.2.length : Int)) := jp_fr.rf.up (by simp [jp_in])
    have g6 : jl_g (jl_up b 246 w (st.2.2.length : Int)) 246 w = (st.2.2.length : Int) := jp_g_eq (by omega) (by omega)
    have fr6C : jp_fr jh_FC b (jl_up b 246 w (st.2.2.length : Int)) := jp_fr.rf.up (by simp [jp_in, jh_FC]; omega)
    generalize jl_up b 246 w (st.2.2.length : Int) = b' at *
    have n6 : ∀ c i, (c ≠ 246 ∨ i ≠ w) → jp_in [(246, w, w + 1)] c i = false := by intro c i hc; simp [jp_in]; omega
    obtain ⟨τ, t1, t2, t3, t4, t5, t6⟩ := jh_copy (w := w) (A := st.2.2.length) (cs := R0.2.2) hw R0.2.2.length jl_fu 0 b' rfl (by show _ < 4000; omega) (by omega) ((fr6.g _ _ (n6 _ _ (by omega))).trans v6) ((fr6.g _ _ (n6 _ _ (by omega))).trans (by rw [c52]; rfl)) (fun i hi => (fr6.g _ _ (n6 _ _ (by omega))).trans (v7 i hi))
    rw [show ((0 : Nat) : Int) = 0 from rfl] at t1
    rw [t1]
    have n7 : ∀ c i, (c ≠ 206 ∨ i ≠ 52) → (c ≠ 247 ∨ i ≠ w) → c ≠ 248 → jp_in [(206, 52, 53), (247, w, w + 1), (248, 0, 1600)] c i = false := by intro c i h1 h2 h3; simp [jp_in]; omega
    have Lτ : jy_L T e R0.2.1 τ := (Lb.fr fr6 (by intro i hi; exact n6 _ _ (by omega)) (by intro i; exact n6 _ _ (by omega)) (by intro c i hc; exact n6 _ _ (by rcases hc with hc | hc <;> omega))).fr t2 (by intro i hi; exact n7 _ _ (by omega) (by omega) (by omega)) (by intro i; exact n7 _ _ (by omega) (by omega) (by omega)) (by intro c i hc; exact n7 _ _ (by rcases hc with hc | hc <;> omega) (by rcases hc with hc | hc <;> omega) (by rcases hc with hc | hc <;> omega))
    have t2C : jp_fr jh_FC b' τ := t2.ws (fun c i hc => jh_FCw hw hc)
    have hlenR : RR.2.2.length = st.2.2.length + R0.2.2.length := by rw [k3, List.length_append]
    have gτ : ∀ c i, (c ≠ 206 ∨ i ≠ 52) → (c ≠ 247 ∨ i ≠ w) → c ≠ 248 → (c ≠ 246 ∨ i ≠ w) → jl_g τ c i = jl_g b c i := fun c i h1 h2 h3 h4 => (t2.g _ _ (n7 _ _ h1 h2 h3)).trans (fr6.g _ _ (n6 _ _ h4))
    have ze : ∀ k, k < 10 → (jz_s (jz_s Z (10 + w) (st.2.2.length : Int)) (20 + w) (RR.2.2.length : Int)).1 k = Z.1 k := by
      intro k hk; simp only [jz_s]; rw [if_neg (by omega), if_neg (by omega)]
    have Rτ : jh_R (jz_s (jz_s Z (10 + w) (st.2.2.length : Int)) (20 + w) (RR.2.2.length : Int)) τ := by
      have r1 := (Rb.fr fr6 (fun c i h1 h2 => n6 _ _ (by omega))).fr t2 (fun c i h1 h2 => n7 _ _ (by omega) (by omega) (by omega))
      obtain ⟨x1, x2, x3, x4⟩ := r1
      refine ⟨fun k hk => (x1 k hk).trans (ze _ (by omega)).symm, fun i hi => ?_, fun i hi => ?_, fun i hi => ?_⟩
      · rw [ze 2 (by decide)] at hi; exact x2 i hi
      · rw [ze 3 (by decide)] at hi; exact x3 i hi
      · rw [ze 4 (by decide)] at hi; exact x4 i hi
    refine ⟨τ, rfl, (frb.tr fr6C).tr t2C, ⟨⟨fun _ => by rw [k2]; exact Lτ, fun y => absurd (k1.trans z) y⟩, ⟨?_, ?_, ?_⟩, fun _ => Rτ⟩, wf, fun _ => ⟨⟨?_, ?_, ?_, ?_⟩, ?_⟩⟩
    · rw [gτ _ _ (by omega) (by omega) (by omega) (by omega)]; exact Mb.1
    · rw [gτ _ _ (by omega) (by omega) (by omega) (by omega)]; exact Mb.2.1
    · rw [gτ _ _ (by omega) (by omega) (by omega) (by omega)]; exact Mb.2.2
    · omega
    · rw [t3, hlenR]
    · intro i hi
      by_cases q : i < st.2.2.length
      · have e1 : RR.2.2[i] = st.2.2[i] := by simp only [k3]; rw [List.getElem_append_left q]
        rw [e1, t6 i (by omega), fr6.g _ _ (n6 _ _ (by omega)), frsb _ _ (by omega) (by omega) (by omega)]
        exact d2 i q
      · obtain ⟨j, rfl⟩ : ∃ j, i = st.2.2.length + j := ⟨i - st.2.2.length, by omega⟩
        have e1 : RR.2.2[st.2.2.length + j] = R0.2.2[j]'(by omega) := by simp only [k3]; rw [List.getElem_append_right (by omega)]; simp
        rw [e1]
        exact t5 j (by omega) (Nat.zero_le _)
    · intro x hx
      by_cases q : x = w
      · subst q
        have y1 : (jz_s (jz_s Z (10 + x) (st.2.2.length : Int)) (20 + x) (RR.2.2.length : Int)).1 (10 + x) = (st.2.2.length : Int) := by simp only [jz_s]; rw [if_neg (by omega), if_pos trivial]
        have y2 : (jz_s (jz_s Z (10 + x) (st.2.2.length : Int)) (20 + x) (RR.2.2.length : Int)).1 (20 + x) = (RR.2.2.length : Int) := by simp only [jz_s]; rw [if_pos trivial]
        rw [y1, y2]
        refine ⟨fun _ => ⟨?_, ?_, by omega, by omega⟩, fun y => by omega⟩
        · rw [t2.g _ _ (n7 _ _ (by omega) (by omega) (by omega))]; exact g6
        · rw [t4, hlenR]
      · have y1 : (jz_s (jz_s Z (10 + w) (st.2.2.length : Int)) (20 + w) (RR.2.2.length : Int)).1 (10 + x) = Z.1 (10 + x) := by simp only [jz_s]; rw [if_neg (by omega), if_neg (by omega)]
        have y2 : (jz_s (jz_s Z (10 + w) (st.2.2.length : Int)) (20 + w) (RR.2.2.length : Int)).1 (20 + x) = Z.1 (20 + x) := by simp only [jz_s]; rw [if_neg (by omega), if_neg (by omega)]
        rw [y1, y2, gτ 246 x (by omega) (by omega) (by omega) (by omega), gτ 247 x (by omega) (by omega) (by omega) (by omega), frsb 246 x (by omega) (by omega) (by omega), frsb 247 x (by omega) (by omega) (by omega)]
        refine ⟨fun y => ?_, (d3 x hx).2⟩
        obtain ⟨p1, p2, p3, p4⟩ := (d3 x hx).1 y
        exact ⟨p1, p2, p3, by omega⟩
    · omega
  · have Kb := b3.1 z
    rw [if_neg (by rw [Kb.2.1]; omega)]
    exact ⟨b, rfl, frb, ⟨⟨fun y => absurd (k1.symm.trans y) z, fun _ => by rw [k1, k2]; exact Kb⟩, Mb, fun y => absurd (k1.symm.trans y) z⟩, wf, fun y => absurd (k1.symm.trans y) z⟩
