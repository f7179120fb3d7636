/-! PURE, both: the log, hours -/
theorem kc_add {q : Nat} {a : Nat → Int} {h l : Int} {s : jl_Mm} (hq : (jl_kd q).1 = 2) (hG : kc_G q a s) (hk : 0 ≤ a 24 ∧ a 24 ≤ 40) (hh : jl_n3 h) (hl : jl_n3 l) : jE (jf_X2_add q h l s) 0 [(q, 2, 4), (q + 1, 0, 0), (q + 2, 0, 0)] s (kc_G q (ks_push a h l)) := by
  obtain ⟨g3, f, hf, g2, g⟩ := hG
  obtain ⟨k, ek⟩ : ∃ k : Nat, a 24 = (k : Int) := ⟨(a 24).toNat, by omega⟩
  have er : jl_rem (jl_add (f : Int) (a 24)) 40 = (((f + k) % 40 : Nat) : Int) := by
    rw [ek, jp_add (by omega) (by omega), show (f : Int) + (k : Int) = ((f + k : Nat) : Int) from rfl, ku_rem40 _ (by omega)]
  have hx : (f + k) % 40 < 40 := Nat.mod_lt _ (by decide)
  rw [jf_X2_add, if_pos hq, g2, g3, er, jp_let, if_pos (by omega), Int.toNat_natCast, jp_lm, if_pos (by omega), jp_lm]
  have F1 : jp_fr [(q, 2, 4), (q + 1, 0, 0), (q + 2, 0, 0)] s (jl_up (jl_up s (q + 1) ((f + k) % 40) h) (q + 2) ((f + k) % 40) l) := (jp_fr.rf.up (by simp [jp_in])).up (by simp [jp_in])
  have v1 : ∀ i, jl_g (jl_up (jl_up s (q + 1) ((f + k) % 40) h) (q + 2) ((f + k) % 40) l) (q + 1) i = if i = (f + k) % 40 then h else jl_g s (q + 1) i := fun i => by
    rw [jp_g_ne (by omega)]
    by_cases c : i = (f + k) % 40
    · rw [if_pos c, c, jp_g_eq hh.1 hh.2]
    · rw [if_neg c, jp_g_nei c]
  have v2 : ∀ i, jl_g (jl_up (jl_up s (q + 1) ((f + k) % 40) h) (q + 2) ((f + k) % 40) l) (q + 2) i = if i = (f + k) % 40 then l else jl_g s (q + 2) i := fun i => by
    by_cases c : i = (f + k) % 40
    · rw [if_pos c, c, jp_g_eq hl.1 hl.2]
    · rw [if_neg c, jp_g_nei c, jp_g_ne (by omega)]
  have w2 : jl_g (jl_up (jl_up s (q + 1) ((f + k) % 40) h) (q + 2) ((f + k) % 40) l) q 2 = (f : Int) := by rw [jp_g_ne (by omega), jp_g_ne (by omega)]; exact g2
  have w3 : jl_g (jl_up (jl_up s (q + 1) ((f + k) % 40) h) (q + 2) ((f + k) % 40) l) q 3 = (k : Int) := by rw [jp_g_ne (by omega), jp_g_ne (by omega), g3, ek]
  generalize jl_up (jl_up s (q + 1) ((f + k) % 40) h) (q + 2) ((f + k) % 40) l = s1 at *
  rw [w3]
  by_cases c : k = 40
  · have er2 : jl_rem (jl_add (f : Int) 1) 40 = (((f + 1) % 40 : Nat) : Int) := by rw [jp_add (by omega) (by omega), ku_s, ku_rem40 _ (by omega)]
    have ea : a 24 = 40 := by omega
    rw [if_pos (by omega), w2, er2, jp_lm, jf_X2_add_B62]
    refine ⟨_, rfl, F1.up (by simp [jp_in]), ?_, (f + 1) % 40, Nat.mod_lt _ (by decide), jp_g_eq (by omega) (by omega), fun j hj => ?_⟩
    · rw [jp_g_nei (by decide), w3, ks_push_24 hk, if_pos ea]; omega
    · rw [ks_push_24 hk, if_pos ea] at hj
      rw [jp_g_ne (by omega), jp_g_ne (by omega), v1, v2, ks_push, if_pos ea]
      show _ = (if 25 + 2 * j = 104 then l else if 25 + 2 * j = 103 then h else if 25 ≤ 25 + 2 * j ∧ 25 + 2 * j < 103 then a (25 + 2 * j + 2) else a (25 + 2 * j)) ∧ _ = (if 26 + 2 * j = 104 then l else if 26 + 2 * j = 103 then h else if 25 ≤ 26 + 2 * j ∧ 26 + 2 * j < 103 then a (26 + 2 * j + 2) else a (26 + 2 * j))
      subst c
      by_cases c9 : j = 39
      · subst c9
        have q : ((f + 1) % 40 + 39) % 40 = (f + 40) % 40 := by omega
        refine ⟨?_, ?_⟩
        · rw [if_pos q, if_neg (by decide), if_pos (by decide)]
        · rw [if_pos q, if_pos (by decide)]
      · have := g (j + 1) (by omega)
        have q : ¬ ((f + 1) % 40 + j) % 40 = (f + 40) % 40 := by omega
        have qe : ((f + 1) % 40 + j) % 40 = (f + (j + 1)) % 40 := by omega
        refine ⟨?_, ?_⟩
        · rw [if_neg q, if_neg (by omega), if_neg (by omega), if_pos (by omega), qe, this.1, show 25 + 2 * (j + 1) = 25 + 2 * j + 2 by omega]
        · rw [if_neg q, if_neg (by omega), if_neg (by omega), if_pos (by omega), qe, this.2, show 26 + 2 * (j + 1) = 26 + 2 * j + 2 by omega]
  · have ea : ¬ a 24 = 40 := by omega
    rw [if_neg (by omega), jp_add (by omega) (by omega), jp_lm, jf_X2_add_B62]
    refine ⟨_, rfl, F1.up (by simp [jp_in]), ?_, f, hf, ?_, fun j hj => ?_⟩
    · rw [jp_g_eq (by omega) (by omega), ks_push_24 hk, if_neg ea]; omega
    · rw [jp_g_nei (by decide)]; exact w2
    · rw [ks_push_24 hk, if_neg ea] at hj
      rw [jp_g_ne (by omega), jp_g_ne (by omega), v1, v2, ks_push, if_neg ea]
      show _ = (if ((25 + 2 * j : Nat) : Int) = 26 + 2 * a 24 then l else if ((25 + 2 * j : Nat) : Int) = 25 + 2 * a 24 then h else if 25 + 2 * j = 24 then a 24 + 1 else a (25 + 2 * j)) ∧ _ = (if ((26 + 2 * j : Nat) : Int) = 26 + 2 * a 24 then l else if ((26 + 2 * j : Nat) : Int) = 25 + 2 * a 24 then h else if 26 + 2 * j = 24 then a 24 + 1 else a (26 + 2 * j))
      by_cases cj : j = k
      · subst cj
        refine ⟨?_, ?_⟩
        · rw [if_pos rfl, if_neg (by omega), if_pos (by omega)]
        · rw [if_pos rfl, if_pos (by omega)]
      · have := g j (by omega)
        have q : ¬ (f + j) % 40 = (f + k) % 40 := by omega
        refine ⟨?_, ?_⟩
        · rw [if_neg q, if_neg (by omega), if_neg (by omega), if_neg (by omega)]; exact this.1
        · rw [if_neg q, if_neg (by omega), if_neg (by omega), if_neg (by omega)]; exact this.2
theorem kc_addAll {q n : Nat} {a : Nat → Int} {h : Int} {p : Nat → Bool} {s : jl_Mm} (hq : (jl_kd q).1 = 2) (hG : kc_G q a s) (hk : 0 ≤ a 24 ∧ a 24 ≤ 40) (hh : jl_n3 h) (hn : n ≤ 8) : jE (jf_X2_addAll q h (ku_b p n) s) 0 [(q, 2, 4), (q + 1, 0, 0), (q + 2, 0, 0)] s (kc_G q (ks_log false a h p n)) := by
  rw [jf_X2_addAll, if_pos hq]
  have emin : ∀ l, n ≤ l → (if l < n then l else n) = n := fun l h => if_neg (by omega)
  refine ku_for (α := jl_Mm) (G := fun k l τ => jf_X2_addAll_L2 k q h (ku_b p n) ((l : Nat) : Int) τ) (N := 8) (P := fun o => jE o 0 [(q, 2, 4), (q + 1, 0, 0), (q + 2, 0, 0)] s (kc_G q (ks_log false a h p n))) (I := fun l τ => jp_fr [(q, 2, 4), (q + 1, 0, 0), (q + 2, 0, 0)] s τ ∧ kc_G q (ks_log false a h p (if l < n then l else n)) τ) (fun k l τ hl hI => Or.inr ?_) (fun k τ hI => ?_) 8 0 jl_fu s (by decide) (by decide) ⟨jp_fr.rf, ?_⟩
  · obtain ⟨hf, hI⟩ := hI
    have ea : jl_add (l : Int) 1 = ((l + 1 : Nat) : Int) := by rw [jp_add (by omega) (by omega)]; omega
    have hb : jl_and (jl_shr (ku_b p n) (l : Int)) 1 = if (decide (l < n) && p l) = true then 1 else 0 := by rw [jp_bit (by omega), ku_b_tb p (by omega) n (by omega)]
    show ∃ x, jf_X2_addAll_L2 (k + 1) q h (ku_b p n) (l : Int) τ = jf_X2_addAll_L2 k q h (ku_b p n) ((l + 1 : Nat) : Int) x ∧ _
    rw [jf_X2_addAll_L2, if_neg (by omega), hb]
    by_cases c : (decide (l < n) && p l) = true
    · have c' : l < n ∧ p l = true := by simpa using c
      rw [if_pos c'.1] at hI
      obtain ⟨υ, u1, u2, u3⟩ := kc_add (l := (l : Int)) hq hI (ks_log_24 hk l) hh ⟨by omega, by omega⟩
      have e : ks_log false a h p (l + 1) = ks_push (ks_log false a h p l) h ((l : Nat) : Int) := by rw [ks_log, if_pos ⟨c'.2, rfl⟩]
      rw [if_pos c, if_pos rfl, u1, jp_bd, jf_X2_addAll_B23, ea]
      refine ⟨υ, rfl, hf.tr u2, ?_⟩
      by_cases d : l + 1 < n
      · rw [if_pos d, e]; exact u3
      · rw [if_neg d, show n = l + 1 by omega, e]; exact u3
    · rw [if_neg c, if_neg (by decide), jf_X2_addAll_B23, ea]
      refine ⟨τ, rfl, hf, ?_⟩
      by_cases d : l < n
      · have np : ¬ p l = true := fun z => c (by simp [d, z])
        have e : ks_log false a h p (l + 1) = ks_log false a h p l := by rw [ks_log, if_neg (fun q => np q.1)]
        rw [if_pos d] at hI
        by_cases d2 : l + 1 < n
        · rw [if_pos d2, e]; exact hI
        · rw [if_neg d2, show n = l + 1 by omega, e]; exact hI
      · rw [if_neg d] at hI
        rw [if_neg (by omega)]; exact hI
  · show jE (jf_X2_addAll_L2 (k + 1) q h (ku_b p n) ((8 : Nat) : Int) τ) _ _ _ _
    rw [jf_X2_addAll_L2, if_pos (by decide)]
    obtain ⟨hf, hI⟩ := hI
    rw [if_neg (by omega)] at hI
    exact ⟨τ, rfl, hf, hI⟩
  · by_cases d : 0 < n
    · rw [if_pos d]; exact hG
    · rw [if_neg d, show n = 0 by omega]; exact hG
theorem ks_hourL_N {Z : jz_Z} {Ds : Nat → List Int} {a : Nat → Int} (hZ : kz_V Z) (h : kz_N Z Ds a) (h9 : a 0 < 999) : kz_N Z Ds (ks_hourL false Z Ds a) ∧ ks_hourL false Z Ds a 0 = a 0 + 1 := by
  have h0 := h.1.1
  have v := ks_hour_V (Ds := Ds) hZ h.1 (by omega)
  have e0 : ks_hour Z Ds a 0 = a 0 + 1 := (ks_hrs_V (Ds := Ds) hZ h.1 1 (by omega)).2.1
  have m0 : ks_hourL false Z Ds a 0 = a 0 + 1 := by rw [ks_hourL, ks_mixL (by decide), e0]
  have l24 := ks_log_24 (th := false) (h := a 0) (p := ks_gone Z Ds a) h.2.2.2 (ks_nl Z)
  refine ⟨⟨v.cg hZ (fun j hj => (ks_mixL hj).symm), h.2.1, by rw [m0]; omega, ?_⟩, m0⟩
  rw [ks_hourL, ks_mixH (by decide)]; exact l24
theorem kc_FPX {s τ : jl_Mm} (f : jp_fr (kc_FP 40) s τ) : jp_fr kc_FX s τ := f.ws (by intro c i h; simp [jp_in, kc_FP, kc_FX] at h ⊢; omega)
theorem kIc.N {Z : jz_Z} {Ds : Nat → List Int} {a : Nat → Int} {d : kD} {nx n : Nat} {s : jl_Mm} (h : kIc Z Ds a d nx n s) : kz_V Z := h.nA.choose_spec.1.1.1
theorem kc_passNow {Z : jz_Z} {Ds : Nat → List Int} {a : Nat → Int} {d : kD} {nx n : Nat} {s : jl_Mm} (h : kIc Z Ds a d nx n s) (hN : kz_N Z Ds a) (h9 : a 0 < 999) : jE (jf_X11_passNow s) (ku_n (ks_gone Z Ds a) (ks_nl Z)) kc_FX s (kIc Z Ds (ks_hourL false Z Ds a) d nx n) := by
  obtain ⟨H, ⟨hW, hK, hA⟩, hG⟩ := h.nA
  have h8 := hW.1.l
  have h0 := hN.1.1
  obtain ⟨s1, t1, f1, A1⟩ := kc_pass (q := 40) (Or.inl rfl) hW hN.1 hA hK hN.2.1
  have G1 : kc_G 44 a s1 := hG.fr f1 (fun c i _ _ => kc_FPn (by omega) (by omega) (by omega) (by omega))
  obtain ⟨s2, t2, f2, G2⟩ := kc_addAll (q := 44) (n := ks_nl Z) (h := a 0) (p := ks_gone Z Ds a) (by decide +kernel) G1 hN.2.2.2 ⟨by omega, by omega⟩ h8.2
  rw [jf_X11_passNow, hA.1, jp_let, t1, jp_bd, t2, jp_bd, kx_pop, jp_bd, ku_pop_n _ _ h8.2]
  have F : jp_fr kc_FX s s2 := (kc_FPX f1).tr (f2.ws (by intro c i h; simp [jp_in, kc_FX] at h ⊢; omega))
  have nl : ∀ {c i : Nat}, c < 44 → jp_in [(44, 2, 4), (44 + 1, 0, 0), (44 + 2, 0, 0)] c i = false := by intro c i h; simp [jp_in]; omega
  rw [ks_hour_lo h9] at A1
  refine ⟨s2, rfl, F, h.X F ?_ ?_⟩
  · exact (A1.fr f2 (nl (by decide)) (nl (by decide)) (fun c i _ _ => nl (by omega))).cg (fun j hj => by rw [ks_hourL, ks_mixL hj])
  · have l24 := ks_log_24 (th := false) (h := a 0) (p := ks_gone Z Ds a) hN.2.2.2 (ks_nl Z)
    exact G2.cg (fun j hj _ => by rw [ks_hourL, ks_mixH hj]) l24.2
theorem kr_hourNow {Z : jz_Z} {Ds : Nat → List Int} {a : Nat → Int} {d : kD} {nx n : Nat} {s : jl_Mm} (h : kIr Z Ds a d nx n s) (hN : kz_N Z Ds a) : jE (jf_X12_hourGoes s) 0 kr_FX s (fun τ => kIr Z Ds (ks_hourL false Z Ds a) d nx n τ ∧ (0 ≤ jl_g s 206 61 ∧ jl_g s 206 61 ≤ 100000 → jl_g τ 206 61 = jl_g s 206 61 + ku_n (ks_gone Z Ds a) (ks_nl Z))) := by
  obtain ⟨hW, hK, hA, h63, h54⟩ := h.1
  obtain ⟨τ, t1, t2, t3, t4⟩ := kr_hour (th := false) hW hN.1 hA hK hN.2.1 (by rw [h63]; rfl) hN.2.2.2
  have t2' : jp_fr kr_FX s τ := t2
  exact ⟨τ, t1, t2', h.X t2' t3, t4⟩
/-- hours, the log with them -/
def ks_hrsL (Z : jz_Z) (Ds : Nat → List Int) (a : Nat → Int) : Nat → Nat → Int
  | 0 => a
  | n + 1 => ks_hourL false Z Ds (ks_hrsL Z Ds a n)
def ks_hrsN (Z : jz_Z) (Ds : Nat → List Int) (a : Nat → Int) : Nat → Int
  | 0 => 0
  | n + 1 => ks_hrsN Z Ds a n + ku_n (ks_gone Z Ds (ks_hrsL Z Ds a n)) (ks_nl Z)
theorem ks_hrsL_N {Z : jz_Z} {Ds : Nat → List Int} {a : Nat → Int} (hZ : kz_V Z) (h : kz_N Z Ds a) : ∀ n : Nat, a 0 + (n : Int) ≤ 999 → kz_N Z Ds (ks_hrsL Z Ds a n) ∧ ks_hrsL Z Ds a n 0 = a 0 + (n : Int)
  | 0, _ => ⟨h, by rw [ks_hrsL]; omega⟩
  | n + 1, h9 => by
    obtain ⟨x, y⟩ := ks_hrsL_N hZ h n (by omega)
    obtain ⟨z, w⟩ := ks_hourL_N hZ x (by omega)
    exact ⟨z, by rw [ks_hrsL, w, y]; omega⟩
theorem ks_hrsN_b {Z : jz_Z} {Ds : Nat → List Int} {a : Nat → Int} (hZ : kz_V Z) : ∀ n : Nat, 0 ≤ ks_hrsN Z Ds a n ∧ ks_hrsN Z Ds a n ≤ 8 * (n : Int)
  | 0 => by rw [ks_hrsN]; omega
  | n + 1 => by
    have := ks_hrsN_b (Ds := Ds) (a := a) hZ n
    have := ku_n_ge (ks_gone Z Ds (ks_hrsL Z Ds a n)) (ks_nl Z)
    have := hZ.l
    rw [ks_hrsN]; omega
theorem kI_hours {v : Int} (hv : jl_n3 v) : kI_call (jf_X11_hours v) (jf_X12_hours v) := kI_act (fun Z Ds a d nx n hV => by
  have h0 := hV.1.1.1
  by_cases hZ : kz_V Z
  case neg => exact Or.inr ⟨1, a, hV.1, fun s hs => absurd hs.N hZ, fun s hs => absurd hs.1.1.1 hZ⟩
  by_cases c : 0 < ks_nw Z ∧ 1 ≤ v ∧ v ≤ 100 ∧ a 0 + v ≤ 999
  · right
    obtain ⟨m, rfl⟩ : ∃ m : Nat, v = (m : Int) := ⟨v.toNat, by omega⟩
    refine ⟨ks_hrsN Z Ds a m, ks_hrsL Z Ds a m, (ks_hrsL_N hZ hV.1 m (by omega)).1, fun s hs => ?_, fun s hs => ?_⟩
    · obtain ⟨H, ⟨hW, hK, hA⟩, hG⟩ := hs.nA
      have ec : (if 1 ≤ (m : Int) ∧ (m : Int) ≤ 100 ∧ a 0 + (m : Int) ≤ 999 then (1 : Int) else 0) = 1 := if_pos c.2
      refine ⟨fun _ s10 => jf_X11_hours_L46 jl_fu (m : Int) 0 0 s10, by rw [jf_X11_hours, kc_has hW, jp_bd, if_pos c.1, if_neg (by decide), kc_comes hA h0, jp_bd, ec, if_neg (by decide)], fun t ht => ?_⟩
      show jE (jf_X11_hours_L46 jl_fu (m : Int) 0 0 t) _ _ _ _
      refine ku_for (α := jl_Mm) (G := fun k l τ => jf_X11_hours_L46 k (m : Int) (ks_hrsN Z Ds a l) ((l : Nat) : Int) τ) (N := m) (P := fun o => jE o (ks_hrsN Z Ds a m) kc_FX t (fun τ => kc_A (ks_np Z) 40 (ks_hrsL Z Ds a m) τ ∧ kc_G 44 (ks_hrsL Z Ds a m) τ)) (I := fun l τ => jp_fr kc_FX t τ ∧ kIc Z Ds (ks_hrsL Z Ds a l) (kd_keep d nx a) ((nx + 1) % 20) (kn_1 n) τ) (fun k l τ hl hI => Or.inr ?_) (fun k τ hI => ?_) m 0 jl_fu t (Nat.zero_add _) (by show m < 4000; omega) ⟨jp_fr.rf, ht⟩
      · obtain ⟨hf, hI⟩ := hI
        obtain ⟨x, y⟩ := ks_hrsL_N hZ hV.1 l (by omega)
        obtain ⟨υ, u1, u2, u3⟩ := kc_passNow hI x (by omega)
        have b := ks_hrsN_b (Ds := Ds) (a := a) hZ l
        have b2 := ku_n_ge (ks_gone Z Ds (ks_hrsL Z Ds a l)) (ks_nl Z)
        have h8 := hZ.l
        refine ⟨υ, ?_, hf.tr u2, u3⟩
        show jf_X11_hours_L46 (k + 1) (m : Int) (ks_hrsN Z Ds a l) (l : Int) τ = jf_X11_hours_L46 k (m : Int) (ks_hrsN Z Ds a (l + 1)) ((l + 1 : Nat) : Int) υ
        rw [jf_X11_hours_L46, if_neg (by omega), u1, jp_bd, jp_let, jp_add (a := ks_hrsN Z Ds a l) (by omega) (by omega), jp_add (a := (l : Int)) (by omega) (by omega), ku_s]; rfl
      · show jE (jf_X11_hours_L46 (k + 1) (m : Int) (ks_hrsN Z Ds a m) (m : Int) τ) _ _ _ _
        obtain ⟨H', ⟨-, -, A'⟩, G'⟩ := hI.2.nA
        rw [jf_X11_hours_L46, if_pos (Int.le_refl _)]
        exact ⟨τ, rfl, hI.1, A', G'⟩
    · have hW := hs.1.1
      have hA := hs.1.2.2.1
      have h54 := hs.1.2.2.2.2
      have ec : (if 0 < ks_nw Z ∧ 1 ≤ (m : Int) ∧ (m : Int) ≤ 100 ∧ a 0 + (m : Int) ≤ 999 then (1 : Int) else 0) = 1 := if_pos c
      refine ⟨fun _ s5 => jl_bd (jf_X12_hoursGo (m : Int) s5) fun r6 s7 => some (jl_g s7 206 61, s7), by rw [jf_X12_hours, kr_ahead h54 hA ⟨h0.1, hV.1.2.2.1⟩ hv (by decide) (by decide), jp_bd, ec, if_neg (by decide)], fun t ht => ?_⟩
      show jE (jl_bd (jf_X12_hoursGo (m : Int) t) fun r6 s7 => some (jl_g s7 206 61, s7)) _ _ _ _
      have f1 : jp_fr kr_FX t (jl_up t 206 61 0) := jp_fr.rf.up (by decide)
      have I1 : kIr Z Ds a (kd_keep d nx a) ((nx + 1) % 20) (kn_1 n) (jl_up t 206 61 0) := ht.X f1 (ht.1.2.2.1.fr (F := [(206, 61, 62)]) (jp_fr.rf.up (by decide)) (fun i => by simp [jp_in]))
      have g1 : jl_g (jl_up t 206 61 0) 206 61 = 0 := jp_g_eq (by decide) (by decide)
      rw [jf_X12_hoursGo, jp_lm]
      have key : jE (jf_X12_hoursGo_L7 jl_fu (m : Int) 0 (jl_up t 206 61 0)) 0 kr_FX t (fun τ => kr_A (ks_hrsL Z Ds a m) τ ∧ jl_g τ 206 61 = ks_hrsN Z Ds a m) := by
        refine ku_for (α := jl_Mm) (G := fun k l τ => jf_X12_hoursGo_L7 k (m : Int) ((l : Nat) : Int) τ) (N := m) (P := fun o => jE o 0 kr_FX t (fun τ => kr_A (ks_hrsL Z Ds a m) τ ∧ jl_g τ 206 61 = ks_hrsN Z Ds a m)) (I := fun l τ => jp_fr kr_FX t τ ∧ kIr Z Ds (ks_hrsL Z Ds a l) (kd_keep d nx a) ((nx + 1) % 20) (kn_1 n) τ ∧ jl_g τ 206 61 = ks_hrsN Z Ds a l) (fun k l τ hl hI => Or.inr ?_) (fun k τ hI => ?_) m 0 jl_fu _ (Nat.zero_add _) (by show m < 4000; omega) ⟨f1, I1, g1⟩
        · obtain ⟨hf, hI, hg⟩ := hI
          obtain ⟨x, y⟩ := ks_hrsL_N hZ hV.1 l (by omega)
          obtain ⟨υ, u1, u2, u3, u4⟩ := kr_hourNow hI x
          have b := ks_hrsN_b (Ds := Ds) (a := a) hZ l
          refine ⟨υ, ?_, hf.tr u2, u3, ?_⟩
          · show jf_X12_hoursGo_L7 (k + 1) (m : Int) (l : Int) τ = jf_X12_hoursGo_L7 k (m : Int) ((l + 1 : Nat) : Int) υ
            rw [jf_X12_hoursGo_L7, if_neg (by omega), u1, jp_bd, jp_add (by omega) (by omega), ku_s]
          · rw [u4 (by omega), hg]; rfl
        · show jE (jf_X12_hoursGo_L7 (k + 1) (m : Int) (m : Int) τ) _ _ _ _
          rw [jf_X12_hoursGo_L7, if_pos (Int.le_refl _)]
          exact ⟨τ, rfl, hI.1, hI.2.1.1.2.2.1, hI.2.2⟩
      obtain ⟨τ, k1, k2, k3, k4⟩ := key
      rw [k1, jp_bd, k4]
      exact ⟨τ, rfl, k2, k3⟩
  · left
    refine ⟨-1, 3, by decide, fun s hs => ?_, fun s hs => ?_⟩
    · obtain ⟨H, ⟨hW, hK, hA⟩, hG⟩ := hs.nA
      have u : ∀ t, jf_X11_refuse 3 t = _ := fun t => kc_refuse (k := 3) (s := t) (by decide)
      have z : jf_X11_hours_B21 s = some (-1, jl_up s 205 3 (jl_add (jl_g s 205 3) 1)) := by rw [jf_X11_hours_B21, u, jp_bd]
      rw [jf_X11_hours, kc_has hW, jp_bd, z]
      by_cases c1 : 0 < ks_nw Z
      · have ec : (if 1 ≤ v ∧ v ≤ 100 ∧ a 0 + v ≤ 999 then (1 : Int) else 0) = 0 := if_neg (fun q => c ⟨c1, q⟩)
        rw [if_pos c1, if_neg (by decide), kc_comes hA h0, jp_bd, ec, if_pos rfl, z]
      · rw [if_neg c1, if_pos rfl]
    · have hA := hs.1.2.2.1
      have h54 := hs.1.2.2.2.2
      have u : ∀ t, jf_X12_refuses 3 t = _ := fun t => kr_refuses (k := 3) (s := t) (by decide)
      have ec : (if 0 < ks_nw Z ∧ 1 ≤ v ∧ v ≤ 100 ∧ a 0 + v ≤ 999 then (1 : Int) else 0) = 0 := if_neg c
      rw [jf_X12_hours, kr_ahead h54 hA ⟨h0.1, hV.1.2.2.1⟩ hv (by decide) (by decide), jp_bd, ec, if_pos rfl, u, jp_bd])
