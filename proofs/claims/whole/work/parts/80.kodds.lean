/-! PURE, the reference: odds -/
theorem kr_blowT {Z : jz_Z} {Ds : Nat → List Int} {a b : Nat → Int} {s : jl_Mm} (h : kr_Th Z Ds a b s) (hk : 0 ≤ b 24 ∧ b 24 ≤ 40) (w : Int) : jE (jf_X12_blows w s) 0 kr_FO s (kr_Th Z Ds a (ks_blow Z b w)) := by
  obtain ⟨hW, hK, hB, h252, h63⟩ := h
  obtain ⟨τ, t1, t2, t3⟩ := kr_blows (th := true) hW hB h63 hk w
  rw [ks_blowL_t hW.1] at t3
  have nf : ∀ {c i : Nat}, c ≠ 249 → (c = 206 → i ≠ 61) → jp_in kr_FO c i = false := by intro c i h1 h2; simp [jp_in, kr_FO]; omega
  exact ⟨τ, t1, t2, hW.fr t2 (fun c i _ _ => nf (by omega) (by omega)), hK.fr t2 (fun c i _ _ => nf (by omega) (by omega)), t3, fun i hi => (t2.g _ _ (nf (by omega) (by omega))).trans (h252 i hi), (t2.g _ _ (nf (by omega) (by omega))).trans h63⟩
theorem kr_odds {Z : jz_Z} {Ds : Nat → List Int} {a : Nat → Int} {s : jl_Mm} (hz : kz_N Z Ds a) (hN : kr_N Z Ds a s) {v : Int} (hv : jl_n3 v) : jE (jf_X12_odds v s) (kp_odds Z Ds a v) kr_FA s (kr_N Z Ds a) := by
  have hl := hN.1.1.l
  have hw := hN.1.1.w
  have hg := hN.1.1.2.2.2.2.2.1
  have hV0 := hz.1.1
  have h999 := hz.2.2.1
  have hA1 := kr_ahead (v := 1) (lo := 1) (hi := 1) hN.2.2.2.2 hN.2.2.1 ⟨hV0.1, hz.2.2.1⟩ ⟨by decide, by decide⟩ (by decide) (by decide)
  have eA : (if 0 < ks_nw Z ∧ (1 : Int) ≤ 1 ∧ (1 : Int) ≤ 1 ∧ a 0 + 1 ≤ 999 then (1 : Int) else 0) = if 0 < ks_nw Z ∧ a 0 < 999 then 1 else 0 := by
    by_cases c : 0 < ks_nw Z ∧ a 0 < 999
    · rw [if_pos c, if_pos (by omega)]
    · rw [if_neg c, if_neg (by omega)]
  rw [eA] at hA1
  rw [jf_X12_odds, kp_odds]
  have B14 : (v = -1 ∨ (0 ≤ v ∧ v < ((ks_nl Z : Nat) : Int))) → jE (jf_X12_odds_B14 v s) (if 0 < ks_nw Z ∧ a 0 < 999 ∧ (v = -1 ∨ (0 ≤ v ∧ v < ((ks_nl Z : Nat) : Int))) then (if v = -1 then 100 * ((ks_nw Z : Nat) : Int) else ks_odd Z Ds a v.toNat (ks_nw Z)) else -1) kr_FA s (kr_N Z Ds a) := by
    intro hv2
    rw [jf_X12_odds_B14, hA1, jp_bd]
    by_cases c : 0 < ks_nw Z ∧ a 0 < 999
    · rw [if_pos c, if_neg (by decide), if_pos (show 0 < ks_nw Z ∧ a 0 < 999 ∧ (v = -1 ∨ (0 ≤ v ∧ v < ((ks_nl Z : Nat) : Int))) from ⟨c.1, c.2, hv2⟩)]
      by_cases e : v = -1
      · rw [if_pos e, if_pos e, hN.1.nw, jp_bd, jp_mul (by omega) (by omega)]
        exact jE.ret hN
      · rw [if_neg e, if_neg e]
        obtain ⟨l, rfl⟩ : ∃ l : Nat, v = (l : Int) := ⟨v.toNat, by omega⟩
        rw [Int.toNat_natCast]
        have hll : l < ks_nl Z := by omega
        obtain ⟨s1, p1, p2, p3⟩ := kr_aside hN.1 hN.2.1 hN.2.2.1
        rw [p1, jp_bd]
        -- one hour behind b, and back
        have gust : ∀ τ, kr_W Z τ → jl_g τ 241 11 = Z.1 6 := fun τ hW => hW.2.1 5 (by decide)
        have one : ∀ (b : Nat → Int) (m : Nat) (sum j : Int) (τ : jl_Mm), jp_fr kr_FA s τ → kr_Th Z Ds a b τ → ks_V Z b → b 0 < 999 → (∀ j, 24 ≤ j → b j = a j) → (-1 ≤ j ∧ j ≤ 30) → (0 ≤ sum ∧ sum ≤ 10000) → ∃ τ', jf_X12_odds_B65 (jf_X12_odds_L47 m) (l : Int) sum j τ = jf_X12_odds_L47 m (l : Int) (sum + (if j = -1 then (100 - Z.1 6) * ((ks_nw Z : Nat) : Int) else Z.1 6) * ks_one Z Ds b l) (j + 1) τ' ∧ jp_fr kr_FA s τ' ∧ kr_Th Z Ds a a τ' := by
          intro b m sum j τ hf hT hV hb0 hbh hj hs
          have h1 : 0 ≤ (100 - Z.1 6) * ((ks_nw Z : Nat) : Int) := Int.mul_nonneg (by omega) (by omega)
          have h2 : (100 - Z.1 6) * ((ks_nw Z : Nat) : Int) ≤ 100 * 30 := Int.mul_le_mul (by omega) (by omega) (by omega) (by decide)
          obtain ⟨t1, q1, q2, q3⟩ := kr_hourT hT hz.2.1 hV (by rw [hbh 24 (by decide)]; exact hz.2.2.2)
          have q3 : kr_Th Z Ds a (ks_hrs Z Ds b 1) t1 := q3
          have hVb := hV.1
          obtain ⟨i1, i2, i3, -⟩ := ks_hrs_V (Ds := Ds) hN.1.1 hV 1 (by omega)
          obtain ⟨t2, r1, r2, r3⟩ := kr_isHeldT (l := l) q3 hz.2.1 i1 hll
          obtain ⟨t3, n1, n2, n3⟩ := kr_anew r3 (fun j hj => by rw [i3 j hj, hbh j hj])
          have f3 : jp_fr kr_FA s t3 := ((hf.tr (q2.w (by decide))).tr (r2.w (by decide))).tr (n2.w (by decide))
          have ej : jl_add j 1 = j + 1 := jp_add (by omega) (by omega)
          have eone : (if ks_bel Z Ds (ks_hrs Z Ds b 1) l = true then (1 : Int) else 0) = ks_one Z Ds b l := rfl
          refine ⟨t3, ?_, f3, n3⟩
          rw [jf_X12_odds_B65, q1, jp_bd, r1, jp_bd, eone]
          rcases ks_one_b (Z := Z) (Ds := Ds) (a := b) (l := l) with h | h
          · rw [h, if_pos rfl, jf_X12_odds_B110, n1, jp_bd, ej, Int.mul_zero, Int.add_zero]
          · have m1 : jl_mul (jl_sub 100 (Z.1 6)) ((ks_nw Z : Nat) : Int) = (100 - Z.1 6) * ((ks_nw Z : Nat) : Int) := by rw [jp_sub (by omega) (by omega)]; exact jp_mul (by omega) (by omega)
            rw [h, if_neg (by decide), Int.mul_one, show ((11 : Int) : Int).toNat = 11 from rfl, gust t2 r3.1]
            by_cases y : j = -1
            · rw [if_pos y, if_pos y, r3.1.nw, jp_bd, m1, jf_X12_odds_B108, jp_let, jf_X12_odds_B110, n1, jp_bd, ej, jp_add (by omega) (by omega)]
            · rw [if_neg y, if_neg y, jf_X12_odds_B108, jp_let, jf_X12_odds_B110, n1, jp_bd, ej, jp_add (by omega) (by omega)]
        obtain ⟨s2, o1, o2, o3⟩ := one a 3999 0 (-1) s1 p2 p3 hz.1 c.2 (fun _ _ => rfl) (by decide) (by decide)
        have start : jf_X12_odds_L47 jl_fu (l : Int) 0 (-1) s1 = jf_X12_odds_L47 3999 (l : Int) (ks_odd Z Ds a l 0) 0 s2 := by
          have e0 : (0 : Int) + (if (-1 : Int) = -1 then (100 - Z.1 6) * ((ks_nw Z : Nat) : Int) else Z.1 6) * ks_one Z Ds a l = ks_odd Z Ds a l 0 := by rw [if_pos rfl, Int.zero_add, ks_odd]
          rw [e0] at o1
          show jf_X12_odds_L47 (3999 + 1) (l : Int) 0 (-1) s1 = _
          rw [jf_X12_odds_L47, p3.1.nw, jp_bd, if_neg (by omega), if_pos rfl]
          exact o1
        rw [start]
        refine ku_for (α := jl_Mm) (G := fun m k τ => jf_X12_odds_L47 m (l : Int) (ks_odd Z Ds a l k) ((k : Nat) : Int) τ) (N := ks_nw Z) (P := fun o => jE o (ks_odd Z Ds a l (ks_nw Z)) kr_FA s (kr_N Z Ds a)) (I := fun k τ => jp_fr kr_FA s τ ∧ kr_Th Z Ds a a τ) (fun m k τ hk hI => ?_) (fun m τ hI => ?_) (ks_nw Z) 0 3999 s2 (Nat.zero_add _) (by omega) ⟨o2, o3⟩
        · obtain ⟨hf, T⟩ := hI
          obtain ⟨t1, q1, q2, q3⟩ := kr_blowT T hz.2.2.2 ((k : Nat) : Int)
          have bV := ks_blow_V (w := ((k : Nat) : Int)) hN.1.1 hz.1 (ks_nl Z) (Nat.le_refl _)
          have b0 : ks_blow Z a ((k : Nat) : Int) 0 = a 0 := ks_blow_o _ hl.2 (by omega)
          have bh : ∀ j, 24 ≤ j → ks_blow Z a ((k : Nat) : Int) j = a j := fun j hj => ks_blow_o _ hl.2 (by omega)
          have hbk := ks_odd_b (Ds := Ds) (a := a) (l := l) hN.1.1 k (by omega)
          obtain ⟨t2, u1, u2, u3⟩ := one (ks_blow Z a ((k : Nat) : Int)) m (ks_odd Z Ds a l k) ((k : Nat) : Int) t1 (hf.tr (q2.w (by decide))) q3 bV (by rw [b0]; exact c.2) bh (by omega) (by omega)
          rw [if_neg (show ¬ ((k : Nat) : Int) = -1 by omega)] at u1
          refine Or.inr ⟨t2, ?_, u2, u3⟩
          show jf_X12_odds_L47 (m + 1) (l : Int) (ks_odd Z Ds a l k) ((k : Nat) : Int) τ = jf_X12_odds_L47 m (l : Int) (ks_odd Z Ds a l k + Z.1 6 * ks_one Z Ds (ks_blow Z a ((k : Nat) : Int)) l) ((k + 1 : Nat) : Int) t2
          rw [jf_X12_odds_L47, T.1.nw, jp_bd, if_neg (by omega), if_neg (show ¬ ((k : Nat) : Int) = -1 by omega), q1, jp_bd]
          exact u1
        · obtain ⟨hf, T⟩ := hI
          obtain ⟨s3, b1, b2, b3⟩ := kr_end hN hf T (fun _ _ => rfl)
          show jE (jf_X12_odds_L47 (m + 1) (l : Int) (ks_odd Z Ds a l (ks_nw Z)) ((ks_nw Z : Nat) : Int) τ) _ _ _ _
          rw [jf_X12_odds_L47, T.1.nw, jp_bd, if_pos (Int.le_refl _), b1, jp_bd]
          exact ⟨s3, rfl, b2, b3⟩
    · rw [if_neg c, if_pos rfl, if_neg (show ¬ (0 < ks_nw Z ∧ a 0 < 999 ∧ (v = -1 ∨ (0 ≤ v ∧ v < ((ks_nl Z : Nat) : Int)))) from fun q => c ⟨q.1, q.2.1⟩)]
      exact jE.ret hN
  by_cases e : v = -1
  · rw [if_pos e]
    exact B14 (Or.inl e)
  · rw [if_neg e, hN.1.isL hv, jp_bd]
    by_cases f : 0 ≤ v ∧ v < ((ks_nl Z : Nat) : Int)
    · rw [if_pos f, if_neg (by decide)]
      exact B14 (Or.inr f)
    · rw [if_neg f, if_pos rfl, if_neg (show ¬ (0 < ks_nw Z ∧ a 0 < 999 ∧ (v = -1 ∨ (0 ≤ v ∧ v < ((ks_nl Z : Nat) : Int)))) from fun q => q.2.2.elim e f)]
      exact jE.ret hN
