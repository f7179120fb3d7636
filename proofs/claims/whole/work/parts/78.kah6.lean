/-! PURE, both: keystone -/
def kc_FB : jp_F := [(195, 3, 8), (196, 0, 0), (197, 0, 0), (198, 0, 0), (199, 0, 0), (191, 0, 0), (192, 0, 0), (193, 0, 0)]
theorem kc_FBn {c i : Nat} (h : c < 191 ∨ 199 < c) : jp_in kc_FB c i = false := by simp [jp_in, kc_FB]; omega
theorem kc_N.frB {H : Nat} {Z : jz_Z} {Ds : Nat → List Int} {a : Nat → Int} {s τ : jl_Mm} (h : kc_N H Z Ds a s) (f : jp_fr kc_FB s τ) : kc_N H Z Ds a τ := ⟨h.1.fr f (by decide) (by decide) (fun c i _ _ => kc_FBn (by omega)), h.2.1.fr h.1.2.1 f (fun c i _ _ => kc_FBn (by omega)), h.2.2.fr f (kc_FBn (by omega)) (kc_FBn (by omega)) (fun c i _ _ => kc_FBn (by omega))⟩
def ks_99 (v : Int) : Int := if 999 < v then 999 else v
def ks_snuff (a : Nat → Int) (l : Nat) : Nat → Int := ks_dark (ks_u a 1 (ks_99 (a 1 + a (8 + l)))) l
theorem ks_snuff_V {Z : jz_Z} {a : Nat → Int} {l : Nat} (hZ : kz_V Z) (h : ks_V Z a) (hl : l < ks_nl Z) : ks_V Z (ks_snuff a l) ∧ ks_snuff a l 0 = a 0 ∧ ∀ j, 24 ≤ j → ks_snuff a l j = a j := by
  have h8 := hZ.l
  have hc := h.2.2.2 l (by omega)
  have h1 := h.2.1
  refine ⟨(h.u1 (by rw [ks_99]; split <;> omega)).c hZ hl (by omega) (by omega) (fun _ => rfl), ?_, fun j hj => ?_⟩
  · rw [ks_snuff, ks_dark, ks_un (by omega), ks_un (by omega), ks_un (by omega)]
  · rw [ks_snuff, ks_dark, ks_un (by omega), ks_un (by omega), ks_un (by omega)]
def ks_cnt (Z : jz_Z) (Ds : Nat → List Int) (a : Nat → Int) (n : Nat) : Int := ku_n (ks_bel Z Ds (ks_hrs Z Ds a n)) (ks_nl Z)
theorem kc_quench {P9 : Nat} {q l : Nat} {a : Nat → Int} {s : jl_Mm} (hq : kc_q q) (hA : kc_A P9 q a s) (hl : l < 8) (hc : 0 ≤ a (8 + l) ∧ a (8 + l) ≤ 99) (h1 : 0 ≤ a 1 ∧ a 1 ≤ 999) : ∃ τ, jf_X7_quench q (l : Int) s = some (a (8 + l), τ) ∧ jp_fr (kc_FQ q) s τ ∧ kc_A P9 q (ks_snuff a l) τ := by
  have e1 : (if a 1 + a (8 + l) < 999 then a 1 + a (8 + l) else 999) = ks_99 (a 1 + a (8 + l)) := by
    rw [ks_99]
    by_cases x : 999 < a 1 + a (8 + l)
    · rw [if_pos x, if_neg (by omega)]
    · rw [if_neg x]
      by_cases y : a 1 + a (8 + l) < 999
      · rw [if_pos y]
      · rw [if_neg y]; omega
  have A1 := hA.up1 (v := ks_99 (a 1 + a (8 + l))) (by rw [ks_99]; split <;> exact ⟨by omega, by omega⟩)
  obtain ⟨τ, t1, t2, t3⟩ := kc_out (l := l) hq A1 hl
  rw [jf_X7_quench, if_pos (kc_q7 hq), if_pos (by omega), Int.toNat_natCast, hA.2.2.2.1 l hl, jp_let, jf_X7_addTallow, if_pos (kc_q7 hq), hA.2.1, jp_add (by omega) (by omega), ku_min, jp_bd, e1, jp_lm, jp_bd, t1, jp_bd]
  exact ⟨τ, rfl, (jp_fr.rf.up (by simp [jp_in, kc_FQ])).tr t2, t3⟩
theorem kr_snuffs {Z : jz_Z} {a : Nat → Int} {l : Nat} {s : jl_Mm} (hA : kr_A a s) (hl : l < 8) (hc : 0 ≤ a (8 + l) ∧ a (8 + l) ≤ 99) (h1 : 0 ≤ a 1 ∧ a 1 ≤ 999) : ∃ τ, jf_X12_snuffs (l : Int) s = some (0, τ) ∧ jp_fr [(249, 0, 0)] s τ ∧ kr_A (ks_snuff a l) τ := by
  have e8 : jl_add 8 (l : Int) = ((8 + l : Nat) : Int) := by rw [jp_add (by omega) (by omega)]; omega
  have e16 : jl_add 16 (l : Int) = ((16 + l : Nat) : Int) := by rw [jp_add (by omega) (by omega)]; omega
  have e1 : (if a 1 + a (8 + l) < 0 then 0 else if 999 < a 1 + a (8 + l) then 999 else a 1 + a (8 + l)) = ks_99 (a 1 + a (8 + l)) := by
    rw [if_neg (by omega)]; rfl
  have A1 := hA.up (i := 1) (v := ks_99 (a 1 + a (8 + l))) (by rw [ks_99]; split <;> exact ⟨by omega, by omega⟩)
  rw [jf_X12_snuffs, e8, if_pos (by omega), Int.toNat_natCast, show ((1 : Int) : Int).toNat = 1 from rfl, hA 1 (by decide), hA _ (by omega), jp_add (by omega) (by omega), kr_clamp s ⟨by omega, by omega⟩ ⟨by decide, by decide⟩, jp_bd, e1, jp_lm, jf_X12_darkens, e8, if_pos (by omega), Int.toNat_natCast, jp_lm, e16, if_pos (by omega), Int.toNat_natCast, jp_lm, jp_bd]
  exact ⟨_, rfl, ((jp_fr.rf.up rfl).up (by simp [jp_in])).up (by simp [jp_in]), (A1.up jl_n3_0).up jl_n3_0⟩
def ks_key (Z : jz_Z) (Ds : Nat → List Int) (a : Nat → Int) (n : Nat) : Nat → Int × Int
  | 0 => (-1, 9)
  | k + 1 => if 0 < a (8 + k) ∧ ks_cnt Z Ds (ks_snuff a k) n < (ks_key Z Ds a n k).2 then ((k : Int), ks_cnt Z Ds (ks_snuff a k) n) else ks_key Z Ds a n k
def kp_keystone (Z : jz_Z) (Ds : Nat → List Int) (a : Nat → Int) (n w : Int) : Int := if (1 ≤ n ∧ n ≤ 40 ∧ a 0 + n ≤ 999) ∧ (0 ≤ w ∧ w ≤ 1) ∧ (ks_key Z Ds a n.toNat (ks_nl Z)).1 ≠ -1 then (if w = 0 then (ks_key Z Ds a n.toNat (ks_nl Z)).1 else (ks_key Z Ds a n.toNat (ks_nl Z)).2) else -1
theorem ks_key_b {Z : jz_Z} {Ds : Nat → List Int} {a : Nat → Int} {n : Nat} : ∀ k, ((ks_key Z Ds a n k).1 = -1 ∧ (ks_key Z Ds a n k).2 = 9 ∧ (ks_nl Z ≤ 8 → ∀ l, l < k → ¬ 0 < a (8 + l))) ∨ (0 ≤ (ks_key Z Ds a n k).1 ∧ ∃ l, l < k ∧ 0 < a (8 + l))
  | 0 => Or.inl ⟨rfl, rfl, fun _ l hl => absurd hl (Nat.not_lt_zero _)⟩
  | k + 1 => by
    have hg := ku_n_ge (ks_bel Z Ds (ks_hrs Z Ds (ks_snuff a k) n)) (ks_nl Z)
    have eg : ks_cnt Z Ds (ks_snuff a k) n = ku_n (ks_bel Z Ds (ks_hrs Z Ds (ks_snuff a k) n)) (ks_nl Z) := rfl
    rw [ks_key]
    split
    · rename_i h
      exact Or.inr ⟨Int.natCast_nonneg _, k, by omega, h.1⟩
    · rename_i h
      rcases ks_key_b (Z := Z) (Ds := Ds) (a := a) (n := n) k with ⟨h1, h2, h3⟩ | ⟨h1, l, h2, h3⟩
      · by_cases z : 0 < a (8 + k)
        · by_cases h9 : ks_nl Z ≤ 8
          · exact absurd ⟨z, by rw [h2]; omega⟩ h
          · exact Or.inl ⟨h1, h2, fun q => absurd q h9⟩
        · refine Or.inl ⟨h1, h2, fun q l hl => ?_⟩
          by_cases e : l = k
          · subst e; exact z
          · exact h3 q l (by omega)
      · exact Or.inr ⟨h1, l, by omega, h3⟩
theorem kc_keystone {H : Nat} {Z : jz_Z} {Ds : Nat → List Int} {a : Nat → Int} {s : jl_Mm} (hz : kz_N Z Ds a) (hN : kc_N H Z Ds a s) (n w : Int) : jE (jf_X11_keystone n w s) (kp_keystone Z Ds a n w) kc_FB s (fun _ => True) := by
  have hl := hN.1.1.l
  have hV0 := hz.1.1
  rw [jf_X11_keystone, kp_keystone]
  by_cases c : 0 ≤ w ∧ w ≤ 1
  · rw [if_neg (show ¬ w < 0 by omega), if_neg (show ¬ 1 < w by omega), kc_lits (Or.inl rfl) hN.1 hN.2.2, jp_bd]
    by_cases z : ku_b (ks_litP a) (ks_nl Z) = 0
    · have no : ∀ l, l < ks_nl Z → ¬ 0 < a (8 + l) := by
        intro l hl2 q
        have := ku_b_tb (ks_litP a) (b := l) (by omega) (ks_nl Z) (by omega)
        rw [z, jp_tb_0 (by omega), decide_eq_true hl2, ks_litP, decide_eq_true q] at this
        cases this
      have hk : (ks_key Z Ds a n.toNat (ks_nl Z)).1 = -1 := by
        rcases ks_key_b (Z := Z) (Ds := Ds) (a := a) (n := n.toNat) (ks_nl Z) with h | ⟨_, l, h2, h3⟩
        · exact h.1
        · exact absurd h3 (no l h2)
      rw [if_pos z, if_neg (fun q => q.2.2 hk)]
      exact jE.ret trivial
    · rw [if_neg z, kc_comes hN.2.2 hV0, jp_bd]
      by_cases f : 1 ≤ n ∧ n ≤ 40 ∧ a 0 + n ≤ 999
      · rw [if_pos f, if_neg (by decide)]
        have hk : (ks_key Z Ds a n.toNat (ks_nl Z)).1 ≠ -1 := by
          intro q
          rcases ks_key_b (Z := Z) (Ds := Ds) (a := a) (n := n.toNat) (ks_nl Z) with h | ⟨h, _⟩
          · apply z
            refine jp_ext (ku_b_n3 _ _) jl_n3_0 (fun b hb => ?_)
            rw [ku_b_tb _ hb _ (by omega), jp_tb_0 hb]
            by_cases y : b < ks_nl Z
            · rw [ks_litP, decide_eq_false (h.2.2 hl.2 b y), Bool.and_false]
            · rw [decide_eq_false y]; rfl
          · omega
        rw [if_pos (show (1 ≤ n ∧ n ≤ 40 ∧ a 0 + n ≤ 999) ∧ (0 ≤ w ∧ w ≤ 1) ∧ (ks_key Z Ds a n.toNat (ks_nl Z)).1 ≠ -1 from ⟨f, c, hk⟩)]
        obtain ⟨k, rfl⟩ : ∃ k : Nat, n = (k : Int) := ⟨n.toNat, by omega⟩
        rw [Int.toNat_natCast, jf_X1_searchKeystone, jp_lm, jp_lm]
        have f2 : jp_fr kc_FB s (jl_up (jl_up s 195 3 (-1)) 195 4 9) := (jp_fr.rf.up rfl).up rfl
        have v3 : jl_g (jl_up (jl_up s 195 3 (-1)) 195 4 9) 195 3 = -1 := by rw [jp_g_nei (by decide), jp_g_eq (by decide) (by decide)]
        have v4 : jl_g (jl_up (jl_up s 195 3 (-1)) 195 4 9) 195 4 = 9 := jp_g_eq (by decide) (by decide)
        generalize jl_up (jl_up s 195 3 (-1)) 195 4 9 = s2 at *
        have key : jE (jf_X1_searchKeystone_L13 jl_fu (k : Int) 0 s2) 0 kc_FB s2 (fun τ => jl_g τ 195 3 = (ks_key Z Ds a k (ks_nl Z)).1 ∧ jl_g τ 195 4 = (ks_key Z Ds a k (ks_nl Z)).2) := by
          refine ku_for (α := jl_Mm) (G := fun m i τ => jf_X1_searchKeystone_L13 m (k : Int) ((i : Nat) : Int) τ) (N := 8) (P := fun o => jE o 0 kc_FB s2 (fun τ => jl_g τ 195 3 = (ks_key Z Ds a k (ks_nl Z)).1 ∧ jl_g τ 195 4 = (ks_key Z Ds a k (ks_nl Z)).2)) (I := fun i τ => jp_fr kc_FB s2 τ ∧ jl_g τ 195 3 = (ks_key Z Ds a k (if i < ks_nl Z then i else ks_nl Z)).1 ∧ jl_g τ 195 4 = (ks_key Z Ds a k (if i < ks_nl Z then i else ks_nl Z)).2) (fun m i τ hi hI => ?_) (fun m τ hI => ?_) 8 0 jl_fu s2 rfl (by decide) ⟨jp_fr.rf, ?_⟩
          · obtain ⟨hf, g3, g4⟩ := hI
            have N := (hN.frB f2).frB hf
            have ei : jl_add (i : Int) 1 = ((i + 1 : Nat) : Int) := jp_add (by omega) (by omega)
            refine Or.inr ?_
            show ∃ x', jf_X1_searchKeystone_L13 (m + 1) (k : Int) ((i : Nat) : Int) τ = jf_X1_searchKeystone_L13 m (k : Int) ((i + 1 : Nat) : Int) x' ∧ _
            have ec : jl_g τ 42 i = a (8 + i) := N.2.2.2.2.2.1 i hi
            rw [jf_X1_searchKeystone_L13, if_neg (by omega), if_pos (by omega), Int.toNat_natCast, ec]
            by_cases y : i < ks_nl Z
            · rw [if_pos y] at g3 g4
              have e1 : (if i + 1 < ks_nl Z then i + 1 else ks_nl Z) = i + 1 := by split <;> omega
              rw [e1, ks_key]
              by_cases x : 0 < a (8 + i)
              · obtain ⟨s3, r1, r2, r3⟩ := kc_restart N.2.2
                have N3 := N.frA r2
                obtain ⟨sV, s0, shi⟩ := ks_snuff_V hN.1.1 hz.1 y
                have hc := hz.1.2.2.2 i (by omega)
                obtain ⟨s4, q1, q2, q3⟩ := kc_quench (l := i) (Or.inr rfl) r3 hi hc.1 hz.1.2.1
                have N4 := N3.frA (kc_FQ196 q2)
                obtain ⟨s5, b1, b2, -⟩ := kc_bb (n := k) N4.1 N4.2.1 hz.2.1 sV q3 (by rw [s0]; exact f.2.2)
                have fA : jp_fr kc_FA τ s5 := (r2.tr (kc_FQ196 q2)).tr b2
                have f5 : jp_fr kc_FB s2 s5 := hf.tr (fA.w (by decide))
                have g3' : jl_g s5 195 3 = _ := (fA.g _ _ (by decide)).trans g3
                have g4' : jl_g s5 195 4 = _ := (fA.g _ _ (by decide)).trans g4
                have hg := ku_n_ge (ks_bel Z Ds (ks_hrs Z Ds (ks_snuff a i) k)) (ks_nl Z)
                have ecnt : ku_pop (ks_belB Z Ds (ks_hrs Z Ds (ks_snuff a i) k)) = ks_cnt Z Ds (ks_snuff a i) k := ku_pop_n _ _ hl.2
                have hcb : 0 ≤ ks_cnt Z Ds (ks_snuff a i) k ∧ ks_cnt Z Ds (ks_snuff a i) k ≤ 8 := by rw [ks_cnt]; omega
                rw [if_neg (by omega), r1, jp_bd, if_pos kc_k196, show (196 : Int).toNat = 196 from rfl, q1, jp_bd, b1, jp_bd, kx_pop, jp_bd, ecnt, g4']
                by_cases u : ks_cnt Z Ds (ks_snuff a i) k < (ks_key Z Ds a k i).2
                · rw [if_neg (by omega), jp_lm, jp_lm, jf_X1_searchKeystone_B67, ei, if_pos ⟨x, u⟩]
                  refine ⟨_, rfl, (f5.up rfl).up rfl, ?_, ?_⟩
                  · rw [jp_g_nei (by decide), jp_g_eq (by omega) (by omega)]
                  · exact jp_g_eq (by omega) (by omega)
                · rw [if_pos (by omega), jf_X1_searchKeystone_B67, ei, if_neg (fun q => u q.2)]
                  exact ⟨s5, rfl, f5, g3', g4'⟩
              · rw [if_pos (by omega), jf_X1_searchKeystone_B67, ei, if_neg (fun q => x q.1)]
                exact ⟨τ, rfl, hf, g3, g4⟩
            · rw [if_neg y] at g3 g4
              have e1 : (if i + 1 < ks_nl Z then i + 1 else ks_nl Z) = ks_nl Z := by rw [if_neg (by omega)]
              have := (hz.1.2.2.2 i hi).2.2.2 (by omega)
              rw [e1, if_pos (by omega), jf_X1_searchKeystone_B67, ei]
              exact ⟨τ, rfl, hf, g3, g4⟩
          · obtain ⟨hf, g3, g4⟩ := hI
            have e1 : (if 8 < ks_nl Z then 8 else ks_nl Z) = ks_nl Z := by rw [if_neg (by omega)]
            rw [e1] at g3 g4
            show jE (jf_X1_searchKeystone_L13 (m + 1) (k : Int) ((8 : Nat) : Int) τ) _ _ _ _
            rw [jf_X1_searchKeystone_L13, if_pos (by decide)]
            exact ⟨τ, rfl, hf, g3, g4⟩
          · have e1 : (if 0 < ks_nl Z then 0 else ks_nl Z) = 0 := by split <;> omega
            rw [e1]
            exact ⟨v3, v4⟩
        obtain ⟨s9, k1, k2, k3, k4⟩ := key
        rw [k1, jp_bd]
        refine ⟨s9, ?_, f2.tr k2, trivial⟩
        by_cases y : w = 0
        · rw [if_pos y, if_pos y, k3]; rfl
        · rw [if_neg y, if_neg y, k4]; rfl
      · rw [if_neg f, if_pos rfl, if_neg (fun q => f q.1)]
        exact jE.ret trivial
  · rw [if_neg (show ¬ ((1 ≤ n ∧ n ≤ 40 ∧ a 0 + n ≤ 999) ∧ (0 ≤ w ∧ w ≤ 1) ∧ (ks_key Z Ds a n.toNat (ks_nl Z)).1 ≠ -1) from fun q => c q.2.1)]
    by_cases y : w < 0
    · rw [if_pos y]; exact jE.ret trivial
    · rw [if_neg y, if_pos (show 1 < w by omega)]; exact jE.ret trivial
theorem kr_keystone {Z : jz_Z} {Ds : Nat → List Int} {a : Nat → Int} {s : jl_Mm} (hz : kz_N Z Ds a) (hN : kr_N Z Ds a s) {n w : Int} (hn : jl_n3 n) (hw : jl_n3 w) : jE (jf_X12_keystone n w s) (kp_keystone Z Ds a n w) kr_FA s (kr_N Z Ds a) := by
  have hl := hN.1.1.l
  have hV0 := hz.1.1
  rw [jf_X12_keystone, kr_ahead hN.2.2.2.2 hN.2.2.1 ⟨hV0.1, hz.2.2.1⟩ hn (by decide) (by decide), jp_bd, kp_keystone]
  by_cases f : 0 < ks_nw Z ∧ 1 ≤ n ∧ n ≤ 40 ∧ a 0 + n ≤ 999
  · rw [if_pos f, if_neg (by decide), jx12_isIn s (jl_n36 hw) ⟨by decide, by decide⟩ ⟨by decide, by decide⟩, jp_bd]
    by_cases c : 0 ≤ w ∧ w ≤ 1
    · rw [if_pos c, if_neg (by decide)]
      obtain ⟨k, rfl⟩ : ∃ k : Nat, n = (k : Int) := ⟨n.toNat, by omega⟩
      obtain ⟨s1, p1, p2, p3⟩ := kr_aside hN.1 hN.2.1 hN.2.2.1
      rw [p1, jp_bd, Int.toNat_natCast]
      -- best, few
      refine ku_for (α := (Int × Int) × jl_Mm) (G := fun m i x => jf_X12_keystone_L35 m (k : Int) w x.1.1 x.1.2 ((i : Nat) : Int) x.2) (N := ks_nl Z) (P := fun o => jE o (if (1 ≤ (k : Int) ∧ (k : Int) ≤ 40 ∧ a 0 + (k : Int) ≤ 999) ∧ (0 ≤ w ∧ w ≤ 1) ∧ (ks_key Z Ds a k (ks_nl Z)).1 ≠ -1 then (if w = 0 then (ks_key Z Ds a k (ks_nl Z)).1 else (ks_key Z Ds a k (ks_nl Z)).2) else -1) kr_FA s (kr_N Z Ds a)) (I := fun i x => jp_fr kr_FA s x.2 ∧ kr_Th Z Ds a a x.2 ∧ x.1.1 = (ks_key Z Ds a k i).1 ∧ x.1.2 = (if (ks_key Z Ds a k i).1 = -1 then -1 else (ks_key Z Ds a k i).2)) (fun m i x hi hI => ?_) (fun m x hI => ?_) (ks_nl Z) 0 jl_fu ((-1, -1), s1) (Nat.zero_add _) (by show ks_nl Z < 4000; omega) ⟨p2, p3, rfl, rfl⟩
      · obtain ⟨⟨bx, fx⟩, τ⟩ := x
        obtain ⟨hf, T, g3, g4⟩ := hI
        simp only at hf T g3 g4
        have ei : jl_add (i : Int) 1 = ((i + 1 : Nat) : Int) := jp_add (by omega) (by omega)
        refine Or.inr ?_
        show ∃ x' : (Int × Int) × jl_Mm, jf_X12_keystone_L35 (m + 1) (k : Int) w bx fx ((i : Nat) : Int) τ = jf_X12_keystone_L35 m (k : Int) w x'.1.1 x'.1.2 ((i + 1 : Nat) : Int) x'.2 ∧ _
        rw [jf_X12_keystone_L35, T.1.nl, jp_bd, if_neg (by omega), T.2.2.1.lit (by omega), jp_bd, ks_key]
        by_cases x : 0 < a (8 + i)
        · obtain ⟨sV, s0, shi⟩ := ks_snuff_V hN.1.1 hz.1 hi
          have hc := hz.1.2.2.2 i (by omega)
          obtain ⟨s2, q1, q2, q3⟩ := kr_snuffs (Z := Z) (l := i) T.2.2.1 (by omega) hc.1 hz.1.2.1
          have nf : ∀ {c i : Nat}, c ≠ 249 → jp_in [(249, 0, 0)] c i = false := by intro c i h1; simp [jp_in]; omega
          have T2 : kr_Th Z Ds a (ks_snuff a i) s2 := ⟨T.1.fr q2 (fun c i _ _ => nf (by omega)), T.2.1.fr q2 (fun c i _ _ => nf (by omega)), q3, fun i hi => (q2.g _ _ (nf (by decide))).trans (T.2.2.2.1 i hi), (q2.g _ _ (nf (by decide))).trans T.2.2.2.2⟩
          obtain ⟨s3, h1, h2, h3⟩ := kr_hoursT (n := k) T2 hz.2.1 sV (by rw [shi 24 (by decide)]; exact hz.2.2.2) (by rw [s0]; omega)
          obtain ⟨i1, i2, i3, -⟩ := ks_hrs_V (Ds := Ds) hN.1.1 sV k (by rw [s0]; omega)
          obtain ⟨s4, t1, t2, t3⟩ := kr_heldT h3 hz.2.1 i1
          obtain ⟨s5, n1, n2, n3⟩ := kr_anew t3 (fun j hj => by rw [i3 j hj, shi j hj])
          have f5 : jp_fr kr_FA s s5 := (((hf.tr (q2.w (by decide))).tr (h2.w (by decide))).tr (t2.w (by decide))).tr (n2.w (by decide))
          have hkb := ks_key_b (Z := Z) (Ds := Ds) (a := a) (n := k) i
          have hcb := ku_n_ge (ks_bel Z Ds (ks_hrs Z Ds (ks_snuff a i) k)) (ks_nl Z)
          have ecn : ks_cnt Z Ds (ks_snuff a i) k = ku_n (ks_bel Z Ds (ks_hrs Z Ds (ks_snuff a i) k)) (ks_nl Z) := rfl
          rw [if_pos x, if_neg (by decide), q1, jp_bd, h1, jp_bd, t1, jp_bd, ks_belB, kr_bits _ hl.2, jp_bd, n1, jp_bd, ← ecn]
          have take : ((k : Nat) : Int) = k → (0 < a (8 + i) ∧ ks_cnt Z Ds (ks_snuff a i) k < (ks_key Z Ds a k i).2) → ∃ x' : (Int × Int) × jl_Mm, jf_X12_keystone_B95 (jf_X12_keystone_L35 m) (k : Int) w (i : Int) (ks_cnt Z Ds (ks_snuff a i) k) s5 = jf_X12_keystone_L35 m (k : Int) w x'.1.1 x'.1.2 ((i + 1 : Nat) : Int) x'.2 ∧ (jp_fr kr_FA s x'.2 ∧ kr_Th Z Ds a a x'.2 ∧ x'.1.1 = (if 0 < a (8 + i) ∧ ks_cnt Z Ds (ks_snuff a i) k < (ks_key Z Ds a k i).2 then (((i : Nat) : Int), ks_cnt Z Ds (ks_snuff a i) k) else ks_key Z Ds a k i).1 ∧ x'.1.2 = (if (if 0 < a (8 + i) ∧ ks_cnt Z Ds (ks_snuff a i) k < (ks_key Z Ds a k i).2 then (((i : Nat) : Int), ks_cnt Z Ds (ks_snuff a i) k) else ks_key Z Ds a k i).1 = -1 then -1 else (if 0 < a (8 + i) ∧ ks_cnt Z Ds (ks_snuff a i) k < (ks_key Z Ds a k i).2 then (((i : Nat) : Int), ks_cnt Z Ds (ks_snuff a i) k) else ks_key Z Ds a k i).2)) := by
            intro _ hh
            refine ⟨(((i : Int), ks_cnt Z Ds (ks_snuff a i) k), s5), ?_, f5, n3, ?_, ?_⟩
            · rw [jf_X12_keystone_B95, jf_X12_keystone_B102, ei]
            · rw [if_pos hh]
            · rw [if_pos hh, if_neg (show ¬ (i : Int) = -1 by omega)]
          rcases hkb with ⟨b1, b2, -⟩ | ⟨b1, -⟩
          · rw [if_pos (show bx = -1 by rw [g3, b1])]
            exact take rfl ⟨x, by rw [b2]; omega⟩
          · have b1n : ¬ (ks_key Z Ds a k i).1 = -1 := by omega
            rw [if_neg b1n] at g4
            rw [if_neg (show ¬ bx = -1 by rw [g3]; exact b1n), g4]
            by_cases u : ks_cnt Z Ds (ks_snuff a i) k < (ks_key Z Ds a k i).2
            · rw [if_pos u]
              exact take rfl ⟨x, u⟩
            · have hh : ¬ (0 < a (8 + i) ∧ ks_cnt Z Ds (ks_snuff a i) k < (ks_key Z Ds a k i).2) := fun q => u q.2
              rw [if_neg u, if_neg hh]
              refine ⟨((bx, (ks_key Z Ds a k i).2), s5), ?_, f5, n3, g3, ?_⟩
              · rw [jf_X12_keystone_B102, ei]
              · rw [if_neg b1n]
        · have hh : ¬ (0 < a (8 + i) ∧ ks_cnt Z Ds (ks_snuff a i) k < (ks_key Z Ds a k i).2) := fun q => x q.1
          rw [if_neg x, if_pos rfl, if_neg hh, jf_X12_keystone_B102, ei]
          exact ⟨((bx, fx), τ), rfl, hf, T, g3, g4⟩
      · obtain ⟨⟨bx, fx⟩, τ⟩ := x
        obtain ⟨hf, T, g3, g4⟩ := hI
        simp only at hf T g3 g4
        obtain ⟨s3, b1, b2, b3⟩ := kr_end hN hf T (fun _ _ => rfl)
        show jE (jf_X12_keystone_L35 (m + 1) (k : Int) w bx fx ((ks_nl Z : Nat) : Int) τ) _ _ _ _
        rw [jf_X12_keystone_L35, T.1.nl, jp_bd, if_pos (Int.le_refl _), b1, jp_bd]
        refine ⟨s3, ?_, b2, b3⟩
        by_cases y : (ks_key Z Ds a k (ks_nl Z)).1 = -1
        · have hh : ¬ ((1 ≤ (k : Int) ∧ (k : Int) ≤ 40 ∧ a 0 + (k : Int) ≤ 999) ∧ (0 ≤ w ∧ w ≤ 1) ∧ (ks_key Z Ds a k (ks_nl Z)).1 ≠ -1) := fun q => q.2.2 y
          rw [if_pos y] at g4
          rw [if_neg hh, g3, g4, y]
          have : ∀ u : Int, jf_X12_keystone_B122 u s3 = some (u, s3) := fun _ => rfl
          rw [this]
          split <;> rfl
        · have hh : (1 ≤ (k : Int) ∧ (k : Int) ≤ 40 ∧ a 0 + (k : Int) ≤ 999) ∧ (0 ≤ w ∧ w ≤ 1) ∧ (ks_key Z Ds a k (ks_nl Z)).1 ≠ -1 := ⟨f.2, c, y⟩
          rw [if_neg y] at g4
          rw [if_pos hh, g3, g4]
          by_cases y0 : w = 0
          · rw [if_pos y0, if_pos y0]; rfl
          · rw [if_neg y0, if_neg y0]; rfl
    · rw [if_neg c, if_pos rfl, if_neg (show ¬ ((1 ≤ n ∧ n ≤ 40 ∧ a 0 + n ≤ 999) ∧ (0 ≤ w ∧ w ≤ 1) ∧ (ks_key Z Ds a n.toNat (ks_nl Z)).1 ≠ -1) from fun q => c q.2.1)]
      exact jE.ret hN
  · have hh : ¬ ((1 ≤ n ∧ n ≤ 40 ∧ a 0 + n ≤ 999) ∧ (0 ≤ w ∧ w ≤ 1) ∧ (ks_key Z Ds a n.toNat (ks_nl Z)).1 ≠ -1) := by
      intro q
      apply f
      refine ⟨?_, q.1⟩
      rcases ks_key_b (Z := Z) (Ds := Ds) (a := a) (n := n.toNat) (ks_nl Z) with h | ⟨_, l, h2, _⟩
      · exact absurd h.1 q.2.2
      · exact kz_nw hN.1.1 hz.1 h2
    rw [if_neg f, if_pos rfl, if_neg hh]
    exact jE.ret hN
