/-! PURE, both: change -/
def ks_swap (a : Nat → Int) (p q : Nat) : Nat → Int := ks_u (ks_u a (2 + p) (a (2 + q))) (2 + q) (a (2 + p))
theorem ks_swap_V {Z : jz_Z} {a : Nat → Int} {p q : Nat} (hZ : kz_V Z) (h : ks_V Z a) (hp : p < ks_np Z) (hq : q < ks_np Z) : ks_V Z (ks_swap a p q) ∧ ks_swap a p q 0 = a 0 ∧ ∀ j, 24 ≤ j → ks_swap a p q j = a j := by
  have h6 := hZ.p
  have ha := h.2.2.1 p hp
  have hb := h.2.2.1 q hq
  obtain ⟨h0, h1, h2, h3⟩ := h
  refine ⟨⟨?_, ?_, fun r hr => ?_, fun k hk => ?_⟩, ?_, fun j hj => ?_⟩
  · rw [ks_swap, ks_un (by omega), ks_un (by omega)]; exact h0
  · rw [ks_swap, ks_un (by omega), ks_un (by omega)]; exact h1
  · rw [ks_swap]
    by_cases e : r = q
    · subst e; rw [ks_ue]; exact ha
    · rw [ks_un (by omega)]
      by_cases e2 : r = p
      · subst e2; rw [ks_ue]; exact hb
      · rw [ks_un (by omega)]; exact h2 r hr
  · rw [ks_swap, ks_un (by omega), ks_un (by omega), ks_un (by omega), ks_un (by omega)]; exact h3 k hk
  · rw [ks_swap, ks_un (by omega), ks_un (by omega)]
  · rw [ks_swap, ks_un (by omega), ks_un (by omega)]
def ks_ch (Z : jz_Z) (Ds : Nat → List Int) (a : Nat → Int) (n p q : Nat) (x : Int × Int × Int) : Int × Int × Int := if x.2.2 < ks_cnt Z Ds (ks_swap a p q) n then ((p : Int), (q : Int), ks_cnt Z Ds (ks_swap a p q) n) else x
def ks_ch2 (Z : jz_Z) (Ds : Nat → List Int) (a : Nat → Int) (n p : Nat) : Nat → Nat → Int × Int × Int → Int × Int × Int
  | 0, _, x => x
  | m + 1, q, x => ks_ch2 Z Ds a n p m (q + 1) (ks_ch Z Ds a n p q x)
def ks_ch1 (Z : jz_Z) (Ds : Nat → List Int) (a : Nat → Int) (n : Nat) : Nat → Nat → Int × Int × Int → Int × Int × Int
  | 0, _, x => x
  | m + 1, p, x => ks_ch1 Z Ds a n m (p + 1) (ks_ch2 Z Ds a n p (ks_np Z - (p + 1)) (p + 1) x)
def ks_chA (Z : jz_Z) (Ds : Nat → List Int) (a : Nat → Int) (n : Nat) : Int × Int × Int := ks_ch1 Z Ds a n (ks_np Z) 0 (-1, -1, ks_cnt Z Ds a n)
def kp_change (Z : jz_Z) (Ds : Nat → List Int) (a : Nat → Int) (n w : Int) : Int := if 0 < ks_nw Z ∧ (1 ≤ n ∧ n ≤ 40 ∧ a 0 + n ≤ 999) ∧ (0 ≤ w ∧ w ≤ 2) then (if w = 0 then (ks_chA Z Ds a n.toNat).1 else if w = 1 then (ks_chA Z Ds a n.toNat).2.1 else (ks_chA Z Ds a n.toNat).2.2) else -1
theorem ks_cnt_b {Z : jz_Z} {Ds : Nat → List Int} {a : Nat → Int} {n : Nat} (hZ : kz_V Z) : 0 ≤ ks_cnt Z Ds a n ∧ ks_cnt Z Ds a n ≤ 8 := by
  have h8 := hZ.l
  have hg := ku_n_ge (ks_bel Z Ds (ks_hrs Z Ds a n)) (ks_nl Z)
  rw [ks_cnt]; omega
def kc_y (τ : jl_Mm) : Int × Int × Int := (jl_g τ 195 5, jl_g τ 195 6, jl_g τ 195 7)
theorem kc_swap {P9 : Nat} {a : Nat → Int} {p q : Nat} {s : jl_Mm} (hA : kc_A P9 196 a s) (hp : p < 6 ∧ p < P9) (hq : q < 6 ∧ q < P9) : ∃ τ, jf_X7_swapHomes 196 (p : Int) (q : Int) s = some (0, τ) ∧ jp_fr kc_FA s τ ∧ kc_A P9 196 (ks_swap a p q) τ := by
  have ep : jl_g s (196 + 1) p = a (2 + p) := hA.2.2.1 p hp
  have eq : jl_g s (196 + 1) q = a (2 + q) := hA.2.2.1 q hq
  have np := ep ▸ jp_gn s (196 + 1) p
  have nq := eq ▸ jp_gn s (196 + 1) q
  rw [jf_X7_swapHomes, if_pos (kc_q7 (Or.inr rfl)), if_pos (by omega), Int.toNat_natCast, Int.toNat_natCast, ep, jp_let, if_pos (by omega), if_pos (by omega), eq, jp_lm, if_pos (by omega), jp_lm]
  exact ⟨_, rfl, (jp_fr.rf.up (by simp [jp_in, kc_FA])).up (by simp [jp_in, kc_FA]), (hA.uph hp.1 nq).uph hq.1 np⟩
theorem kc_change2 {H : Nat} {Z : jz_Z} {Ds : Nat → List Int} {a : Nat → Int} {n p : Nat} {s : jl_Mm} {R : Int → Int → Int → jl_Mm → jl_O} (hz : kz_N Z Ds a) (hN : kc_N H Z Ds a s) (hp : p < ks_np Z) (hn : a 0 + (n : Int) ≤ 999) : ∃ τ, jf_X1_searchChange_L50 R jl_fu (n : Int) ((ks_np Z : Nat) : Int) (p : Int) ((p + 1 : Nat) : Int) s = R (n : Int) ((ks_np Z : Nat) : Int) ((p + 1 : Nat) : Int) τ ∧ jp_fr kc_FB s τ ∧ kc_y τ = ks_ch2 Z Ds a n p (ks_np Z - (p + 1)) (p + 1) (kc_y s) := by
  have hl := hN.1.1.l
  have h6 := hN.1.1.p
  refine ku_for (α := jl_Mm) (G := fun m k τ => jf_X1_searchChange_L50 R m (n : Int) ((ks_np Z : Nat) : Int) (p : Int) ((k : Nat) : Int) τ) (N := ks_np Z) (P := fun o => ∃ τ, o = R (n : Int) ((ks_np Z : Nat) : Int) ((p + 1 : Nat) : Int) τ ∧ jp_fr kc_FB s τ ∧ kc_y τ = ks_ch2 Z Ds a n p (ks_np Z - (p + 1)) (p + 1) (kc_y s)) (I := fun k τ => jp_fr kc_FB s τ ∧ p < k ∧ ks_ch2 Z Ds a n p (ks_np Z - k) k (kc_y τ) = ks_ch2 Z Ds a n p (ks_np Z - (p + 1)) (p + 1) (kc_y s)) (fun m k τ hk hI => ?_) (fun m τ hI => ?_) (ks_np Z - (p + 1)) (p + 1) jl_fu s (by omega) (by show ks_np Z - (p + 1) < 4000; omega) ⟨jp_fr.rf, by omega, rfl⟩
  · obtain ⟨hf, hpk, e⟩ := hI
    have N := hN.frB hf
    obtain ⟨s3, r1, r2, r3⟩ := kc_restart N.2.2
    have N3 := N.frA r2
    obtain ⟨sV, s0, shi⟩ := ks_swap_V hN.1.1 hz.1 hp hk
    obtain ⟨s4, q1, q2, q3⟩ := kc_swap (p := p) (q := k) r3 (by omega) (by omega)
    have N4 := N3.frA q2
    obtain ⟨s5, b1, b2, -⟩ := kc_bb (n := n) N4.1 N4.2.1 hz.2.1 sV q3 (by rw [s0]; exact hn)
    have fA : jp_fr kc_FA τ s5 := (r2.tr q2).tr b2
    have f5 : jp_fr kc_FB s s5 := hf.tr (fA.w (by decide))
    have y5 : kc_y s5 = kc_y τ := by rw [kc_y, kc_y, fA.g _ _ (by decide), fA.g _ _ (by decide), fA.g _ _ (by decide)]
    have ecnt : ku_pop (ks_belB Z Ds (ks_hrs Z Ds (ks_swap a p k) n)) = ks_cnt Z Ds (ks_swap a p k) n := ku_pop_n _ _ hl.2
    have hcb := ks_cnt_b (Ds := Ds) (a := ks_swap a p k) (n := n) hN.1.1
    have em : ks_np Z - k = (ks_np Z - (k + 1)) + 1 := by omega
    have ek : jl_add (k : Int) 1 = ((k + 1 : Nat) : Int) := jp_add (by omega) (by omega)
    rw [em, ks_ch2] at e
    have g7 : jl_g s5 195 7 = (kc_y τ).2.2 := by rw [← y5]; rfl
    refine Or.inr ?_
    show ∃ x', jf_X1_searchChange_L50 R (m + 1) (n : Int) ((ks_np Z : Nat) : Int) (p : Int) ((k : Nat) : Int) τ = jf_X1_searchChange_L50 R m (n : Int) ((ks_np Z : Nat) : Int) (p : Int) ((k + 1 : Nat) : Int) x' ∧ _
    rw [jf_X1_searchChange_L50, if_neg (by omega), r1, jp_bd, if_pos kc_k196, q1, jp_bd, b1, jp_bd, kx_pop, jp_bd, ecnt, g7]
    by_cases u : (kc_y τ).2.2 < ks_cnt Z Ds (ks_swap a p k) n
    · rw [if_neg (by omega), jp_lm, jp_lm, jp_lm, jf_X1_searchChange_B107, ek]
      refine ⟨_, rfl, ((f5.up rfl).up rfl).up rfl, by omega, ?_⟩
      rw [← e, ks_ch, if_pos u]
      congr 1
      rw [kc_y, jp_g_nei (by decide), jp_g_nei (by decide), jp_g_eq (by omega) (by omega), jp_g_nei (by decide), jp_g_eq (by omega) (by omega), jp_g_eq (by omega) (by omega)]
    · rw [if_pos (by omega), jf_X1_searchChange_B107, ek]
      refine ⟨s5, rfl, f5, by omega, ?_⟩
      rw [← e, ks_ch, if_neg u, y5]
  · obtain ⟨hf, -, e⟩ := hI
    rw [Nat.sub_self, ks_ch2] at e
    refine ⟨τ, ?_, hf, e⟩
    show jf_X1_searchChange_L50 R (m + 1) (n : Int) ((ks_np Z : Nat) : Int) (p : Int) ((ks_np Z : Nat) : Int) τ = _
    rw [jf_X1_searchChange_L50, if_pos (Int.le_refl _), jp_add (by omega) (by omega)]
    rfl
theorem kc_change {H : Nat} {Z : jz_Z} {Ds : Nat → List Int} {a : Nat → Int} {s : jl_Mm} (hz : kz_N Z Ds a) (hN : kc_N H Z Ds a s) (n w : Int) : jE (jf_X11_change n w s) (kp_change Z Ds a n w) kc_FB s (fun _ => True) := by
  have hl := hN.1.1.l
  have h6 := hN.1.1.p
  have hV0 := hz.1.1
  rw [jf_X11_change, kp_change]
  by_cases c : 0 ≤ w ∧ w ≤ 2
  · rw [if_neg (show ¬ w < 0 by omega), if_neg (show ¬ 2 < w by omega), kc_has hN.1, jp_bd]
    by_cases d : 0 < ks_nw Z
    · rw [if_pos d, if_neg (by decide), kc_comes hN.2.2 hV0, jp_bd]
      by_cases f : 1 ≤ n ∧ n ≤ 40 ∧ a 0 + n ≤ 999
      · rw [if_pos f, if_neg (by decide), if_pos (show 0 < ks_nw Z ∧ (1 ≤ n ∧ n ≤ 40 ∧ a 0 + n ≤ 999) ∧ (0 ≤ w ∧ w ≤ 2) from ⟨d, f, c⟩)]
        obtain ⟨k, rfl⟩ : ∃ k : Nat, n = (k : Int) := ⟨n.toNat, by omega⟩
        obtain ⟨s1, r1, r2, r3⟩ := kc_restart hN.2.2
        have N1 := hN.frA r2
        have f2 : jp_fr [(195, 3, 8)] s1 (jl_up (jl_up s1 195 5 (-1)) 195 6 (-1)) := (jp_fr.rf.up rfl).up rfl
        have v5 : jl_g (jl_up (jl_up s1 195 5 (-1)) 195 6 (-1)) 195 5 = -1 := by rw [jp_g_nei (by decide), jp_g_eq (by decide) (by decide)]
        have v6 : jl_g (jl_up (jl_up s1 195 5 (-1)) 195 6 (-1)) 195 6 = -1 := jp_g_eq (by decide) (by decide)
        rw [Int.toNat_natCast, jf_X1_searchChange, r1, jp_bd, if_pos kc_k196, jp_lm, jp_lm]
        generalize jl_up (jl_up s1 195 5 (-1)) 195 6 (-1) = s2 at *
        have n2 : ∀ {c i : Nat}, c ≠ 195 → jp_in [(195, 3, 8)] c i = false := by intro c i hc; simp [jp_in]; omega
        have N2 := N1.frB (f2.w (by decide))
        obtain ⟨s3, b1, b2, -⟩ := kc_bb (n := k) N2.1 N2.2.1 hz.2.1 hz.1 (r3.fr f2 (n2 (by decide)) (n2 (by decide)) (fun c i _ _ => n2 (by omega))) f.2.2
        have ecnt : ku_pop (ks_belB Z Ds (ks_hrs Z Ds a k)) = ks_cnt Z Ds a k := ku_pop_n _ _ hl.2
        have hcb := ks_cnt_b (Ds := Ds) (a := a) (n := k) hN.1.1
        have f3 : jp_fr kc_FB s (jl_up s3 195 7 (ks_cnt Z Ds a k)) := (((r2.w (by decide)).tr (f2.w (by decide))).tr (b2.w (by decide))).up rfl
        have y3 : kc_y (jl_up s3 195 7 (ks_cnt Z Ds a k)) = (-1, -1, ks_cnt Z Ds a k) := by
          rw [kc_y, jp_g_nei (by decide), jp_g_nei (by decide), jp_g_eq (by omega) (by omega), b2.g _ _ (by decide), b2.g _ _ (by decide), v5, v6]
        rw [b1, jp_bd, kx_pop, jp_bd, ecnt, jp_lm]
        generalize jl_up s3 195 7 (ks_cnt Z Ds a k) = s4 at *
        have N4 := hN.frB f3
        rw [N4.1.g, N4.1.gr, N4.1.n2, jp_let]
        have key : jE (jf_X1_searchChange_L40 jl_fu (k : Int) ((ks_np Z : Nat) : Int) 0 s4) 0 kc_FB s4 (fun τ => kc_y τ = ks_chA Z Ds a k) := by
          refine ku_for (α := jl_Mm) (G := fun m i τ => jf_X1_searchChange_L40 m (k : Int) ((ks_np Z : Nat) : Int) ((i : Nat) : Int) τ) (N := ks_np Z) (P := fun o => jE o 0 kc_FB s4 (fun τ => kc_y τ = ks_chA Z Ds a k)) (I := fun i τ => jp_fr kc_FB s4 τ ∧ ks_ch1 Z Ds a k (ks_np Z - i) i (kc_y τ) = ks_chA Z Ds a k) (fun m i τ hi hI => ?_) (fun m τ hI => ?_) (ks_np Z) 0 jl_fu s4 (Nat.zero_add _) (by show ks_np Z < 4000; omega) ⟨jp_fr.rf, by rw [y3]; rfl⟩
          · obtain ⟨hf, e⟩ := hI
            have em : ks_np Z - i = (ks_np Z - (i + 1)) + 1 := by omega
            have ei : jl_add (i : Int) 1 = ((i + 1 : Nat) : Int) := jp_add (by omega) (by omega)
            obtain ⟨υ, u1, u2, u3⟩ := kc_change2 (R := jf_X1_searchChange_L40 m) hz (N4.frB hf) hi f.2.2
            rw [em, ks_ch1] at e
            refine Or.inr ⟨υ, ?_, hf.tr u2, by rw [u3]; exact e⟩
            show jf_X1_searchChange_L40 (m + 1) (k : Int) ((ks_np Z : Nat) : Int) ((i : Nat) : Int) τ = jf_X1_searchChange_L40 m (k : Int) ((ks_np Z : Nat) : Int) ((i + 1 : Nat) : Int) υ
            rw [jf_X1_searchChange_L40, if_neg (by omega), jp_let, ei, u1]
          · obtain ⟨hf, e⟩ := hI
            rw [Nat.sub_self, ks_ch1] at e
            show jE (jf_X1_searchChange_L40 (m + 1) (k : Int) ((ks_np Z : Nat) : Int) ((ks_np Z : Nat) : Int) τ) _ _ _ _
            rw [jf_X1_searchChange_L40, if_pos (Int.le_refl _)]
            exact ⟨τ, rfl, hf, e⟩
        obtain ⟨s9, k1, k2, k3⟩ := key
        have z1 : jl_g s9 195 5 = (ks_chA Z Ds a k).1 := by rw [← k3]; rfl
        have z2 : jl_g s9 195 6 = (ks_chA Z Ds a k).2.1 := by rw [← k3]; rfl
        have z3 : jl_g s9 195 7 = (ks_chA Z Ds a k).2.2 := by rw [← k3]; rfl
        rw [k1, jp_bd, z1, z2, z3]
        refine ⟨s9, ?_, f3.tr k2, trivial⟩
        by_cases y : w = 0
        · rw [if_pos y, if_pos y]
        · rw [if_neg y, if_neg y]
          by_cases y1 : w = 1
          · rw [if_pos y1, if_pos y1]
          · rw [if_neg y1, if_neg y1]
      · rw [if_neg f, if_pos rfl, if_neg (show ¬ (0 < ks_nw Z ∧ (1 ≤ n ∧ n ≤ 40 ∧ a 0 + n ≤ 999) ∧ (0 ≤ w ∧ w ≤ 2)) from fun q => f q.2.1)]
        exact jE.ret trivial
    · rw [if_neg d, if_pos rfl, if_neg (show ¬ (0 < ks_nw Z ∧ (1 ≤ n ∧ n ≤ 40 ∧ a 0 + n ≤ 999) ∧ (0 ≤ w ∧ w ≤ 2)) from fun q => d q.1)]
      exact jE.ret trivial
  · rw [if_neg (show ¬ (0 < ks_nw Z ∧ (1 ≤ n ∧ n ≤ 40 ∧ a 0 + n ≤ 999) ∧ (0 ≤ w ∧ w ≤ 2)) from fun q => c q.2.2)]
    by_cases y : w < 0
    · rw [if_pos y]; exact jE.ret trivial
    · rw [if_neg y, if_pos (show 2 < w by omega)]; exact jE.ret trivial
/-- the reference -/
theorem kr_change2 {Z : jz_Z} {Ds : Nat → List Int} {a : Nat → Int} {n p : Nat} {w : Int} {x : Int × Int × Int} {s : jl_Mm} {R : Int → Int → Int → Int → Int → Int → jl_Mm → jl_O} (hz : kz_N Z Ds a) (hT : kr_Th Z Ds a a s) (hp : p < ks_np Z) (hn : a 0 + (n : Int) ≤ 999) : ∃ τ, jf_X12_change_L70 R jl_fu (n : Int) w x.1 x.2.1 x.2.2 (p : Int) ((p + 1 : Nat) : Int) s = R (n : Int) w (ks_ch2 Z Ds a n p (ks_np Z - (p + 1)) (p + 1) x).1 (ks_ch2 Z Ds a n p (ks_np Z - (p + 1)) (p + 1) x).2.1 (ks_ch2 Z Ds a n p (ks_np Z - (p + 1)) (p + 1) x).2.2 ((p + 1 : Nat) : Int) τ ∧ jp_fr kr_FA s τ ∧ kr_Th Z Ds a a τ := by
  have hl := hT.1.1.l
  have h6 := hT.1.1.p
  refine ku_for (α := (Int × Int × Int) × jl_Mm) (G := fun m k y => jf_X12_change_L70 R m (n : Int) w y.1.1 y.1.2.1 y.1.2.2 (p : Int) ((k : Nat) : Int) y.2) (N := ks_np Z) (P := fun o => ∃ τ, o = R (n : Int) w (ks_ch2 Z Ds a n p (ks_np Z - (p + 1)) (p + 1) x).1 (ks_ch2 Z Ds a n p (ks_np Z - (p + 1)) (p + 1) x).2.1 (ks_ch2 Z Ds a n p (ks_np Z - (p + 1)) (p + 1) x).2.2 ((p + 1 : Nat) : Int) τ ∧ jp_fr kr_FA s τ ∧ kr_Th Z Ds a a τ) (I := fun k y => jp_fr kr_FA s y.2 ∧ kr_Th Z Ds a a y.2 ∧ p < k ∧ ks_ch2 Z Ds a n p (ks_np Z - k) k y.1 = ks_ch2 Z Ds a n p (ks_np Z - (p + 1)) (p + 1) x) (fun m k y hk hI => ?_) (fun m y hI => ?_) (ks_np Z - (p + 1)) (p + 1) jl_fu (x, s) (by omega) (by show ks_np Z - (p + 1) < 4000; omega) ⟨jp_fr.rf, hT, by omega, rfl⟩
  · obtain ⟨y, τ⟩ := y
    obtain ⟨hf, T, hpk, e⟩ := hI
    simp only at hf T e
    obtain ⟨sV, s0, shi⟩ := ks_swap_V hT.1.1 hz.1 hp hk
    have ek : jl_add (k : Int) 1 = ((k + 1 : Nat) : Int) := jp_add (by omega) (by omega)
    have e2k : jl_add 2 (k : Int) = ((2 + k : Nat) : Int) := by rw [jp_add (by omega) (by omega)]; omega
    have e2p : jl_add 2 (p : Int) = ((2 + p : Nat) : Int) := by rw [jp_add (by omega) (by omega)]; omega
    have nf : ∀ {c i : Nat}, c ≠ 249 → jp_in [(249, 0, 0)] c i = false := by intro c i h1; simp [jp_in]; omega
    have gk : jl_g τ 252 (2 + k) = a (2 + k) := T.2.2.2.1 _ (by omega)
    have gp : jl_g (jl_up τ 249 (2 + p) (a (2 + k))) 252 (2 + p) = a (2 + p) := by rw [jp_g_ne (by decide)]; exact T.2.2.2.1 _ (by omega)
    have f2 : jp_fr [(249, 0, 0)] τ (jl_up (jl_up τ 249 (2 + p) (a (2 + k))) 249 (2 + k) (a (2 + p))) := (jp_fr.rf.up rfl).up rfl
    have A2 : kr_A (ks_swap a p k) (jl_up (jl_up τ 249 (2 + p) (a (2 + k))) 249 (2 + k) (a (2 + p))) := (T.2.2.1.up (T.2.2.1.n (by omega))).up (T.2.2.1.n (by omega))
    rw [show ks_np Z - k = (ks_np Z - (k + 1)) + 1 by omega, ks_ch2] at e
    refine Or.inr ?_
    show ∃ x' : (Int × Int × Int) × jl_Mm, jf_X12_change_L70 R (m + 1) (n : Int) w y.1 y.2.1 y.2.2 (p : Int) ((k : Nat) : Int) τ = jf_X12_change_L70 R m (n : Int) w x'.1.1 x'.1.2.1 x'.1.2.2 (p : Int) ((k + 1 : Nat) : Int) x'.2 ∧ _
    rw [jf_X12_change_L70, T.1.np, jp_bd, if_neg (by omega), e2k, e2p, if_pos (by omega), if_pos (by omega), Int.toNat_natCast, Int.toNat_natCast, gk, jp_lm, if_pos (by omega), if_pos (by omega), gp, jp_lm]
    generalize jl_up (jl_up τ 249 (2 + p) (a (2 + k))) 249 (2 + k) (a (2 + p)) = s2 at *
    have T2 : kr_Th Z Ds a (ks_swap a p k) s2 := ⟨T.1.fr f2 (fun c i _ _ => nf (by omega)), T.2.1.fr f2 (fun c i _ _ => nf (by omega)), A2, fun i hi => (f2.g _ _ (nf (by decide))).trans (T.2.2.2.1 i hi), (f2.g _ _ (nf (by decide))).trans T.2.2.2.2⟩
    obtain ⟨s3, h1, h2, h3⟩ := kr_hoursT (n := n) T2 hz.2.1 sV (by rw [shi 24 (by decide)]; exact hz.2.2.2) (by rw [s0]; omega)
    obtain ⟨i1, i2, i3, -⟩ := ks_hrs_V (Ds := Ds) hT.1.1 sV n (by rw [s0]; omega)
    obtain ⟨s4, t1, t2, t3⟩ := kr_heldT h3 hz.2.1 i1
    obtain ⟨s5, n1, n2, n3⟩ := kr_anew t3 (fun j hj => by rw [i3 j hj, shi j hj])
    have f5 : jp_fr kr_FA s s5 := (((hf.tr (f2.w (by decide))).tr (h2.w (by decide))).tr (t2.w (by decide))).tr (n2.w (by decide))
    have ecn : ks_cnt Z Ds (ks_swap a p k) n = ku_n (ks_bel Z Ds (ks_hrs Z Ds (ks_swap a p k) n)) (ks_nl Z) := rfl
    rw [h1, jp_bd, t1, jp_bd, ks_belB, kr_bits _ hl.2, jp_bd, n1, jp_bd, ← ecn, jf_X12_change_B154, jf_X12_change_B154, ek]
    by_cases u : y.2.2 < ks_cnt Z Ds (ks_swap a p k) n
    · rw [ks_ch, if_pos u] at e
      rw [if_pos u]
      exact ⟨(((p : Int), (k : Int), ks_cnt Z Ds (ks_swap a p k) n), s5), rfl, f5, n3, by omega, e⟩
    · rw [ks_ch, if_neg u] at e
      rw [if_neg u]
      exact ⟨(y, s5), rfl, f5, n3, by omega, e⟩
  · obtain ⟨y, τ⟩ := y
    obtain ⟨hf, T, -, e⟩ := hI
    simp only at hf T e
    rw [Nat.sub_self, ks_ch2] at e
    refine ⟨τ, ?_, hf, T⟩
    show jf_X12_change_L70 R (m + 1) (n : Int) w y.1 y.2.1 y.2.2 (p : Int) ((ks_np Z : Nat) : Int) τ = _
    rw [jf_X12_change_L70, T.1.np, jp_bd, if_pos (Int.le_refl _), ← e, jp_add (by omega) (by omega)]
    rfl
theorem kr_change {Z : jz_Z} {Ds : Nat → List Int} {a : Nat → Int} {s : jl_Mm} (hz : kz_N Z Ds a) (hN : kr_N Z Ds a s) {n w : Int} (hn : jl_n3 n) (hw : jl_n3 w) : jE (jf_X12_change n w s) (kp_change Z Ds a n w) kr_FA s (kr_N Z Ds a) := by
  have hl := hN.1.1.l
  have h6 := hN.1.1.p
  have hV0 := hz.1.1
  rw [jf_X12_change, kr_ahead hN.2.2.2.2 hN.2.2.1 ⟨hV0.1, hz.2.2.1⟩ hn (by decide) (by decide), jp_bd, kp_change]
  by_cases f : 0 < ks_nw Z ∧ 1 ≤ n ∧ n ≤ 40 ∧ a 0 + n ≤ 999
  · rw [if_pos f, if_neg (by decide), jx12_isIn s (jl_n36 hw) ⟨by decide, by decide⟩ ⟨by decide, by decide⟩, jp_bd]
    by_cases c : 0 ≤ w ∧ w ≤ 2
    · rw [if_pos c, if_neg (by decide), if_pos (show 0 < ks_nw Z ∧ (1 ≤ n ∧ n ≤ 40 ∧ a 0 + n ≤ 999) ∧ (0 ≤ w ∧ w ≤ 2) from ⟨f.1, f.2, c⟩)]
      obtain ⟨k, rfl⟩ : ∃ k : Nat, n = (k : Int) := ⟨n.toNat, by omega⟩
      obtain ⟨s1, p1, p2, p3⟩ := kr_aside hN.1 hN.2.1 hN.2.2.1
      obtain ⟨s3, h1, h2, h3⟩ := kr_hoursT (n := k) p3 hz.2.1 hz.1 hz.2.2.2 (by omega)
      obtain ⟨i1, i2, i3, -⟩ := ks_hrs_V (Ds := Ds) hN.1.1 hz.1 k (by omega)
      obtain ⟨s4, t1, t2, t3⟩ := kr_heldT h3 hz.2.1 i1
      obtain ⟨s5, n1, n2, n3⟩ := kr_anew t3 i3
      have f5 : jp_fr kr_FA s s5 := ((p2.tr (h2.w (by decide))).tr (t2.w (by decide))).tr (n2.w (by decide))
      have ecn : ks_cnt Z Ds a k = ku_n (ks_bel Z Ds (ks_hrs Z Ds a k)) (ks_nl Z) := rfl
      rw [p1, jp_bd, h1, jp_bd, t1, jp_bd, ks_belB, kr_bits _ hl.2, jp_bd, n1, jp_bd, ← ecn, Int.toNat_natCast]
      refine ku_for (α := (Int × Int × Int) × jl_Mm) (G := fun m i y => jf_X12_change_L55 m (k : Int) w y.1.1 y.1.2.1 y.1.2.2 ((i : Nat) : Int) y.2) (N := ks_np Z) (P := fun o => jE o (if w = 0 then (ks_chA Z Ds a k).1 else if w = 1 then (ks_chA Z Ds a k).2.1 else (ks_chA Z Ds a k).2.2) kr_FA s (kr_N Z Ds a)) (I := fun i y => jp_fr kr_FA s y.2 ∧ kr_Th Z Ds a a y.2 ∧ ks_ch1 Z Ds a k (ks_np Z - i) i y.1 = ks_chA Z Ds a k) (fun m i y hi hI => ?_) (fun m y hI => ?_) (ks_np Z) 0 jl_fu ((-1, -1, ks_cnt Z Ds a k), s5) (Nat.zero_add _) (by show ks_np Z < 4000; omega) ⟨f5, n3, rfl⟩
      · obtain ⟨y, τ⟩ := y
        obtain ⟨hf, T, e⟩ := hI
        simp only at hf T e
        have ei : jl_add (i : Int) 1 = ((i + 1 : Nat) : Int) := jp_add (by omega) (by omega)
        obtain ⟨υ, u1, u2, u3⟩ := kr_change2 (w := w) (x := y) (R := jf_X12_change_L55 m) hz T hi f.2.2.2
        rw [show ks_np Z - i = (ks_np Z - (i + 1)) + 1 by omega, ks_ch1] at e
        refine Or.inr ⟨(ks_ch2 Z Ds a k i (ks_np Z - (i + 1)) (i + 1) y, υ), ?_, hf.tr u2, u3, e⟩
        show jf_X12_change_L55 (m + 1) (k : Int) w y.1 y.2.1 y.2.2 ((i : Nat) : Int) τ = jf_X12_change_L55 m (k : Int) w _ _ _ ((i + 1 : Nat) : Int) υ
        rw [jf_X12_change_L55, T.1.np, jp_bd, if_neg (by omega), jp_let, ei, u1]
      · obtain ⟨y, τ⟩ := y
        obtain ⟨hf, T, e⟩ := hI
        simp only at hf T e
        rw [Nat.sub_self, ks_ch1] at e
        obtain ⟨s9, b1, b2, b3⟩ := kr_end hN hf T (fun _ _ => rfl)
        show jE (jf_X12_change_L55 (m + 1) (k : Int) w y.1 y.2.1 y.2.2 ((ks_np Z : Nat) : Int) τ) _ _ _ _
        rw [jf_X12_change_L55, T.1.np, jp_bd, if_pos (Int.le_refl _), b1, jp_bd, e]
        refine ⟨s9, ?_, b2, b3⟩
        by_cases y0 : w = 0
        · rw [if_pos y0, if_pos y0]; rfl
        · rw [if_neg y0, if_neg y0]
          by_cases y1 : w = 1
          · rw [if_pos y1, if_pos y1]; rfl
          · rw [if_neg y1, if_neg y1]; rfl
    · rw [if_neg c, if_pos rfl, if_neg (show ¬ (0 < ks_nw Z ∧ (1 ≤ n ∧ n ≤ 40 ∧ a 0 + n ≤ 999) ∧ (0 ≤ w ∧ w ≤ 2)) from fun q => c q.2.2)]
      exact jE.ret hN
  · rw [if_neg f, if_pos rfl, if_neg (show ¬ (0 < ks_nw Z ∧ (1 ≤ n ∧ n ≤ 40 ∧ a 0 + n ≤ 999) ∧ (0 ≤ w ∧ w ≤ 2)) from fun q => f ⟨q.1, q.2.1⟩)]
    exact jE.ret hN
