/-! PURE, both: a gust; odds -/
def ks_hitP (Z : jz_Z) (a : Nat → Int) (w : Int) (l : Nat) : Bool := decide (0 < a (8 + l) ∧ a (2 + ks_ow Z l) = w)
def ks_blowR (Z : jz_Z) (a : Nat → Int) (w : Int) : Nat → Nat → Int
  | 0 => a
  | n + 1 => if ks_hitP Z a w n = true then ks_dark (ks_blowR Z a w n) n else ks_blowR Z a w n
def ks_blow (Z : jz_Z) (a : Nat → Int) (w : Int) : Nat → Int := ks_blowR Z a w (ks_nl Z)
theorem ks_blow_o {Z : jz_Z} {a : Nat → Int} {w : Int} {j : Nat} : ∀ n, n ≤ 8 → (j < 8 ∨ (8 + n ≤ j ∧ j < 16) ∨ 16 + n ≤ j) → ks_blowR Z a w n j = a j
  | 0, _, _ => rfl
  | n + 1, hn, h => by
    have ih := ks_blow_o (Z := Z) (a := a) (w := w) (j := j) n (by omega) (by omega)
    rw [ks_blowR]
    split
    · rw [ks_dark, ks_un (by omega), ks_un (by omega)]; exact ih
    · exact ih
theorem ks_blow_V {Z : jz_Z} {a : Nat → Int} {w : Int} (hZ : kz_V Z) (h : ks_V Z a) : ∀ n, n ≤ ks_nl Z → ks_V Z (ks_blowR Z a w n)
  | 0, _ => h
  | n + 1, hn => by
    have ih := ks_blow_V (w := w) hZ h n (by omega)
    rw [ks_blowR]
    split
    · exact ih.c hZ (by omega) (by omega) (by omega) (fun _ => rfl)
    · exact ih
theorem kc_blow {H q : Nat} {Z : jz_Z} {a : Nat → Int} {s : jl_Mm} (hq : kc_q q) (hW : kc_W H Z s) (hA : kc_A (ks_np Z) q a s) (w : Int) : jE (jf_X5_blow q w s) (ku_b (ks_hitP Z a w) (ks_nl Z)) (kc_FQ q) s (fun τ => kc_A (ks_np Z) q (ks_blow Z a w) τ) := by
  have hn := hW.1.l
  rw [jf_X5_blow, if_pos (kc_q7 hq)]
  refine ku_for (α := jl_Mm) (G := fun m k τ => jf_X5_blow_L5 m q w (ku_b (ks_hitP Z a w) k) ((k : Nat) : Int) τ) (N := ks_nl Z) (P := fun o => jE o (ku_b (ks_hitP Z a w) (ks_nl Z)) (kc_FQ q) s (fun τ => kc_A (ks_np Z) q (ks_blow Z a w) τ)) (I := fun k τ => jp_fr (kc_FQ q) s τ ∧ kc_A (ks_np Z) q (ks_blowR Z a w k) τ) (fun m k τ hk hI => ?_) (fun m τ hI => ?_) (ks_nl Z) 0 jl_fu s (Nat.zero_add _) (by show ks_nl Z < 4000; omega) ⟨jp_fr.rf, hA⟩
  · obtain ⟨hf, A⟩ := hI
    have W := hW.frQ hq hf
    have ok := hW.1.o hk
    have ek : jl_add (k : Int) 1 = ((k + 1 : Nat) : Int) := jp_add (by omega) (by omega)
    have e8 : ks_blowR Z a w k (8 + k) = a (8 + k) := ks_blow_o k (by omega) (by omega)
    have eh : ks_blowR Z a w k (2 + ks_ow Z k) = a (2 + ks_ow Z k) := ks_blow_o k (by omega) (by omega)
    refine Or.inr ?_
    show ∃ x', jf_X5_blow_L5 (m + 1) q w (ku_b (ks_hitP Z a w) k) ((k : Nat) : Int) τ = jf_X5_blow_L5 m q w (ku_b (ks_hitP Z a w) (k + 1)) ((k + 1 : Nat) : Int) x' ∧ jp_fr (kc_FQ q) s x' ∧ kc_A (ks_np Z) q (ks_blowR Z a w (k + 1)) x'
    rw [jf_X5_blow_L5, W.g, W.gr, W.n3, if_neg (by omega), if_pos (by omega), Int.toNat_natCast, A.2.2.2.1 k (by omega), e8, ks_blowR]
    by_cases z : 0 < a (8 + k)
    · rw [if_neg (by omega), W.gH, if_pos (by omega), W.o hk, if_pos (by omega), Int.toNat_natCast, A.2.2.1 _ ⟨ok.2.2, ok.2.1⟩, eh]
      by_cases y : a (2 + ks_ow Z k) = w
      · have hp : ks_hitP Z a w k = true := decide_eq_true ⟨z, y⟩
        obtain ⟨υ, u1, u2, u3⟩ := kc_out (l := k) hq A (by omega)
        rw [if_pos y, u1, jp_bd, jp_let, jf_X5_blow_B59, ek, ku_bT hp, if_pos hp]
        exact ⟨υ, rfl, hf.tr u2, u3⟩
      · have hp : ks_hitP Z a w k = false := decide_eq_false (fun q => y q.2)
        rw [if_neg y, jf_X5_blow_B59, ek, ku_bF hp, if_neg (by rw [hp]; decide)]
        exact ⟨τ, rfl, hf, A⟩
    · have hp : ks_hitP Z a w k = false := decide_eq_false (fun q => z q.1)
      rw [if_pos (by omega), jf_X5_blow_B59, ek, ku_bF hp, if_neg (by rw [hp]; decide)]
      exact ⟨τ, rfl, hf, A⟩
  · obtain ⟨hf, A⟩ := hI
    have W := hW.frQ hq hf
    show jE (jf_X5_blow_L5 (m + 1) q w (ku_b (ks_hitP Z a w) (ks_nl Z)) ((ks_nl Z : Nat) : Int) τ) _ _ _ _
    rw [jf_X5_blow_L5, W.g, W.gr, W.n3, if_pos (Int.le_refl _)]
    exact ⟨τ, rfl, hf, A⟩
def ks_blowL (th : Bool) (Z : jz_Z) (a : Nat → Int) (w : Int) : Nat → Int := ks_mix (ks_blow Z a w) (ks_log th a (a 0) (ks_hitP Z a w) (ks_nl Z))
theorem kr_blows {th : Bool} {Z : jz_Z} {a : Nat → Int} {s : jl_Mm} (hW : kr_W Z s) (hA : kr_A a s) (h63 : jl_g s 206 63 = if th = true then 1 else 0) (hk24 : 0 ≤ a 24 ∧ a 24 ≤ 40) (w : Int) : jE (jf_X12_blows w s) 0 kr_FO s (fun τ => kr_A (ks_blowL th Z a w) τ) := by
  have hn := hW.1.l
  have nf : ∀ {c i : Nat}, c ≠ 249 → (c = 206 → i ≠ 61) → jp_in kr_FO c i = false := by intro c i h1 h2; simp [jp_in, kr_FO]; omega
  rw [jf_X12_blows]
  refine ku_for (α := jl_Mm) (G := fun m k τ => jf_X12_blows_L2 m w ((k : Nat) : Int) τ) (N := ks_nl Z) (P := fun o => jE o 0 kr_FO s (fun τ => kr_A (ks_blowL th Z a w) τ)) (I := fun k τ => jp_fr kr_FO s τ ∧ kr_A (ks_mix (ks_blowR Z a w k) (ks_log th a (a 0) (ks_hitP Z a w) k)) τ) (fun m k τ hk hI => ?_) (fun m τ hI => ?_) (ks_nl Z) 0 jl_fu s (Nat.zero_add _) (by show ks_nl Z < 4000; omega) ⟨jp_fr.rf, hA.cg (fun j hj => by
      by_cases z : j < 24
      · rw [ks_mixL z]; rfl
      · rw [ks_mixH (by omega)]; rfl)⟩
  · obtain ⟨hf, A⟩ := hI
    have W := hW.fr hf (fun c i _ _ => nf (by omega) (by omega))
    have ok := hW.1.o hk
    have ek : jl_add (k : Int) 1 = ((k + 1 : Nat) : Int) := jp_add (by omega) (by omega)
    have e8 : ks_mix (ks_blowR Z a w k) (ks_log th a (a 0) (ks_hitP Z a w) k) (8 + k) = a (8 + k) := by rw [ks_mixL (by omega)]; exact ks_blow_o k (by omega) (by omega)
    have eh : ks_mix (ks_blowR Z a w k) (ks_log th a (a 0) (ks_hitP Z a w) k) (2 + ks_ow Z k) = a (2 + ks_ow Z k) := by rw [ks_mixL (by omega)]; exact ks_blow_o k (by omega) (by omega)
    have e0 : ks_mix (ks_blowR Z a w k) (ks_log th a (a 0) (ks_hitP Z a w) k) 0 = a 0 := by rw [ks_mixL (by omega)]; exact ks_blow_o k (by omega) (by omega)
    have lg := ks_log_24 (th := th) (a := a) (h := a 0) (p := ks_hitP Z a w) hk24 k
    have lit := A.lit (l := k) (by omega)
    have win := kr_win W A hk
    rw [e8] at lit
    rw [eh] at win
    refine Or.inr ?_
    show ∃ x', jf_X12_blows_L2 (m + 1) w ((k : Nat) : Int) τ = jf_X12_blows_L2 m w ((k + 1 : Nat) : Int) x' ∧ jp_fr kr_FO s x' ∧ kr_A (ks_mix (ks_blowR Z a w (k + 1)) (ks_log th a (a 0) (ks_hitP Z a w) (k + 1))) x'
    rw [jf_X12_blows_L2, W.nl, jp_bd, if_neg (by omega), lit, jp_bd, ks_blowR, ks_log]
    by_cases z : 0 < a (8 + k)
    · rw [if_pos z, if_neg (by decide), win, jp_bd]
      by_cases y : a (2 + ks_ow Z k) = w
      · have hp : ks_hitP Z a w k = true := decide_eq_true ⟨z, y⟩
        have m24 : ks_mix (ks_blowR Z a w k) (ks_log th a (a 0) (ks_hitP Z a w) k) 24 = ks_log th a (a 0) (ks_hitP Z a w) k 24 := ks_mixH (by decide)
        obtain ⟨ω, o1, o2, o3, -⟩ := kr_goes (th := th) (l := k) A (by rw [hf.g _ _ (nf (by decide) (by decide))]; exact h63) (by rw [m24]; exact lg) (by omega)
        rw [if_pos y, o1, jp_bd, jf_X12_blows_B32, ek, if_pos hp]
        refine ⟨ω, rfl, hf.tr o2, o3.cg (fun j hj => ?_)⟩
        have d : ∀ j, ks_dark (ks_mix (ks_blowR Z a w k) (ks_log th a (a 0) (ks_hitP Z a w) k)) k j = ks_mix (ks_dark (ks_blowR Z a w k) k) (ks_log th a (a 0) (ks_hitP Z a w) k) j := by
          intro j
          rw [ks_dark, ks_dark]
          by_cases e1 : j = 16 + k
          · subst e1; rw [ks_ue, ks_mixL (by omega), ks_ue]
          · rw [ks_un e1]
            by_cases e2 : j = 8 + k
            · subst e2; rw [ks_ue, ks_mixL (by omega), ks_un (by omega), ks_ue]
            · rw [ks_un e2]
              by_cases e3 : j < 24
              · rw [ks_mixL e3, ks_mixL e3, ks_un e1, ks_un e2]
              · rw [ks_mixH (by omega), ks_mixH (by omega)]
        rw [e0]
        cases th with
        | true =>
          rw [if_pos rfl, if_neg (fun q => Bool.noConfusion q.2), d j]
        | false =>
          show ks_push _ (a 0) (k : Int) j = _
          rw [if_pos ⟨hp, rfl⟩]
          have d24 : ks_dark (ks_mix (ks_blowR Z a w k) (ks_log false a (a 0) (ks_hitP Z a w) k)) k 24 = ks_log false a (a 0) (ks_hitP Z a w) k 24 := by rw [d 24, ks_mixH (by decide)]
          by_cases e3 : j < 24
          · rw [ks_push_lo e3 (by rw [d24]; exact lg.1), d j, ks_mixL e3, ks_mixL e3]
          · rw [ks_mixH (by omega)]
            exact ks_push_cg (fun i hi => by rw [d i, ks_mixH hi]) (by omega) (by rw [d24]; exact lg.1)
      · have hp : ks_hitP Z a w k = false := decide_eq_false (fun q => y q.2)
        rw [if_neg y, jf_X12_blows_B32, ek, if_neg (by rw [hp]; decide), if_neg (fun q => by rw [hp] at q; exact Bool.noConfusion q.1)]
        exact ⟨τ, rfl, hf, A⟩
    · have hp : ks_hitP Z a w k = false := decide_eq_false (fun q => z q.1)
      rw [if_neg z, if_pos rfl, jf_X12_blows_B32, ek, if_neg (by rw [hp]; decide), if_neg (fun q => by rw [hp] at q; exact Bool.noConfusion q.1)]
      exact ⟨τ, rfl, hf, A⟩
  · obtain ⟨hf, A⟩ := hI
    have W := hW.fr hf (fun c i _ _ => nf (by omega) (by omega))
    show jE (jf_X12_blows_L2 (m + 1) w ((ks_nl Z : Nat) : Int) τ) _ _ _ _
    rw [jf_X12_blows_L2, W.nl, jp_bd, if_pos (Int.le_refl _)]
    exact ⟨τ, rfl, hf, A⟩
theorem ks_blowL_t {Z : jz_Z} {a : Nat → Int} {w : Int} (hZ : kz_V Z) : ks_blowL true Z a w = ks_blow Z a w := by
  have h8 := hZ.l
  have hl : ∀ n, ks_log true a (a 0) (ks_hitP Z a w) n = a := by
    intro n
    induction n with
    | zero => rfl
    | succ n ih => rw [ks_log, if_neg (fun q => Bool.noConfusion q.2), ih]
  funext j
  rw [ks_blowL, hl]
  by_cases h : j < 24
  · rw [ks_mixL h]
  · rw [ks_mixH (by omega), ks_blow, ks_blow_o _ h8.2 (by omega)]
/-- the counts -/
def ks_one (Z : jz_Z) (Ds : Nat → List Int) (a : Nat → Int) (l : Nat) : Int := if ks_bel Z Ds (ks_hrs Z Ds a 1) l = true then 1 else 0
def ks_odd (Z : jz_Z) (Ds : Nat → List Int) (a : Nat → Int) (l : Nat) : Nat → Int
  | 0 => (100 - Z.1 6) * ((ks_nw Z : Nat) : Int) * ks_one Z Ds a l
  | k + 1 => ks_odd Z Ds a l k + Z.1 6 * ks_one Z Ds (ks_blow Z a ((k : Nat) : Int)) l
theorem ks_one_b {Z : jz_Z} {Ds : Nat → List Int} {a : Nat → Int} {l : Nat} : ks_one Z Ds a l = 0 ∨ ks_one Z Ds a l = 1 := by
  rw [ks_one]; split <;> simp
theorem ks_odd_b {Z : jz_Z} {Ds : Nat → List Int} {a : Nat → Int} {l : Nat} (hZ : kz_V Z) : ∀ k, k ≤ 30 → 0 ≤ ks_odd Z Ds a l k ∧ ks_odd Z Ds a l k ≤ 3000 + 100 * (k : Int)
  | 0, _ => by
    have hw := hZ.w
    have hg := hZ.2.2.2.2.2.1
    rw [ks_odd]
    have h1 : 0 ≤ (100 - Z.1 6) * ((ks_nw Z : Nat) : Int) := Int.mul_nonneg (by omega) (by omega)
    have h2 : (100 - Z.1 6) * ((ks_nw Z : Nat) : Int) ≤ 100 * 30 := Int.mul_le_mul (by omega) (by omega) (by omega) (by decide)
    rcases ks_one_b (Z := Z) (Ds := Ds) (a := a) (l := l) with h | h <;> rw [h] <;> omega
  | k + 1, hk => by
    have ih := ks_odd_b (Ds := Ds) (a := a) (l := l) hZ k (by omega)
    have hg := hZ.2.2.2.2.2.1
    rw [ks_odd]
    rcases ks_one_b (Z := Z) (Ds := Ds) (a := ks_blow Z a ((k : Nat) : Int)) (l := l) with h | h <;> rw [h] <;> omega
def kp_odds (Z : jz_Z) (Ds : Nat → List Int) (a : Nat → Int) (v : Int) : Int := if 0 < ks_nw Z ∧ a 0 < 999 ∧ (v = -1 ∨ (0 ≤ v ∧ v < ((ks_nl Z : Nat) : Int))) then (if v = -1 then 100 * ((ks_nw Z : Nat) : Int) else ks_odd Z Ds a v.toNat (ks_nw Z)) else -1
theorem kc_has {H : Nat} {Z : jz_Z} {s : jl_Mm} (hW : kc_W H Z s) : jf_X11_hasStreet s = some (if 0 < ks_nw Z then 1 else 0, s) := by
  rw [jf_X11_hasStreet, hW.g0, hW.gr0, hW.n1]
  simp only [jf_X11_hasStreet_B15, jp_zb0, jp_zb1]
  by_cases z : 0 < ks_nw Z
  · rw [if_pos z, if_neg (by omega)]
  · rw [if_neg z, if_pos (by omega)]
theorem kc_odds {H : Nat} {Z : jz_Z} {Ds : Nat → List Int} {a : Nat → Int} {s : jl_Mm} (hz : kz_N Z Ds a) (hN : kc_N H Z Ds a s) (v : Int) : jE (jf_X11_odds v s) (kp_odds Z Ds a v) kc_FA s (fun _ => True) := by
  have hl := hN.1.1.l
  have hw := hN.1.1.w
  have hg := hN.1.1.2.2.2.2.2.1
  have hV0 := hz.1.1
  rw [jf_X11_odds, kc_has hN.1, jp_bd, kp_odds]
  by_cases c : 0 < ks_nw Z
  · rw [if_pos c, if_neg (by decide), hN.2.2.1]
    by_cases d : a 0 < 999
    · rw [if_pos d]
      by_cases e : v = -1
      · rw [if_pos e, hN.1.g0, hN.1.gr0, hN.1.n1, jp_mul (by omega) (by omega), if_pos (show 0 < ks_nw Z ∧ a 0 < 999 ∧ (v = -1 ∨ (0 ≤ v ∧ v < ((ks_nl Z : Nat) : Int))) from ⟨c, d, Or.inl e⟩), if_pos e]
        exact jE.ret trivial
      · rw [if_neg e, hN.1.isL, jp_bd]
        by_cases f : 0 ≤ v ∧ v < ((ks_nl Z : Nat) : Int)
        · rw [if_pos f, if_neg (by decide), if_pos (show 0 < ks_nw Z ∧ a 0 < 999 ∧ (v = -1 ∨ (0 ≤ v ∧ v < ((ks_nl Z : Nat) : Int))) from ⟨c, d, Or.inr f⟩), if_neg e]
          obtain ⟨l, rfl⟩ : ∃ l : Nat, v = (l : Int) := ⟨v.toNat, by omega⟩
          have gust : ∀ τ, kc_W H Z τ → jl_g τ H 6 = Z.1 6 := fun τ hW => hW.2.2.2.2.1 6 (by decide)
          obtain ⟨s1, r1, r2, r3⟩ := kc_restart hN.2.2
          have N1 := hN.frA r2
          obtain ⟨s2, b1, b2, -⟩ := kc_bb (n := 1) N1.1 N1.2.1 hz.2.1 hz.1 r3 (by omega)
          have b1 : jf_X1_believedBehind 1 s1 = some (ks_belB Z Ds (ks_hrs Z Ds a 1), s2) := b1
          have N2 := N1.frA b2
          have hbit : ∀ b, jl_and (jl_shr (ks_belB Z Ds (ks_hrs Z Ds b 1)) (l : Int)) 1 = ks_one Z Ds b l := fun b => by rw [ks_belB, ku_b_bit _ (by omega) (by omega)]; rfl
          have hb0 := ks_odd_b (Ds := Ds) (a := a) (l := l) hN.1.1 0 (by decide)
          have e0 : jl_mul (jl_mul (jl_sub 100 (Z.1 6)) ((ks_nw Z : Nat) : Int)) (ks_one Z Ds a l) = ks_odd Z Ds a l 0 := by
            have h1 : 0 ≤ (100 - Z.1 6) * ((ks_nw Z : Nat) : Int) := Int.mul_nonneg (by omega) (by omega)
            have h2 : (100 - Z.1 6) * ((ks_nw Z : Nat) : Int) ≤ 100 * 30 := Int.mul_le_mul (by omega) (by omega) (by omega) (by decide)
            rw [ks_odd] at hb0 ⊢
            have m1 : jl_mul (100 - Z.1 6) ((ks_nw Z : Nat) : Int) = (100 - Z.1 6) * ((ks_nw Z : Nat) : Int) := jp_mul (by omega) (by omega)
            have m2 : jl_mul ((100 - Z.1 6) * ((ks_nw Z : Nat) : Int)) (ks_one Z Ds a l) = (100 - Z.1 6) * ((ks_nw Z : Nat) : Int) * ks_one Z Ds a l := jp_mul (by omega) (by omega)
            rw [jp_sub (by omega) (by omega), m1, m2]
          rw [Int.toNat_natCast, jf_X1_oddsOf, hN.1.g, hN.1.gr, hN.1.n1, jp_let, hN.1.gH, gust s hN.1, jp_let, r1, jp_bd, if_pos kc_k196, b1, jp_bd, hbit, jp_let, e0]
          have key : jE (jf_X1_oddsOf_L48 jl_fu (l : Int) ((ks_nw Z : Nat) : Int) (Z.1 6) (ks_odd Z Ds a l 0) 0 s2) (ks_odd Z Ds a l (ks_nw Z)) kc_FA s2 (fun _ => True) := by
            refine ku_for (α := jl_Mm) (G := fun m k τ => jf_X1_oddsOf_L48 m (l : Int) ((ks_nw Z : Nat) : Int) (Z.1 6) (ks_odd Z Ds a l k) ((k : Nat) : Int) τ) (N := ks_nw Z) (P := fun o => jE o (ks_odd Z Ds a l (ks_nw Z)) kc_FA s2 (fun _ => True)) (I := fun k τ => jp_fr kc_FA s2 τ) (fun m k τ hk hf => ?_) (fun m τ hf => ?_) (ks_nw Z) 0 jl_fu s2 (Nat.zero_add _) (by show ks_nw Z < 4000; omega) jp_fr.rf
            · have N := N2.frA hf
              obtain ⟨s3, q1, q2, q3⟩ := kc_restart N.2.2
              have N3 := N.frA q2
              obtain ⟨s4, w1, w2, w3⟩ := kc_blow (Or.inr rfl) N3.1 q3 ((k : Nat) : Int)
              have N4 := N3.frA (kc_FQ196 w2)
              have bV := ks_blow_V (w := ((k : Nat) : Int)) hN.1.1 hz.1 (ks_nl Z) (Nat.le_refl _)
              have b0 : ks_blowR Z a ((k : Nat) : Int) (ks_nl Z) 0 = a 0 := ks_blow_o _ hl.2 (by omega)
              obtain ⟨s5, y1, y2, -⟩ := kc_bb (n := 1) N4.1 N4.2.1 hz.2.1 bV w3 (show ks_blowR Z a ((k : Nat) : Int) (ks_nl Z) 0 + ((1 : Nat) : Int) ≤ 999 by rw [b0]; omega)
              have y1 : jf_X1_believedBehind 1 s4 = some (ks_belB Z Ds (ks_hrs Z Ds (ks_blow Z a ((k : Nat) : Int)) 1), s5) := y1
              have hbk := ks_odd_b (Ds := Ds) (a := a) (l := l) hN.1.1 k (by omega)
              have ek : jl_add (k : Int) 1 = ((k + 1 : Nat) : Int) := jp_add (by omega) (by omega)
              have es : jl_add (ks_odd Z Ds a l k) (jl_mul (Z.1 6) (ks_one Z Ds (ks_blow Z a ((k : Nat) : Int)) l)) = ks_odd Z Ds a l (k + 1) := by
                rw [ks_odd]
                rcases ks_one_b (Z := Z) (Ds := Ds) (a := ks_blow Z a ((k : Nat) : Int)) (l := l) with h | h <;> rw [h, jp_mul (by omega) (by omega), jp_add (by omega) (by omega)]
              refine Or.inr ⟨s5, ?_, ((hf.tr q2).tr (kc_FQ196 w2)).tr y2⟩
              show jf_X1_oddsOf_L48 (m + 1) (l : Int) ((ks_nw Z : Nat) : Int) (Z.1 6) (ks_odd Z Ds a l k) ((k : Nat) : Int) τ = jf_X1_oddsOf_L48 m (l : Int) ((ks_nw Z : Nat) : Int) (Z.1 6) (ks_odd Z Ds a l (k + 1)) ((k + 1 : Nat) : Int) s5
              rw [jf_X1_oddsOf_L48, if_neg (by omega), q1, jp_bd, if_pos kc_k196, w1, jp_bd, y1, jp_bd, hbit, es, jp_let, ek]
            · show jE (jf_X1_oddsOf_L48 (m + 1) (l : Int) ((ks_nw Z : Nat) : Int) (Z.1 6) (ks_odd Z Ds a l (ks_nw Z)) ((ks_nw Z : Nat) : Int) τ) _ _ _ _
              rw [jf_X1_oddsOf_L48, if_pos (Int.le_refl _)]
              exact ⟨τ, rfl, hf, trivial⟩
          obtain ⟨s9, k1, k2, -⟩ := key
          rw [k1, jp_bd]
          exact ⟨s9, rfl, (r2.tr b2).tr k2, trivial⟩
        · rw [if_neg f, if_pos rfl, if_neg (show ¬ (0 < ks_nw Z ∧ a 0 < 999 ∧ (v = -1 ∨ (0 ≤ v ∧ v < ((ks_nl Z : Nat) : Int)))) from fun q => q.2.2.elim e f)]
          exact jE.ret trivial
    · rw [if_neg d, if_neg (fun q => d q.2.1)]
      exact jE.ret trivial
  · rw [if_neg c, if_pos rfl, if_neg (fun q => c q.1)]
    exact jE.ret trivial
