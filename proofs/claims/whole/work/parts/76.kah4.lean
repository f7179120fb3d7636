/-! PURE, both: short candles -/
def ks_put (a : Nat → Int) (set v : Int) : Nat → Nat → Int
  | 0 => a
  | n + 1 => if jp_tb set n = true ∧ ¬ 0 < a (8 + n) then ks_u (ks_u (ks_put a set v n) (8 + n) v) (16 + n) 0 else ks_put a set v n
theorem ks_put_o {a : Nat → Int} {set v : Int} {j : Nat} : ∀ n, n ≤ 8 → (j < 8 ∨ (8 + n ≤ j ∧ j < 16) ∨ 16 + n ≤ j) → ks_put a set v n j = a j
  | 0, _, _ => rfl
  | n + 1, hn, h => by
    have ih := ks_put_o (a := a) (set := set) (v := v) (j := j) n (by omega) (by omega)
    rw [ks_put]
    split
    · rw [ks_un (by omega), ks_un (by omega)]; exact ih
    · exact ih
theorem ks_put_V {Z : jz_Z} {a : Nat → Int} {set v : Int} (hZ : kz_V Z) (h : ks_V Z a) (hv : 1 ≤ v ∧ v ≤ 99) : ∀ n, n ≤ ks_nl Z → ks_V Z (ks_put a set v n)
  | 0, _ => h
  | n + 1, hn => by
    have ih := ks_put_V (set := set) hZ h hv n (by omega)
    rw [ks_put]
    split
    · exact ih.c hZ (by omega) (by omega) (by omega) (fun z => by omega)
    · exact ih
def kp_suff (Z : jz_Z) (Ds : Nat → List Int) (a : Nat → Int) (set : Int) (n v : Nat) : Bool := decide (jl_and (ks_belB Z Ds (ks_hrs Z Ds (ks_put a set (v : Int) (ks_nl Z)) n)) set = set)
def kp_short (Z : jz_Z) (Ds : Nat → List Int) (a : Nat → Int) (set : Int) (n : Nat) : Int := ks_fst (kp_suff Z Ds a set n) 99 1
theorem ku_suff {B set : Int} (hs : jl_n3 set) : jl_and set (jl_xor B (-1)) = 0 ↔ jl_and B set = set := by
  constructor
  · intro h
    refine jp_ext (jp_and_n _ _) hs (fun b hb => ?_)
    have q : jp_tb (jl_and set (jl_xor B (-1))) b = false := by rw [h]; exact jp_tb_0 hb
    rw [jp_tb_and, jp_tb_not _ hb] at q
    rw [jp_tb_and]
    cases x : jp_tb set b <;> cases y : jp_tb B b <;> rw [x, y] at q <;> first | rfl | cases q
  · intro h
    refine jp_ext (jp_and_n _ _) jl_n3_0 (fun b hb => ?_)
    have q : jp_tb (jl_and B set) b = jp_tb set b := by rw [h]
    rw [jp_tb_and] at q
    rw [jp_tb_and, jp_tb_not _ hb, jp_tb_0 hb]
    cases x : jp_tb set b <;> cases y : jp_tb B b <;> rw [x, y] at q <;> first | rfl | cases q
theorem ks_fst_c {p : Nat → Bool} (h : ∀ v, p v = p 1) : ∀ m k, p 1 = false → ks_fst p m k = -1 := by
  intro m
  induction m with
  | zero => intro k _; rfl
  | succ m ih => intro k hp; rw [ks_fst, if_neg (by rw [h k, hp]; decide)]; exact ih (k + 1) hp
theorem kc_put {H : Nat} {Z : jz_Z} {Ds : Nat → List Int} {a : Nat → Int} {set u most v n : Int} {s : jl_Mm} {R : Int → Int → Int → Int → Int → jl_Mm → jl_O} (hN : kc_N H Z Ds a s) (hV : ks_V Z a) (hA : kc_A (ks_np Z) 196 a s) (hv : 1 ≤ v ∧ v ≤ 99) (hu : ∀ b, b < 8 → jp_tb u b = (jp_tb set b && decide (b < ks_nl Z ∧ ¬ 0 < a (8 + b)))) : ∃ τ, jf_X1_shortCandle_L46 R jl_fu set n u most v 0 s = (jl_bd (jf_X1_believedBehind n τ) fun r10 s11 => if jl_and r10 set = set then some (v, s11) else R set n u most (jl_add v 1) s11) ∧ jp_fr kc_FA s τ ∧ kc_A (ks_np Z) 196 (ks_put a set v (ks_nl Z)) τ := by
  have h8 := hN.1.1.l
  refine ku_for (α := jl_Mm) (G := fun m k τ => jf_X1_shortCandle_L46 R m set n u most v ((k : Nat) : Int) τ) (N := 8) (P := fun o => ∃ τ, o = (jl_bd (jf_X1_believedBehind n τ) fun r10 s11 => if jl_and r10 set = set then some (v, s11) else R set n u most (jl_add v 1) s11) ∧ jp_fr kc_FA s τ ∧ kc_A (ks_np Z) 196 (ks_put a set v (ks_nl Z)) τ) (I := fun k τ => jp_fr kc_FA s τ ∧ kc_A (ks_np Z) 196 (ks_put a set v (if k < ks_nl Z then k else ks_nl Z)) τ) (fun m k τ hk hI => ?_) (fun m τ hI => ?_) 8 0 jl_fu s rfl (by decide) ⟨jp_fr.rf, by
      by_cases z : 0 < ks_nl Z
      · rw [if_pos z]; exact hA
      · have : ks_nl Z = 0 := by omega
        rw [if_neg z, this]; exact hA⟩
  · obtain ⟨hf, A⟩ := hI
    have ek : jl_add (k : Int) 1 = ((k + 1 : Nat) : Int) := jp_add (by omega) (by omega)
    refine Or.inr ?_
    show ∃ x', jf_X1_shortCandle_L46 R (m + 1) set n u most v ((k : Nat) : Int) τ = jf_X1_shortCandle_L46 R m set n u most v ((k + 1 : Nat) : Int) x' ∧ _
    rw [jf_X1_shortCandle_L46, if_neg (by omega), jp_bit (by omega), hu k hk]
    by_cases z : k < ks_nl Z
    · rw [if_pos z] at A
      have e1 : (if k + 1 < ks_nl Z then k + 1 else ks_nl Z) = k + 1 := by split <;> omega
      rw [e1, ks_put]
      by_cases y : jp_tb set k = true ∧ ¬ 0 < a (8 + k)
      · have hb : (jp_tb set k && decide (k < ks_nl Z ∧ ¬ 0 < a (8 + k))) = true := by rw [y.1, decide_eq_true ⟨z, y.2⟩]; rfl
        obtain ⟨υ, u1, u2, u3⟩ := kc_set (l := k) (v := v) (Or.inr rfl) A (by omega) ⟨by omega, by omega⟩
        rw [hb, if_pos rfl, if_pos rfl, u1, jp_bd, jf_X1_shortCandle_B74, ek, if_pos y]
        exact ⟨υ, rfl, hf.tr (kc_FQ196 u2), u3⟩
      · have hb : (jp_tb set k && decide (k < ks_nl Z ∧ ¬ 0 < a (8 + k))) = false := by
          cases x : jp_tb set k with
          | false => rfl
          | true => rw [decide_eq_false (fun q => y ⟨x, q.2⟩)]; rfl
        rw [hb, if_neg (by decide), jf_X1_shortCandle_B74, ek, if_neg y]
        exact ⟨τ, rfl, hf, A⟩
    · rw [if_neg z] at A
      have e1 : (if k + 1 < ks_nl Z then k + 1 else ks_nl Z) = ks_nl Z := by rw [if_neg (by omega)]
      have hb : (jp_tb set k && decide (k < ks_nl Z ∧ ¬ 0 < a (8 + k))) = false := by rw [decide_eq_false (fun q => z q.1), Bool.and_false]
      rw [e1, hb, if_neg (by decide), jf_X1_shortCandle_B74, ek]
      exact ⟨τ, rfl, hf, A⟩
  · obtain ⟨hf, A⟩ := hI
    have e1 : (if 8 < ks_nl Z then 8 else ks_nl Z) = ks_nl Z := by rw [if_neg (by omega)]
    rw [e1] at A
    refine ⟨τ, ?_, hf, A⟩
    show jf_X1_shortCandle_L46 R (m + 1) set n u most v ((8 : Nat) : Int) τ = _
    rw [jf_X1_shortCandle_L46, if_pos (by decide)]
theorem kc_short {H : Nat} {Z : jz_Z} {Ds : Nat → List Int} {a : Nat → Int} {set : Int} {n : Nat} {s : jl_Mm} (hz : kz_N Z Ds a) (hN : kc_N H Z Ds a s) (hs : jl_n3 set) (hb : ∀ b, ks_nl Z ≤ b → b < 32 → jp_tb set b = false) (hn : a 0 + (n : Int) ≤ 999) : jE (jf_X1_shortCandle set (n : Int) s) (kp_short Z Ds a set n) kc_FA s (fun _ => True) := by
  have h8 := hN.1.1.l
  have hV0 := hz.1.1
  rw [jf_X1_shortCandle, kc_lits (Or.inl rfl) hN.1 hN.2.2, jp_bd, jp_let]
  have hu : ∀ b, b < 32 → jp_tb (jl_and set (jl_xor (ku_b (ks_litP a) (ks_nl Z)) (-1))) b = (jp_tb set b && decide (b < ks_nl Z ∧ ¬ 0 < a (8 + b))) := by
    intro b hb32
    rw [jp_tb_and, jp_tb_not _ hb32, ku_b_tb _ hb32 _ (by omega)]
    by_cases z : b < ks_nl Z
    · rw [decide_eq_true z, Bool.true_and, ks_litP]
      by_cases y : 0 < a (8 + b)
      · rw [decide_eq_true y, decide_eq_false (fun q => q.2 y)]; rfl
      · rw [decide_eq_false y, decide_eq_true (show b < ks_nl Z ∧ ¬ 0 < a (8 + b) from ⟨z, y⟩)]; rfl
    · rw [hb b (by omega) hb32]; rfl
  generalize hU : jl_and set (jl_xor (ku_b (ks_litP a) (ks_nl Z)) (-1)) = u at *
  -- all lengths up to most
  have go : ∀ most : Nat, most ≤ 99 → jE (jf_X1_shortCandle_B26 set (n : Int) u (most : Int) s) (ks_fst (kp_suff Z Ds a set n) most 1) kc_FA s (fun _ => True) := by
    intro most hm
    rw [jf_X1_shortCandle_B26]
    refine ku_for (α := jl_Mm) (G := fun m k τ => jf_X1_shortCandle_L31 m set (n : Int) u (most : Int) (((k + 1 : Nat)) : Int) τ) (N := most) (P := fun o => jE o (ks_fst (kp_suff Z Ds a set n) most 1) kc_FA s (fun _ => True)) (I := fun k τ => jp_fr kc_FA s τ ∧ ks_fst (kp_suff Z Ds a set n) most 1 = ks_fst (kp_suff Z Ds a set n) (most - k) (k + 1)) (fun m k τ hk hI => ?_) (fun m τ hI => ?_) most 0 jl_fu s (Nat.zero_add _) (by show most < 4000; omega) ⟨jp_fr.rf, rfl⟩
    · obtain ⟨hf, e⟩ := hI
      have N := hN.frA hf
      obtain ⟨s1, r1, r2, r3⟩ := kc_restart N.2.2
      have N1 := N.frA r2
      obtain ⟨s2, p1, p2, p3⟩ := kc_put (set := set) (u := u) (most := (most : Int)) (v := ((k + 1 : Nat) : Int)) (n := (n : Int)) (R := jf_X1_shortCandle_L31 m) N1 hz.1 r3 (by omega) (fun b hb => hu b (by omega))
      have N2 := N1.frA p2
      have pV := ks_put_V (set := set) (v := ((k + 1 : Nat) : Int)) hN.1.1 hz.1 (by omega) (ks_nl Z) (Nat.le_refl _)
      obtain ⟨s3, b1, b2, -⟩ := kc_bb (n := n) N2.1 N2.2.1 hz.2.1 pV p3 (by rw [ks_put_o _ h8.2 (by omega)]; exact hn)
      have em : most - k = (most - (k + 1)) + 1 := by omega
      rw [em, ks_fst] at e
      have f3 : jp_fr kc_FA s s3 := ((hf.tr r2).tr p2).tr b2
      show jE (jf_X1_shortCandle_L31 (m + 1) set (n : Int) u (most : Int) (((k + 1 : Nat)) : Int) τ) _ _ _ _ ∨ ∃ x' : jl_Mm, jf_X1_shortCandle_L31 (m + 1) set (n : Int) u (most : Int) (((k + 1 : Nat)) : Int) τ = jf_X1_shortCandle_L31 m set (n : Int) u (most : Int) (((k + 1 + 1 : Nat)) : Int) x' ∧ _
      have ek : jl_add ((k + 1 : Nat) : Int) 1 = ((k + 1 + 1 : Nat) : Int) := jp_add (by omega) (by omega)
      rw [jf_X1_shortCandle_L31, if_neg (by omega), r1, jp_bd, if_pos kc_k196, p1, b1, jp_bd, ek]
      by_cases z : jl_and (ks_belB Z Ds (ks_hrs Z Ds (ks_put a set ((k + 1 : Nat) : Int) (ks_nl Z)) n)) set = set
      · have hd : kp_suff Z Ds a set n (k + 1) = true := decide_eq_true z
        rw [if_pos hd] at e
        rw [if_pos z, e]
        exact Or.inl ⟨s3, rfl, f3, trivial⟩
      · have hd : kp_suff Z Ds a set n (k + 1) = false := decide_eq_false z
        rw [if_neg (by rw [hd]; decide)] at e
        rw [if_neg z]
        exact Or.inr ⟨s3, rfl, f3, e⟩
    · obtain ⟨hf, e⟩ := hI
      rw [Nat.sub_self, ks_fst] at e
      show jE (jf_X1_shortCandle_L31 (m + 1) set (n : Int) u (most : Int) (((most + 1 : Nat)) : Int) τ) _ _ _ _
      rw [jf_X1_shortCandle_L31, if_pos (by omega), e]
      exact ⟨τ, rfl, hf, trivial⟩
  by_cases z : u = 0
  · rw [if_pos z]
    have hput : ∀ v m, m ≤ ks_nl Z → ks_put a set v m = a := by
      intro v m
      induction m with
      | zero => intro _; rfl
      | succ m ih =>
        intro hm
        rw [ks_put, if_neg, ih (by omega)]
        intro q
        have h2 := hu m (by omega)
        rw [z, jp_tb_0 (by omega), q.1, decide_eq_true (show m < ks_nl Z ∧ ¬ 0 < a (8 + m) from ⟨by omega, q.2⟩)] at h2
        cases h2
    have hc : ∀ v, kp_suff Z Ds a set n v = kp_suff Z Ds a set n 1 := by
      intro v
      rw [kp_suff, kp_suff, hput _ _ (Nat.le_refl _), hput _ _ (Nat.le_refl _)]
    have e : kp_short Z Ds a set n = ks_fst (kp_suff Z Ds a set n) 1 1 := by
      rw [kp_short]
      cases h : kp_suff Z Ds a set n 1 with
      | true => rw [ks_fst, if_pos h]; exact (if_pos h).symm
      | false => rw [ks_fst_c hc _ _ h, ks_fst_c hc _ _ h]
    rw [e]
    exact go 1 (by decide)
  · rw [if_neg z]
    exact go 99 (by decide)
/-- the reference -/
theorem kr_enough {Z : jz_Z} {Ds : Nat → List Int} {a : Nat → Int} {set : Int} {n v : Nat} {s : jl_Mm} (hz : kz_N Z Ds a) (hT : kr_Th Z Ds a a s) (hs : jl_n3 set) (hv : 1 ≤ v ∧ v ≤ 99) (hn : a 0 + (n : Int) ≤ 999) : jE (jf_X12_isEnough set (v : Int) (n : Int) s) (if kp_suff Z Ds a set n v = true then 1 else 0) kr_FA s (kr_Th Z Ds a a) := by
  have h8 := hT.1.1.l
  rw [jf_X12_isEnough]
  refine ku_for (α := jl_Mm) (G := fun m k τ => jf_X12_isEnough_L3 m set (v : Int) (n : Int) ((k : Nat) : Int) τ) (N := ks_nl Z) (P := fun o => jE o (if kp_suff Z Ds a set n v = true then 1 else 0) kr_FA s (kr_Th Z Ds a a)) (I := fun k τ => jp_fr [(249, 0, 0)] s τ ∧ kr_Th Z Ds a (ks_put a set (v : Int) k) τ) (fun m k τ hk hI => ?_) (fun m τ hI => ?_) (ks_nl Z) 0 jl_fu s (Nat.zero_add _) (by show ks_nl Z < 4000; omega) ⟨jp_fr.rf, hT⟩
  · obtain ⟨hf, T⟩ := hI
    have ek : jl_add (k : Int) 1 = ((k + 1 : Nat) : Int) := jp_add (by omega) (by omega)
    have e8 : jl_add 8 (k : Int) = ((8 + k : Nat) : Int) := by rw [jp_add (by omega) (by omega)]; omega
    have q8 : ks_put a set (v : Int) k (8 + k) = a (8 + k) := ks_put_o k (by omega) (by omega)
    have q16 : ks_put a set (v : Int) k (16 + k) = a (16 + k) := ks_put_o k (by omega) (by omega)
    have hc := hz.1.2.2.2 k (by omega)
    refine Or.inr ?_
    show ∃ x', jf_X12_isEnough_L3 (m + 1) set (v : Int) (n : Int) ((k : Nat) : Int) τ = jf_X12_isEnough_L3 m set (v : Int) (n : Int) ((k + 1 : Nat) : Int) x' ∧ _
    rw [jf_X12_isEnough_L3, T.1.nl, jp_bd, if_neg (by omega), jp_bit (by omega), ks_put]
    by_cases y : jp_tb set k = true
    · have lit := T.2.2.1.lit (l := k) (by omega)
      rw [q8] at lit
      rw [if_pos y, if_pos rfl, lit, jp_bd]
      by_cases z : 0 < a (8 + k)
      · rw [if_pos z, if_neg (by decide), jf_X12_isEnough_B42, ek, if_neg (fun q => q.2 z)]
        exact ⟨τ, rfl, hf, T⟩
      · have f1 : jp_fr [(249, 0, 0)] τ (jl_up τ 249 (8 + k) (v : Int)) := jp_fr.rf.up rfl
        have nf : ∀ {c i : Nat}, c ≠ 249 → jp_in [(249, 0, 0)] c i = false := by intro c i h1; simp [jp_in]; omega
        rw [if_neg z, if_pos rfl, e8, if_pos (by omega), Int.toNat_natCast, jp_lm, jf_X12_isEnough_B42, ek, if_pos ⟨y, z⟩]
        refine ⟨_, rfl, hf.up rfl, T.1.fr f1 (fun c i _ _ => nf (by omega)), T.2.1.fr f1 (fun c i _ _ => nf (by omega)), (T.2.2.1.up (i := 8 + k) (v := (v : Int)) ⟨by omega, by omega⟩).cg (fun j hj => ?_), fun i hi => (f1.g _ _ (nf (by decide))).trans (T.2.2.2.1 i hi), (f1.g _ _ (nf (by decide))).trans T.2.2.2.2⟩
        by_cases e1 : j = 16 + k
        · subst e1; rw [ks_ue, ks_un (by omega), q16]; exact hc.2.2.1 (by omega)
        · rw [ks_un e1]
    · rw [if_neg y, if_neg (by decide), jf_X12_isEnough_B42, ek, if_neg (fun q => y q.1)]
      exact ⟨τ, rfl, hf, T⟩
  · obtain ⟨hf, T⟩ := hI
    have pV := ks_put_V (set := set) (v := (v : Int)) T.1.1 hz.1 (by omega) (ks_nl Z) (Nat.le_refl _)
    have p0 : ks_put a set (v : Int) (ks_nl Z) 0 = a 0 := ks_put_o _ h8.2 (by omega)
    have phi : ∀ j, 24 ≤ j → ks_put a set (v : Int) (ks_nl Z) j = a j := fun j hj => ks_put_o _ h8.2 (by omega)
    obtain ⟨i1, i2, i3, -⟩ := ks_hrs_V (Ds := Ds) T.1.1 pV n (by rw [p0]; omega)
    obtain ⟨s2, q1, q2, q3⟩ := kr_hoursT (n := n) T hz.2.1 pV (by rw [phi 24 (by decide)]; exact hz.2.2.2) (by rw [p0]; omega)
    obtain ⟨s4, t1, t2, t3⟩ := kr_heldT q3 hz.2.1 i1
    obtain ⟨s5, n1, n2, n3⟩ := kr_anew t3 (fun j hj => by rw [i3 j hj, phi j hj])
    have f5 : jp_fr kr_FA s s5 := (((hf.w (by decide)).tr (q2.w (by decide))).tr (t2.w (by decide))).tr (n2.w (by decide))
    show jE (jf_X12_isEnough_L3 (m + 1) set (v : Int) (n : Int) ((ks_nl Z : Nat) : Int) τ) _ _ _ _
    rw [jf_X12_isEnough_L3, T.1.nl, jp_bd, if_pos (Int.le_refl _), q1, jp_bd, t1, jp_bd]
    by_cases z : jl_and (ks_belB Z Ds (ks_hrs Z Ds (ks_put a set (v : Int) (ks_nl Z)) n)) set = set
    · have hd : kp_suff Z Ds a set n v = true := decide_eq_true z
      rw [if_pos ((ku_suff hs).mpr z), jf_X12_isEnough_B69, n1, jp_bd, jp_zb1, if_pos hd]
      exact ⟨s5, rfl, f5, n3⟩
    · have hd : kp_suff Z Ds a set n v = false := decide_eq_false z
      rw [if_neg (fun q => z ((ku_suff hs).mp q)), jf_X12_isEnough_B69, n1, jp_bd, jp_zb0, hd, if_neg (by decide)]
      exact ⟨s5, rfl, f5, n3⟩
theorem kr_short {Z : jz_Z} {Ds : Nat → List Int} {a : Nat → Int} {set : Int} {n : Nat} {s : jl_Mm} (hz : kz_N Z Ds a) (hN : kr_N Z Ds a s) (hs : jl_n3 set) (hn : a 0 + (n : Int) ≤ 999) : jE (jf_X12_leastFor set (n : Int) s) (kp_short Z Ds a set n) kr_FA s (kr_N Z Ds a) := by
  obtain ⟨s1, p1, p2, p3⟩ := kr_aside hN.1 hN.2.1 hN.2.2.1
  rw [jf_X12_leastFor, p1, jp_bd]
  have fin : ∀ (r : Int) (τ : jl_Mm), jp_fr kr_FA s τ → kr_Th Z Ds a a τ → jE (jf_X12_leastFor_B41 r τ) r kr_FA s (kr_N Z Ds a) := by
    intro r τ hf hT
    obtain ⟨s3, b1, b2, b3⟩ := kr_end hN hf hT (fun _ _ => rfl)
    rw [jf_X12_leastFor_B41, b1, jp_bd]
    exact ⟨s3, rfl, b2, b3⟩
  refine ku_for2 (α := jl_Mm) (G := fun m k τ => jf_X12_leastFor_L9 m set (n : Int) (-1) (((k + 1 : Nat)) : Int) τ) (N := 99) (P := fun o => jE o (kp_short Z Ds a set n) kr_FA s (kr_N Z Ds a)) (I := fun k τ => jp_fr kr_FA s τ ∧ kr_Th Z Ds a a τ ∧ kp_short Z Ds a set n = ks_fst (kp_suff Z Ds a set n) (99 - k) (k + 1)) (fun m k τ hk hm hI => ?_) (fun m τ hI => ?_) 99 0 jl_fu s1 rfl (by decide) ⟨p2, p3, rfl⟩
  · obtain ⟨hf, T, e⟩ := hI
    obtain ⟨υ, u1, u2, u3⟩ := kr_enough (v := k + 1) hz T hs (by omega) hn
    have em : 99 - k = (99 - (k + 1)) + 1 := by omega
    have ek : jl_add ((k + 1 : Nat) : Int) 1 = ((k + 1 + 1 : Nat) : Int) := jp_add (by omega) (by omega)
    have fυ : jp_fr kr_FA s υ := hf.tr u2
    rw [em, ks_fst] at e
    show jE (jf_X12_leastFor_L9 (m + 1) set (n : Int) (-1) (((k + 1 : Nat)) : Int) τ) _ _ _ _ ∨ ∃ x' : jl_Mm, jf_X12_leastFor_L9 (m + 1) set (n : Int) (-1) (((k + 1 : Nat)) : Int) τ = jf_X12_leastFor_L9 m set (n : Int) (-1) (((k + 1 + 1 : Nat)) : Int) x' ∧ _
    rw [jf_X12_leastFor_L9, if_neg (by omega), if_pos rfl, u1, jp_bd, jf_X12_leastFor_B35, jf_X12_leastFor_B35, ek]
    by_cases z : kp_suff Z Ds a set n (k + 1) = true
    · rw [if_pos z] at e
      have c1 : ¬ (if kp_suff Z Ds a set n (k + 1) = true then (1 : Int) else 0) = 0 := by rw [if_pos z]; decide
      obtain ⟨m, rfl⟩ : ∃ j, m = j + 1 := ⟨m - 1, by omega⟩
      have c2 : ¬ ((k + 1 : Nat) : Int) = -1 := by omega
      rw [if_neg c1, jf_X12_leastFor_L9, e]
      refine Or.inl ?_
      by_cases y : (99 : Int) < ((k + 1 + 1 : Nat) : Int)
      · rw [if_pos y]; exact fin _ υ fυ u3
      · rw [if_neg y, if_neg c2]; exact fin _ υ fυ u3
    · rw [if_neg z] at e
      have c1 : (if kp_suff Z Ds a set n (k + 1) = true then (1 : Int) else 0) = 0 := if_neg z
      rw [if_pos c1]
      exact Or.inr ⟨υ, rfl, fυ, u3, e⟩
  · obtain ⟨hf, T, e⟩ := hI
    show jE (jf_X12_leastFor_L9 (m + 1) set (n : Int) (-1) (((99 + 1 : Nat)) : Int) τ) _ _ _ _
    rw [Nat.sub_self, ks_fst] at e
    rw [jf_X12_leastFor_L9, if_pos (by decide), e]
    exact fin _ τ hf T
