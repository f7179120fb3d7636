/-! PURE, both: the answer of a question -/
def kq_v (Z : jz_Z) (Ds : Nat → List Int) (a : Nat → Int) (D : List Int) (l : Nat) : Int := kv_val (ks_env Z (Ds 0) a (if ks_bel Z Ds a l = true then 1 else 0) l) (ks_oo Z a) D
def kq_j (w : Int) (l : Nat) (acc v : Int) : Int :=
  if w = 32 then (if acc = -1 then (if v = 0 then acc else (l : Int)) else acc) else if w = 33 then (if v = 0 then acc else (l : Int)) else if w = 34 then acc + v else if w = 35 then acc + v
  else if w = 36 then (if l = 0 then v else if v ≤ acc then acc else v) else (if l = 0 then v else if acc ≤ v then acc else v)
def kq_a0 (w : Int) : Int := if w = 32 ∨ w = 33 then -1 else 0
def kq_a (w : Int) (f : Nat → Int) : Nat → Int
  | 0 => kq_a0 w
  | n + 1 => kq_j w n (kq_a w f n) (f n)
theorem kq_a_b {w : Int} {f : Nat → Int} : ∀ n, n ≤ 8 → (∀ l, l < n → kv_b (f l)) → -1000000 * (n : Int) - 1 ≤ kq_a w f n ∧ kq_a w f n ≤ 1000000 * (n : Int) + 8
  | 0, _, _ => by rw [kq_a, kq_a0]; split <;> omega
  | n + 1, hn, h => by
    obtain ⟨x, y⟩ := kq_a_b (w := w) (f := f) n (by omega) (fun l hl => h l (by omega))
    have hv := h n (by omega)
    obtain ⟨v1, v2⟩ := hv
    rw [kq_a, kq_j]
    generalize kq_a w f n = A at *
    generalize f n = V at *
    split
    · split
      · split <;> omega
      · omega
    · split
      · split <;> omega
      · split
        · omega
        · split
          · omega
          · split
            · split
              · omega
              · split <;> omega
            · split
              · omega
              · split <;> omega
theorem kc_joined {w acc v : Int} {l : Nat} {s : jl_Mm} (hw : 32 ≤ w ∧ w ≤ 37) (hl : l < 8) (ha : -9000000 ≤ acc ∧ acc ≤ 9000000) (hv : kv_b v) : jf_X5_joined w acc (l : Int) v s = some (kq_j w l acc v, s) := by
  obtain ⟨v1, v2⟩ := hv
  have na : jl_n6 acc := ⟨by omega, by omega⟩
  have nv : jl_n6 v := ⟨by omega, by omega⟩
  have n1 : jl_n6 (-1) := ⟨by decide, by decide⟩
  have el := kr_lt na n1
  have ev := kr_lt nv na
  have b1 : ∀ k t, jf_X5_joined_B54 k t = some (k, t) := fun _ _ => rfl
  have b2 : ∀ k t, jf_X5_joined_B55 k t = some (k, t) := fun _ _ => rfl
  have b3 : ∀ k t, jf_X5_joined_B67 k t = some (k, t) := fun _ _ => rfl
  have b4 : ∀ k t, jf_X5_joined_B86 k t = some (k, t) := fun _ _ => rfl
  have b5 : ∀ k t, jf_X5_joined_B93 k t = some (k, t) := fun _ _ => rfl
  have b6 : ∀ k t, jf_X5_joined_B106 k t = some (k, t) := fun _ _ => rfl
  have b7 : ∀ k t, jf_X5_joined_B113 k t = some (k, t) := fun _ _ => rfl
  have e34 : jl_ladd acc v = acc + v := jp_ladd (by omega) (by omega)
  rw [jf_X5_joined, kq_j, b1, b2, b3, b3, b4, b5, b6, b7, e34]
  by_cases c32 : w = 32
  · rw [if_pos c32, if_pos c32]
    by_cases z : acc = -1
    · rw [if_pos (el.2.2.mpr z), if_pos z]
      by_cases y : v = 0
      · rw [if_pos y, if_pos y]
      · rw [if_neg y, if_neg y]
    · rw [if_neg (fun q => z (el.2.2.mp q)), if_neg z]
  rw [if_neg c32, if_neg c32]
  by_cases c33 : w = 33
  · rw [if_pos c33, if_pos c33]
    by_cases y : v = 0
    · rw [if_pos y, if_pos y]
    · rw [if_neg y, if_neg y]
  rw [if_neg c33, if_neg c33]
  by_cases c34 : w = 34
  · rw [if_pos c34, if_pos c34]
  rw [if_neg c34, if_neg c34]
  by_cases c35 : w = 35
  · rw [if_pos c35, if_pos c35]
  rw [if_neg c35, if_neg c35]
  by_cases c36 : w = 36
  · rw [if_pos c36, if_pos c36]
    by_cases z : l = 0
    · rw [if_pos (show (l : Int) = 0 by omega), if_pos z]
    · rw [if_neg (show ¬ (l : Int) = 0 by omega), if_neg z]
      by_cases y : v ≤ acc
      · rw [if_pos (ev.2.1.mpr (by omega)), if_pos y]
      · rw [if_neg (fun q => ev.2.1.mp q (by omega)), if_neg y]
  · rw [if_neg c36, if_neg c36]
    by_cases z : l = 0
    · rw [if_pos (show (l : Int) = 0 by omega), if_pos z]
    · rw [if_neg (show ¬ (l : Int) = 0 by omega), if_neg z]
      by_cases y : acc ≤ v
      · rw [if_pos (ev.1.mpr (by omega)), if_pos y]
      · rw [if_neg (fun q => ev.1.mp q (by omega)), if_neg y]
theorem kc_wof {H : Nat} {Z : jz_Z} {a : Nat → Int} {c v : Int} {s : jl_Mm} (hW : kc_W H Z s) (hA : kc_A (ks_np Z) 40 a s) (h194 : ∀ i, i < ks_nw Z → jl_g s 194 i = ks_in Z a (i : Int)) (hc : c = 60 ∨ c = 61) : jf_X5_ofOne 40 (c - 36) v s = some (ks_oo Z a c v, s) := by
  have h8 := hW.1.l
  have h30 := hW.1.w
  have b1 : ∀ k t, jf_X5_ofOne_B53 k t = some (k, t) := fun _ _ => rfl
  have b2 : ∀ t, jf_X5_ofOne_B52 t = some (0, t) := fun _ => rfl
  have b3 : ∀ k t, jf_X5_ofOne_B79 k t = some (k, t) := fun _ _ => rfl
  have b4 : ∀ t, jf_X5_ofOne_B78 t = some (0, t) := fun _ => rfl
  rw [jf_X5_ofOne, if_pos (by decide +kernel), b2, b4, hW.g, hW.g, hW.gr, hW.n1, hW.n3, ks_oo]
  rcases hc with rfl | rfl
  · rw [if_pos (show (60 : Int) - 36 = 24 by decide), if_pos (show (60 : Int) = 60 from rfl)]
    by_cases z : v < 0
    · rw [if_pos z, if_neg (fun q => by have := q.1; omega)]
    rw [if_neg z]
    by_cases y : ((ks_nl Z : Nat) : Int) ≤ v
    · rw [if_pos y, if_neg (fun q => by have := q.2; omega)]
    · rw [if_neg y, if_pos (by omega), if_pos (show 0 ≤ v ∧ v < ((ks_nl Z : Nat) : Int) from ⟨by omega, by omega⟩), b1, show jl_g s (40 + 2) v.toNat = a (8 + v.toNat) from hA.2.2.2.1 v.toNat (by omega)]
  · rw [if_neg (show ¬ (61 : Int) - 36 = 24 by decide), if_pos (show (61 : Int) - 36 = 25 by decide), if_neg (show ¬ (61 : Int) = 60 by decide)]
    by_cases z : v < 0
    · rw [if_pos z, if_neg (fun q => by have := q.1; omega)]
    rw [if_neg z]
    by_cases y : ((ks_nw Z : Nat) : Int) ≤ v
    · rw [if_pos y, if_neg (fun q => by have := q.2; omega)]
    · have e := h194 v.toNat (by omega)
      rw [if_neg y, if_pos (by omega), if_pos (show 0 ≤ v ∧ v < ((ks_nw Z : Nat) : Int) from ⟨by omega, by omega⟩), b3, e, show ((v.toNat : Nat) : Int) = v by omega]
theorem kq_v_b {Z : jz_Z} {Ds : Nat → List Int} {a : Nat → Int} {D : List Int} {t : Bool} {l : Nat} (hZ : kz_V Z) (hV : ks_V Z a) (hl : l < ks_nl Z) (hT : jq_ty D [] = some [t]) : kv_b (kq_v Z Ds a D l) ∧ (t = true → kq_v Z Ds a D l = 0 ∨ kq_v Z Ds a D l = 1) := by
  have h := (kv_val_ok (env := ks_env Z (Ds 0) a (if ks_bel Z Ds a l = true then 1 else 0) l) (of := ks_oo Z a) hT (fun c _ _ _ => ks_env_b hZ hV hl (by split <;> decide) c) (fun c _ _ v _ => ks_oo_b hZ hV c v)).2
  by_cases c : t = true
  · rw [if_pos c] at h
    have h' : kq_v Z Ds a D l = 0 ∨ kq_v Z Ds a D l = 1 := h
    refine ⟨?_, fun _ => h'⟩
    rcases h' with q | q <;> rw [q] <;> exact ⟨by decide, by decide⟩
  · rw [if_neg c] at h
    exact ⟨h, fun z => absurd z c⟩
abbrev kc_FW : jp_F := [(191, 0, 0), (192, 0, 0), (194, 0, 0)]
theorem kc_FWn {c i : Nat} (h : c ≠ 191 ∧ c ≠ 192 ∧ c ≠ 194) : jp_in kc_FW c i = false := by simp [jp_in]; omega
theorem kc_answer {H : Nat} {Z : jz_Z} {Ds : Nat → List Int} {a : Nat → Int} {D : List Int} {t : Bool} {w : Int} {s : jl_Mm} (hN : kc_N H Z Ds a s) (hV : kz_N Z Ds a) (hw0 : 0 < ks_nw Z) (hC : kc_C 3 0 D s) (hT : jq_ty D [] = some [t]) (hw : 32 ≤ w ∧ w ≤ 37) :
    jE (jf_X5_answer 40 3 w s) (kq_a w (kq_v Z Ds a D) (ks_nl Z)) kc_FW s (fun _ => True) := by
  have h8 := hN.1.1.l
  have h30 := hN.1.1.w
  have h9 := hV.2.2.1
  have NW : ∀ {τ}, jp_fr kc_FW s τ → kc_N H Z Ds a τ ∧ kc_C 3 0 D τ := fun f => ⟨⟨hN.1.fr f (kc_FWn (by omega)) (kc_FWn (by omega)) (fun c i _ _ => kc_FWn (by omega)), hN.2.1.fr hN.1.2.1 f (fun c i _ _ => kc_FWn (by omega)), hN.2.2.fr f (kc_FWn (by omega)) (kc_FWn (by omega)) (fun c i _ _ => kc_FWn (by omega))⟩, hC.fr f (fun c i _ _ => kc_FWn (by omega))⟩
  obtain ⟨s1, t1, f1, -⟩ := kc_bel (q := 40) (Or.inl rfl) hN.1 hV.1 hN.2.2 hN.2.1 hV.2.1
  have F1 : jp_fr kc_FW s s1 := f1.ws (by intro c i h; simp [jp_in, kc_FR] at h ⊢; omega)
  have key : jf_X5_answer 40 3 w s = jf_X5_answer_L31 jl_fu 40 3 w (ks_belB Z Ds a) (kq_a0 w) 0 s1 := by
    rw [jf_X5_answer, if_pos (by decide +kernel), if_pos (by decide +kernel), t1, jp_bd, jf_X5_answer_B19, jf_X5_answer_B26, jf_X5_answer_B26, kq_a0]
    by_cases c32 : w = 32
    · rw [if_pos c32, if_pos (Or.inl c32)]
    rw [if_neg c32]
    by_cases c33 : w = 33
    · rw [if_pos c33, if_pos (Or.inr c33)]
    · rw [if_neg c33, if_neg (fun z => by rcases z with z | z; exact c32 z; exact c33 z)]
  rw [key]
  refine ku_for (α := jl_Mm) (G := fun g i τ => jf_X5_answer_L31 g 40 3 w (ks_belB Z Ds a) (kq_a0 w) ((i : Nat) : Int) τ) (N := ks_nw Z) (P := fun o => jE o (kq_a w (kq_v Z Ds a D) (ks_nl Z)) kc_FW s (fun _ => True)) (I := fun i τ => jp_fr kc_FW s τ ∧ ∀ j, j < i → jl_g τ 194 j = ks_in Z a (j : Int)) (fun g i τ hi hI => Or.inr ?_) (fun g τ hI => ?_) (ks_nw Z) 0 jl_fu s1 (Nat.zero_add _) (by show ks_nw Z < 4000; omega) ⟨F1, fun j hj => by omega⟩
  · obtain ⟨hf, hI⟩ := hI
    obtain ⟨N, -⟩ := NW hf
    have ea : jl_add (i : Int) 1 = ((i + 1 : Nat) : Int) := by rw [jp_add (by omega) (by omega)]; omega
    have ib : 0 ≤ ks_in Z a (i : Int) ∧ ks_in Z a (i : Int) ≤ 8 := ks_in_b N.1.1
    refine ⟨jl_up τ 194 i (ks_in Z a (i : Int)), ?_, hf.up (by simp [jp_in]), fun j hj => ?_⟩
    · show jf_X5_answer_L31 (g + 1) 40 3 w (ks_belB Z Ds a) (kq_a0 w) (i : Int) τ = jf_X5_answer_L31 g 40 3 w (ks_belB Z Ds a) (kq_a0 w) ((i + 1 : Nat) : Int) _
      rw [jf_X5_answer_L31, N.1.g, N.1.gr, N.1.n1, if_neg (by omega), kc_in (Or.inl rfl) N.1 N.2.2, jp_bd, if_pos (by omega), jp_lm, Int.toNat_natCast, ea]
    · by_cases q : j = i
      · subst q; exact jp_g_eq (by omega) (by omega)
      · rw [jp_g_nei q]; exact hI j (by omega)
  · obtain ⟨hf, hI⟩ := hI
    obtain ⟨N, -⟩ := NW hf
    show jE (jf_X5_answer_L31 (g + 1) 40 3 w (ks_belB Z Ds a) (kq_a0 w) ((ks_nw Z : Nat) : Int) τ) _ _ _ _
    rw [jf_X5_answer_L31, N.1.g, N.1.gr, N.1.n1, if_pos (Int.le_refl _)]
    refine ku_for (α := jl_Mm) (G := fun g l τ => jf_X5_answer_L66 g 40 3 w (ks_belB Z Ds a) (kq_a w (kq_v Z Ds a D) l) ((l : Nat) : Int) τ) (N := ks_nl Z) (P := fun o => jE o (kq_a w (kq_v Z Ds a D) (ks_nl Z)) kc_FW s (fun _ => True)) (I := fun l τ => jp_fr kc_FW s τ ∧ ∀ j, j < ks_nw Z → jl_g τ 194 j = ks_in Z a (j : Int)) (fun g l τ hl hI => Or.inr ?_) (fun g τ hI => ?_) (ks_nl Z) 0 jl_fu τ (Nat.zero_add _) (by show ks_nl Z < 4000; omega) ⟨hf, hI⟩
    · obtain ⟨hf, hI⟩ := hI
      obtain ⟨N, -⟩ := NW hf
      have ea : jl_add (l : Int) 1 = ((l + 1 : Nat) : Int) := by rw [jp_add (by omega) (by omega)]; omega
      have eb : jl_and (jl_shr (ks_belB Z Ds a) (l : Int)) 1 = if ks_bel Z Ds a l = true then 1 else 0 := ku_b_bit _ h8.2 hl
      have f2 : jp_fr [(192, 0, 0)] τ (jl_up τ 192 23 (if ks_bel Z Ds a l = true then 1 else 0)) := jp_fr.rf.up (by decide)
      have F2 : jp_fr kc_FW s (jl_up τ 192 23 (if ks_bel Z Ds a l = true then 1 else 0)) := hf.up (by decide)
      have g23 : jl_g (jl_up τ 192 23 (if ks_bel Z Ds a l = true then 1 else 0)) 192 23 = if ks_bel Z Ds a l = true then 1 else 0 := by split <;> exact jp_g_eq (by decide) (by decide)
      have I2 : ∀ j, j < ks_nw Z → jl_g (jl_up τ 192 23 (if ks_bel Z Ds a l = true then 1 else 0)) 194 j = ks_in Z a (j : Int) := fun j hj => by rw [jp_g_ne (by decide)]; exact hI j hj
      have unf : jf_X5_answer_L66 (g + 1) 40 3 w (ks_belB Z Ds a) (kq_a w (kq_v Z Ds a D) l) (l : Int) τ = jl_bd (jf_X5_reckon 40 (l : Int) 3 0 (jl_up τ 192 23 (if ks_bel Z Ds a l = true then 1 else 0))) (fun r9 s10 => jl_bd (jf_X5_joined w (kq_a w (kq_v Z Ds a D) l) (l : Int) r9 s10) (fun r11 s12 => jf_X5_answer_L66 g 40 3 w (ks_belB Z Ds a) r11 ((l + 1 : Nat) : Int) s12)) := by
        rw [jf_X5_answer_L66, N.1.g, N.1.gr, N.1.n3, if_neg (by omega), eb, jp_lm, ea]
        rfl
      generalize jl_up τ 192 23 (if ks_bel Z Ds a l = true then 1 else 0) = s2 at *
      obtain ⟨N2, C2⟩ := NW F2
      obtain ⟨s3, t3, f3, -⟩ := kc_reckon (q1 := 40) (q3 := 3) (w := 0) (D0 := Ds 0) (held := if ks_bel Z Ds a l = true then 1 else 0) (Or.inl rfl) N2.1 hV.1 N2.2.2 hl (by decide +kernel) (by decide) (by decide) (N2.2.1 hw0 0 (by decide)) (hV.2.1 hw0).1 C2 hT (by split <;> decide) (fun _ => g23)
        (fun c _ hc v _ υ fυ => by
          have nR : ∀ {c i : Nat}, c ≠ 191 → c ≠ 192 → jp_in [(191, 0, 0), (192, 0, 0)] c i = false := by intro c i h1 h2; simp [jp_in]; omega
          exact kc_wof (N2.1.fr fυ (nR (by omega) (by omega)) (nR (by omega) (by omega)) (fun c i _ _ => nR (by omega) (by omega))) (N2.2.2.fr fυ (nR (by omega) (by omega)) (nR (by omega) (by omega)) (fun c i _ _ => nR (by omega) (by omega))) (fun i hi => (fυ.g _ _ (nR (by omega) (by omega))).trans (I2 i hi)) hc)
      have vb := (kq_v_b (Ds := Ds) N2.1.1 hV.1 hl hT).1
      have ab := kq_a_b (w := w) (f := kq_v Z Ds a D) l (by omega) (fun k hk => (kq_v_b (Ds := Ds) N2.1.1 hV.1 (show k < ks_nl Z by omega) hT).1)
      have ej := kc_joined (s := s3) hw (show l < 8 by omega) (show -9000000 ≤ kq_a w (kq_v Z Ds a D) l ∧ kq_a w (kq_v Z Ds a D) l ≤ 9000000 by omega) vb
      have t3' : jf_X5_reckon 40 (l : Int) 3 0 s2 = some (kq_v Z Ds a D l, s3) := t3
      refine ⟨s3, ?_, F2.tr (f3.w (by decide)), fun j hj => (f3.g _ _ (by simp [jp_in])).trans (I2 j hj)⟩
      show jf_X5_answer_L66 (g + 1) 40 3 w (ks_belB Z Ds a) (kq_a w (kq_v Z Ds a D) l) (l : Int) τ = _
      rw [unf, t3', jp_bd, ej, jp_bd]
      rfl
    · obtain ⟨hf, -⟩ := hI
      obtain ⟨N, -⟩ := NW hf
      show jE (jf_X5_answer_L66 (g + 1) 40 3 w (ks_belB Z Ds a) (kq_a w (kq_v Z Ds a D) (ks_nl Z)) ((ks_nl Z : Nat) : Int) τ) _ _ _ _
      rw [jf_X5_answer_L66, N.1.g, N.1.gr, N.1.n3, if_pos (Int.le_refl _)]
      exact ⟨τ, rfl, hf, trivial⟩
/-- the reference -/
theorem kr_wof {Z : jz_Z} {a : Nat → Int} {c v x : Int} {s : jl_Mm} (hW : kr_W Z s) (hA : kr_A a s) (hv : kv_b v) (hc : c = 60 ∨ c = 61) : jf_X12_qOf (c - 60) v x s = some (ks_oo Z a c v, s) := by
  have h8 := hW.1.l
  have h30 := hW.1.w
  have e2 := ku_l2i hv.n3
  have b1 : ∀ k t, jf_X12_qOf_B43 k t = some (k, t) := fun _ _ => rfl
  have b2 : ∀ k t, jf_X12_qOf_B63 k t = some (k, t) := fun _ _ => rfl
  rw [jf_X12_qOf, ks_oo, e2, hW.isL hv.n3, hW.isW hv.n3, jp_bd, jp_bd]
  rcases hc with rfl | rfl
  · rw [if_pos (show (60 : Int) - 60 = 0 by decide), if_pos (show (60 : Int) = 60 from rfl)]
    by_cases z : 0 ≤ v ∧ v < ((ks_nl Z : Nat) : Int)
    · have ea : jl_add 8 v = ((8 + v.toNat : Nat) : Int) := by rw [jp_add (by omega) (by omega)]; omega
      rw [if_pos z, if_neg (by decide), if_pos z, ea, if_pos (by omega), Int.toNat_natCast, b1, hA _ (by omega)]
    · rw [if_neg z, if_pos rfl, b1, if_neg z]
  · rw [if_neg (show ¬ (61 : Int) - 60 = 0 by decide), if_neg (show ¬ (61 : Int) = 60 by decide)]
    by_cases z : 0 ≤ v ∧ v < ((ks_nw Z : Nat) : Int)
    · rw [if_pos z, if_neg (by decide), if_pos z, kr_inW hW hA, jp_bd, b2]
    · rw [if_neg z, if_pos rfl, b2, if_neg z]
theorem kr_takes {k acc v : Int} {l : Nat} {s : jl_Mm} (hk : 0 ≤ k ∧ k ≤ 5) (hl : l < 8) (ha : -9000000 ≤ acc ∧ acc ≤ 9000000) (hv : kv_b v) (hv3 : k < 3 → v = 0 ∨ v = 1) (h107 : jl_gl s 206 107 = acc) (h108 : jl_g s 206 108 = if l = 0 then 1 else 0) :
    ∃ τ, jf_X12_qTakes k v (l : Int) s = some (0, τ) ∧ jp_fr [(206, 107, 109)] s τ ∧ jl_gl τ 206 107 = kq_j (k + 32) l acc v ∧ jl_g τ 206 108 = 0 := by
  obtain ⟨v1, v2⟩ := hv
  have na : jl_n6 acc := ⟨by omega, by omega⟩
  have nv : jl_n6 v := ⟨by omega, by omega⟩
  have el := kr_lt na (⟨by decide, by decide⟩ : jl_n6 (-1))
  have e1 := kr_lt nv (⟨by decide, by decide⟩ : jl_n6 1)
  have ev := kr_lt nv na
  have fin : ∀ (x : Int) (t : jl_Mm), jp_fr [(206, 107, 109)] s t → jl_gl t 206 107 = x → ∃ τ, jf_X12_qTakes_B133 t = some (0, τ) ∧ jp_fr [(206, 107, 109)] s τ ∧ jl_gl τ 206 107 = x ∧ jl_g τ 206 108 = 0 := fun x t ft ex => by
    refine ⟨jl_up t 206 108 0, by rw [jf_X12_qTakes_B133, jp_lm], ft.up (by decide), ?_, jp_g_eq (by decide) (by decide)⟩
    rw [jp_gl_nei (by decide)]; exact ex
  have keep := fin acc s jp_fr.rf h107
  have set : ∀ x : Int, -20000000 ≤ x ∧ x ≤ 20000000 → ∃ τ, jf_X12_qTakes_B133 (jl_up s 206 107 x) = some (0, τ) ∧ jp_fr [(206, 107, 109)] s τ ∧ jl_gl τ 206 107 = x ∧ jl_g τ 206 108 = 0 := fun x hx => fin x _ (jp_fr.rf.up (by decide)) (jp_gl_eq (by omega) (by omega))
  rw [jf_X12_qTakes, jf_X12_qTakes_B15, kq_j]
  by_cases c3 : 3 ≤ k
  · rw [if_pos c3, jf_X12_qTakes_B16, if_neg (show ¬ k = 0 by omega), jf_X12_qTakes_B38, if_neg (show ¬ k = 1 by omega), jf_X12_qTakes_B55, if_neg (show ¬ k = 2 by omega), jf_X12_qTakes_B75, if_neg (show ¬ k + 32 = 32 by omega), if_neg (show ¬ k + 32 = 33 by omega), if_neg (show ¬ k + 32 = 34 by omega)]
    by_cases k3 : k = 3
    · rw [if_pos k3, if_pos (show k + 32 = 35 by omega), h107, jp_ladd (by omega) (by omega), jp_lm, jf_X12_qTakes_B90, if_pos (show k ≤ 3 by omega)]
      exact set _ (by omega)
    rw [if_neg k3, if_neg (show ¬ k + 32 = 35 by omega), jf_X12_qTakes_B90, if_neg (show ¬ k ≤ 3 by omega), h108, h107]
    by_cases z : l = 0
    · rw [if_pos z, if_neg (by decide), jf_X12_qTakes_B128, jp_lm, if_pos z, if_pos z]
      have : (if k + 32 = 36 then v else v) = v := by split <;> rfl
      rw [this]
      exact set _ (by omega)
    · rw [if_neg z, if_pos rfl, if_neg z, if_neg z, jf_X12_qTakes_B128, jp_lm]
      by_cases k4 : k = 4
      · rw [if_pos k4, if_pos (show k + 32 = 36 by omega)]
        by_cases y : v ≤ acc
        · rw [if_pos (ev.2.1.mpr (by omega)), if_pos y]; exact keep
        · rw [if_neg (fun q => ev.2.1.mp q (by omega)), if_neg y]; exact set _ (by omega)
      · rw [if_neg k4, if_neg (show ¬ k + 32 = 36 by omega)]
        by_cases y : acc ≤ v
        · rw [if_pos (ev.1.mpr (by omega)), if_pos y]; exact keep
        · rw [if_neg (fun q => ev.1.mp q (by omega)), if_neg y]; exact set _ (by omega)
  · have tail : ∀ (x : Int) (t : jl_Mm) (u : Int), (k = 2 → u = 0) → jp_fr [(206, 107, 109)] s t → jl_gl t 206 107 = x → ∃ τ, jf_X12_qTakes_B55 k v u t = some (0, τ) ∧ jp_fr [(206, 107, 109)] s τ ∧ jl_gl τ 206 107 = x ∧ jl_g τ 206 108 = 0 := fun x t u hu ft ex => by
      rw [jf_X12_qTakes_B55, jf_X12_qTakes_B75, if_neg (show ¬ k = 3 by omega), jf_X12_qTakes_B90, if_pos (show k ≤ 3 by omega)]
      by_cases k2 : k = 2
      · rw [if_pos k2, if_pos (hu k2)]; exact fin x t ft ex
      · rw [if_neg k2]; exact fin x t ft ex
    have hv01 := hv3 (by omega)
    rw [if_neg c3]
    by_cases z : v = 1
    · rw [if_pos (e1.2.2.mpr z), jf_X12_qTakes_B16]
      by_cases k0 : k = 0
      · rw [if_pos k0, if_neg (show ¬ (1 : Int) = 0 by decide), h107, if_pos (show k + 32 = 32 by omega)]
        by_cases y : acc = -1
        · rw [if_pos (el.2.2.mpr y), jf_X12_qTakes_B48, jp_lm, if_pos y, if_neg (show ¬ v = 0 by omega)]
          exact tail _ _ 1 (fun q => by omega) (jp_fr.rf.up (by decide)) (jp_gl_eq (by omega) (by omega))
        · rw [if_neg (fun q => y (el.2.2.mp q)), jf_X12_qTakes_B38, if_neg (show ¬ k = 1 by omega), if_neg y]
          exact tail _ _ 1 (fun q => by omega) jp_fr.rf h107
      rw [if_neg k0, jf_X12_qTakes_B38, if_neg (show ¬ k + 32 = 32 by omega)]
      by_cases k1 : k = 1
      · rw [if_pos k1, if_neg (show ¬ (1 : Int) = 0 by decide), jf_X12_qTakes_B48, jp_lm, if_pos (show k + 32 = 33 by omega), if_neg (show ¬ v = 0 by omega)]
        exact tail _ _ 1 (fun q => by omega) (jp_fr.rf.up (by decide)) (jp_gl_eq (by omega) (by omega))
      · rw [if_neg k1, if_neg (show ¬ k + 32 = 33 by omega), if_pos (show k + 32 = 34 by omega), jf_X12_qTakes_B55, if_pos (show k = 2 by omega), if_neg (show ¬ (1 : Int) = 0 by decide), h107, jp_ladd (by omega) (by omega), jp_lm, jf_X12_qTakes_B75, if_neg (show ¬ k = 3 by omega), jf_X12_qTakes_B90, if_pos (show k ≤ 3 by omega), z]
        exact set _ (by omega)
    · have z0 : v = 0 := by omega
      rw [if_neg (fun q => z (e1.2.2.mp q)), jf_X12_qTakes_B16]
      have t0 := tail acc s 0 (fun _ => rfl) jp_fr.rf h107
      have b38 : jf_X12_qTakes_B38 k v (l : Int) 0 s = jf_X12_qTakes_B55 k v 0 s := by
        rw [jf_X12_qTakes_B38]
        by_cases k1 : k = 1
        · rw [if_pos k1, if_pos rfl]
        · rw [if_neg k1]
      have e : (if k + 32 = 32 then (if acc = -1 then (if v = 0 then acc else (l : Int)) else acc) else if k + 32 = 33 then (if v = 0 then acc else (l : Int)) else if k + 32 = 34 then acc + v else if k + 32 = 35 then acc + v else if k + 32 = 36 then (if l = 0 then v else if v ≤ acc then acc else v) else (if l = 0 then v else if acc ≤ v then acc else v)) = acc := by
        by_cases k0 : k = 0
        · rw [if_pos (show k + 32 = 32 by omega), if_pos z0]; split <;> rfl
        rw [if_neg (show ¬ k + 32 = 32 by omega)]
        by_cases k1 : k = 1
        · rw [if_pos (show k + 32 = 33 by omega), if_pos z0]
        rw [if_neg (show ¬ k + 32 = 33 by omega), if_pos (show k + 32 = 34 by omega)]; omega
      rw [e, b38]
      by_cases k0 : k = 0
      · rw [if_pos k0, if_pos rfl]; exact t0
      · rw [if_neg k0]; exact t0
/-- what the reference's answer writes -/
def kr_FAn9 : jp_F := [(206, 57, 60), (206, 106, 109), (206, 55, 56), (250, 0, 0), (284, 0, 0)]
theorem kr_FAn9n {c i : Nat} (h : c ≠ 250 ∧ c ≠ 284) (h2 : c = 206 → (i < 57 ∨ 59 < i) ∧ (i < 106 ∨ 108 < i) ∧ i ≠ 55) : jp_in kr_FAn9 c i = false := by simp [jp_in, kr_FAn9]; omega
theorem kr_answer {Z : jz_Z} {Ds : Nat → List Int} {a : Nat → Int} {D : List Int} {k : Int} {s : jl_Mm} (hN : kr_N Z Ds a s) (hV : kz_N Z Ds a) (hT : jq_ty D [] = some [decide (k < 3)]) (hk : 0 ≤ k ∧ k ≤ 5) (hl6 : D.length ≤ 1600) (h100 : jl_g s 206 100 = (D.length : Int)) (h282 : ∀ i (h : i < D.length), jl_g s 282 i = D[i]) :
    jE (jf_X12_ask_B173 k (kq_a0 (k + 32)) s) (kq_a (k + 32) (kq_v Z Ds a D) (ks_nl Z)) kr_FAn9 s (fun _ => True) := by
  have h8 := hN.1.1.l
  have h30 := hN.1.1.w
  have a0b : -1 ≤ kq_a0 (k + 32) ∧ kq_a0 (k + 32) ≤ 0 := by rw [kq_a0]; split <;> omega
  have F1 : jp_fr kr_FAn9 s (jl_up (jl_up s 206 107 (kq_a0 (k + 32))) 206 108 1) := (jp_fr.rf.up (by decide)).up (by decide)
  have g107 : jl_gl (jl_up (jl_up s 206 107 (kq_a0 (k + 32))) 206 108 1) 206 107 = kq_a0 (k + 32) := by rw [jp_gl_nei (by decide), jp_gl_eq (by omega) (by omega)]
  have g108 : jl_g (jl_up (jl_up s 206 107 (kq_a0 (k + 32))) 206 108 1) 206 108 = 1 := jp_g_eq (by decide) (by decide)
  have NW : ∀ {τ}, jp_fr kr_FAn9 s τ → kr_W Z τ ∧ kr_K Z Ds τ ∧ kr_A a τ := fun f => ⟨hN.1.fr f (fun c i _ _ => kr_FAn9n (by omega) (by omega)), hN.2.1.fr f (fun c i _ _ => kr_FAn9n (by omega) (by omega)), hN.2.2.1.fr f (fun i => kr_FAn9n (by omega) (by omega))⟩
  rw [jf_X12_ask_B173, jp_lm, jp_lm]
  generalize jl_up (jl_up s 206 107 (kq_a0 (k + 32))) 206 108 1 = s1 at *
  obtain ⟨W1, K1, A1⟩ := NW F1
  obtain ⟨s2, t2, f2, r2⟩ := kr_held W1 hV.1 A1 K1 hV.2.1
  have F2 : jp_fr kr_FAn9 s s2 := F1.tr (f2.ws (by intro c i h; simp [jp_in, kr_FH, kr_FAn9] at h ⊢; omega))
  obtain ⟨bv, hb1, hb2⟩ := ku_b_v (ks_bel Z Ds a) (ks_nl Z) h8.2
  have hb1' : ks_belB Z Ds a = (bv : Int) := hb1
  have b256 : bv < 256 := Nat.lt_of_lt_of_le hb2 (Nat.le_trans (Nat.pow_le_pow_right (by decide) h8.2) (by decide))
  have F3 : jp_fr kr_FAn9 s (jl_up s2 206 59 (ks_belB Z Ds a)) := F2.up (by decide)
  have g59 : jl_g (jl_up s2 206 59 (ks_belB Z Ds a)) 206 59 = ks_belB Z Ds a := jp_g_eq (by omega) (by omega)
  have g107' : jl_gl (jl_up s2 206 59 (ks_belB Z Ds a)) 206 107 = kq_a0 (k + 32) := by rw [jp_gl_nei (by decide)]; exact (f2.gl _ _ (by decide)).trans g107
  have g108' : jl_g (jl_up s2 206 59 (ks_belB Z Ds a)) 206 108 = 1 := by rw [jp_g_nei (by decide)]; exact (f2.g _ _ (by decide)).trans g108
  have g250 : ∀ w, w < ks_nw Z → jl_g (jl_up s2 206 59 (ks_belB Z Ds a)) 250 w = ks_dr (Ds 0) (a 0) (w : Int) := fun w hw => by rw [jp_g_ne (by decide)]; exact r2 w hw
  rw [t2, jp_bd, jp_lm]
  generalize jl_up s2 206 59 (ks_belB Z Ds a) = s3 at *
  refine ku_for (α := jl_Mm) (G := fun g l τ => jf_X12_ask_L191 g k ((l : Nat) : Int) τ) (N := ks_nl Z) (P := fun o => jE o (kq_a (k + 32) (kq_v Z Ds a D) (ks_nl Z)) kr_FAn9 s (fun _ => True)) (I := fun l τ => jp_fr kr_FAn9 s τ ∧ (jl_g τ 206 59 = ks_belB Z Ds a ∧ jl_gl τ 206 107 = kq_a (k + 32) (kq_v Z Ds a D) l ∧ jl_g τ 206 108 = if l = 0 then 1 else 0) ∧ ∀ w, w < ks_nw Z → jl_g τ 250 w = ks_dr (Ds 0) (a 0) (w : Int)) (fun g l τ hl hI => Or.inr ?_) (fun g τ hI => ?_) (ks_nl Z) 0 jl_fu s3 (Nat.zero_add _) (by show ks_nl Z < 4000; omega) ⟨F3, ⟨g59, g107', by rw [if_pos rfl]; exact g108'⟩, g250⟩
  · obtain ⟨hf, ⟨i59, i107, i108⟩, i250⟩ := hI
    obtain ⟨W, K, A⟩ := NW hf
    have ea : jl_add (l : Int) 1 = ((l + 1 : Nat) : Int) := by rw [jp_add (by omega) (by omega)]; omega
    have hol := W.1.o hl
    have hwb := hV.1.2.2.1 _ hol.2.1
    have eb : jl_and (jl_shr (ks_belB Z Ds a) (l : Int)) 1 = if ks_bel Z Ds a l = true then 1 else 0 := ku_b_bit _ h8.2 hl
    have f4 : jp_fr [(206, 57, 58)] τ (jl_up τ 206 57 (l : Int)) := jp_fr.rf.up (by decide)
    have n4 : ∀ {c i : Nat}, (c = 206 → i ≠ 57) → jp_in [(206, 57, 58)] c i = false := by intro c i h; simp [jp_in]; omega
    have W4 := W.fr f4 (fun c i _ _ => n4 (by omega))
    have A4 := A.fr f4 (fun i => n4 (by intro z; omega))
    have e4 := kr_win W4 A4 hl
    have F5 : jp_fr kr_FAn9 s (jl_up (jl_up τ 206 57 (l : Int)) 206 58 (a (2 + ks_ow Z l))) := (hf.up (by decide)).up (by decide)
    have F6 : jp_fr kr_FAn9 s (jl_up (jl_up (jl_up τ 206 57 (l : Int)) 206 58 (a (2 + ks_ow Z l))) 206 106 0) := F5.up (by decide)
    have f6 : jp_fr [(206, 57, 59), (206, 106, 107)] τ (jl_up (jl_up (jl_up τ 206 57 (l : Int)) 206 58 (a (2 + ks_ow Z l))) 206 106 0) := ((jp_fr.rf.up (by decide)).up (by decide)).up (by decide)
    have g57 : jl_g (jl_up (jl_up (jl_up τ 206 57 (l : Int)) 206 58 (a (2 + ks_ow Z l))) 206 106 0) 206 57 = (l : Int) := by rw [jp_g_nei (by decide), jp_g_nei (by decide), jp_g_eq (by omega) (by omega)]
    have g58 : jl_g (jl_up (jl_up (jl_up τ 206 57 (l : Int)) 206 58 (a (2 + ks_ow Z l))) 206 106 0) 206 58 = a (2 + ks_ow Z l) := by rw [jp_g_nei (by decide), jp_g_eq (by omega) (by omega)]
    have g106 : jl_g (jl_up (jl_up (jl_up τ 206 57 (l : Int)) 206 58 (a (2 + ks_ow Z l))) 206 106 0) 206 106 = 0 := jp_g_eq (by decide) (by decide)
    have unf : jf_X12_ask_L191 (g + 1) k (l : Int) τ = jl_bd (jf_X12_qTold_L7 jl_fu (l : Int) 0 (jl_up (jl_up (jl_up τ 206 57 (l : Int)) 206 58 (a (2 + ks_ow Z l))) 206 106 0)) (fun r34 s35 => jl_bd (jf_X12_qTakes k r34 (l : Int) s35) (fun _ s37 => jf_X12_ask_L191 g k ((l + 1 : Nat) : Int) s37)) := by
      rw [jf_X12_ask_L191, W.nl, jp_bd, if_neg (by omega), jp_lm, e4, jp_bd, jp_lm, jf_X12_qTold, jp_lm, ea]
    clear f4
    generalize jl_up (jl_up (jl_up τ 206 57 (l : Int)) 206 58 (a (2 + ks_ow Z l))) 206 106 0 = s6 at *
    obtain ⟨W6, K6, A6⟩ := NW F6
    have nP : ∀ {c i : Nat}, c ≠ 284 → (c = 206 → i ≠ 106) → jp_in kr_FP c i = false := by intro c i h1 h2; simp [jp_in, kr_FP]; omega
    have n6 : ∀ {c i : Nat}, (c = 206 → i ≠ 57 ∧ i ≠ 58 ∧ i ≠ 106) → jp_in [(206, 57, 59), (206, 106, 107)] c i = false := by intro c i h; simp [jp_in]; omega
    have i59' : jl_g s6 206 59 = ks_belB Z Ds a := (f6.g _ _ (n6 (by omega))).trans i59
    have i250' : ∀ w, w < ks_nw Z → jl_g s6 250 w = ks_dr (Ds 0) (a 0) (w : Int) := fun w hw => (f6.g _ _ (n6 (by omega))).trans (i250 w hw)
    have c100 : jl_g s6 206 100 = (D.length : Int) := (F6.g _ _ (kr_FAn9n (by omega) (by omega))).trans h100
    have c282 : ∀ i (h : i < D.length), jl_g s6 282 (0 + i) = D[i] := fun i hi => by rw [Nat.zero_add]; exact (F6.g _ _ (kr_FAn9n (by omega) (by omega))).trans (h282 i hi)
    have envb := fun c => ks_env_b (Z := Z) (D := Ds 0) (a := a) (held := if ks_bel Z Ds a l = true then 1 else 0) (l := l) W6.1 hV.1 hl (by split <;> decide) c
    have vok := kv_val_ok (env := ks_env Z (Ds 0) a (if ks_bel Z Ds a l = true then 1 else 0) l) (of := ks_oo Z a) hT (fun c _ _ _ => envb c) (fun c _ _ v _ => ks_oo_b W6.1 hV.1 c v)
    obtain ⟨s7, t7, f7, -⟩ := kr_toldL (w := (l : Int)) (env := ks_env Z (Ds 0) a (if ks_bel Z Ds a l = true then 1 else 0) l) (of := ks_oo Z a) (s0 := s6) hl6 c100 D jl_fu 0 [] [decide (k < 3)] [] s6 (kq_v Z Ds a D l) (Nat.zero_add _) (by show D.length < 4000; omega) trivial (Nat.zero_le _) hT ⟨g106, trivial⟩ jp_fr.rf c282
      (fun c _ h1 h2 => ⟨envb c, fun υ fυ => kr_part (W6.fr fυ (fun c i _ _ => nP (by omega) (by omega))) hV.1 (A6.fr fυ (fun i => nP (by omega) (by omega))) hl ((fυ.g _ _ (nP (by omega) (by omega))).trans g57) (fun w hw => (fυ.g _ _ (nP (by omega) (by omega))).trans (i250' w hw)) ⟨h1, h2⟩ (fun _ => (fυ.g _ _ (nP (by omega) (by omega))).trans g58) (fun _ => by rw [fυ.g _ _ (nP (by omega) (by omega)), i59', eb])⟩)
      (fun c _ hc v hv => ⟨ks_oo_b W6.1 hV.1 c v, fun υ fυ => kr_wof (W6.fr fυ (fun c i _ _ => nP (by omega) (by omega))) (A6.fr fυ (fun i => nP (by omega) (by omega))) hv hc⟩) vok.1
    have t7' : jf_X12_qTold_L7 jl_fu (l : Int) 0 s6 = some (kq_v Z Ds a D l, s7) := t7
    have F7 : jp_fr kr_FAn9 s s7 := F6.tr (f7.ws (by intro c i h; simp [jp_in, kr_FP, kr_FAn9] at h ⊢; omega))
    have vb := kq_v_b (Ds := Ds) W6.1 hV.1 hl hT
    have ab := kq_a_b (w := k + 32) (f := kq_v Z Ds a D) l (by omega) (fun j hj => (kq_v_b (Ds := Ds) W6.1 hV.1 (show j < ks_nl Z by omega) hT).1)
    have j107 : jl_gl s7 206 107 = kq_a (k + 32) (kq_v Z Ds a D) l := (f7.gl _ _ (nP (by omega) (by omega))).trans ((f6.gl _ _ (n6 (by omega))).trans i107)
    have j108 : jl_g s7 206 108 = if l = 0 then 1 else 0 := (f7.g _ _ (nP (by omega) (by omega))).trans ((f6.g _ _ (n6 (by omega))).trans i108)
    obtain ⟨s8, t8, f8, x107, x108⟩ := kr_takes (l := l) hk (by omega) (by omega) vb.1 (fun q => vb.2 (decide_eq_true q)) j107 j108
    have n8 : ∀ {c i : Nat}, (c = 206 → i ≠ 107 ∧ i ≠ 108) → jp_in [(206, 107, 109)] c i = false := by intro c i h; simp [jp_in]; omega
    refine ⟨s8, ?_, F7.tr (f8.ws (by intro c i h; simp [jp_in, kr_FAn9] at h ⊢; omega)), ⟨?_, ?_, ?_⟩, fun w hw => ?_⟩
    · show jf_X12_ask_L191 (g + 1) k (l : Int) τ = _
      rw [unf, t7', jp_bd, t8, jp_bd]
    · exact (f8.g _ _ (n8 (by omega))).trans ((f7.g _ _ (nP (by omega) (by omega))).trans i59')
    · rw [x107]; rfl
    · rw [x108, if_neg (by omega)]
    · exact (f8.g _ _ (n8 (by omega))).trans ((f7.g _ _ (nP (by omega) (by omega))).trans (i250' w hw))
  · obtain ⟨hf, ⟨-, i107, -⟩, -⟩ := hI
    obtain ⟨W, K, A⟩ := NW hf
    show jE (jf_X12_ask_L191 (g + 1) k ((ks_nl Z : Nat) : Int) τ) _ _ _ _
    rw [jf_X12_ask_L191, W.nl, jp_bd, if_pos (Int.le_refl _), i107]
    exact ⟨τ, rfl, hf, trivial⟩
