/-! PURE, both: who is believed; the class -/
def ks_val (Z : jz_Z) (Ds : Nat → List Int) (a : Nat → Int) (w l : Nat) : Int := kv_val (ks_env Z (Ds 0) a 0 l) (ks_oo Z a) (Ds w)
def ks_cond (Z : jz_Z) (Ds : Nat → List Int) (a : Nat → Int) (B : Nat → Bool) (l : Nat) : Bool := decide (0 < a (8 + l) ∧ (Z.2.1 6 l < 0 ∨ B (Z.2.1 6 l).toNat = true) ∧ ks_val Z Ds a 2 l = 1)
def ks_belS (Z : jz_Z) (Ds : Nat → List Int) (a : Nat → Int) : Nat → Nat → Bool
  | 0 => fun _ => false
  | n + 1 => fun k => if k = n then ks_cond Z Ds a (ks_belS Z Ds a n) n else ks_belS Z Ds a n k
/-- the LIES that are believed -/
def ks_bel (Z : jz_Z) (Ds : Nat → List Int) (a : Nat → Int) : Nat → Bool := ks_belS Z Ds a (ks_nl Z)
def ks_belB (Z : jz_Z) (Ds : Nat → List Int) (a : Nat → Int) : Int := ku_b (ks_bel Z Ds a) (ks_nl Z)
theorem ks_bel_b (Z : jz_Z) (Ds : Nat → List Int) (a : Nat → Int) (n : Nat) : ku_b (ks_belS Z Ds a (n + 1)) (n + 1) = if ks_cond Z Ds a (ks_belS Z Ds a n) n = true then jl_or (ku_b (ks_belS Z Ds a n) n) (jl_shl 1 ((n : Nat) : Int)) else ku_b (ks_belS Z Ds a n) n := by
  have e : ku_b (ks_belS Z Ds a (n + 1)) n = ku_b (ks_belS Z Ds a n) n := ku_b_cg n (fun k hk => by
    show (if k = n then _ else ks_belS Z Ds a n k) = _
    rw [if_neg (by omega)])
  have c : ks_belS Z Ds a (n + 1) n = ks_cond Z Ds a (ks_belS Z Ds a n) n := if_pos rfl
  rw [ku_b, c, e]
theorem ku_or0 : ∀ v, v < 256 → jl_or ((v : Nat) : Int) 0 = ((v : Nat) : Int) := by decide +kernel
theorem ku_sh0 : ∀ k, k < 8 → jl_shl 0 ((k : Nat) : Int) = 0 := by decide +kernel
theorem ku_b_or0 (p : Nat → Bool) {n : Nat} (hn : n ≤ 8) : jl_or (ku_b p n) 0 = ku_b p n := by
  obtain ⟨v, hv, hl⟩ := ku_b_v p n hn
  have h8 : (2 : Nat) ^ n ≤ 2 ^ 8 := Nat.pow_le_pow_right (by decide) hn
  have h7 : (2 : Nat) ^ 8 = 256 := by decide
  rw [hv]; exact ku_or0 v (by omega)
theorem ks_val_ok {Z : jz_Z} {Ds : Nat → List Int} {a : Nat → Int} {l : Nat} (hZ : kz_V Z) (hV : ks_V Z a) (hT : kz_K Z Ds) (hl : l < ks_nl Z) : (ks_val Z Ds a 2 l = 0 ∨ ks_val Z Ds a 2 l = 1) ∧ kv_b (ks_val Z Ds a 1 l) := by
  obtain ⟨T0, T1, T2⟩ := hT (kz_nw hZ hV hl)
  have he : ∀ c : Int, kv_b (ks_env Z (Ds 0) a 0 l c) := ks_env_b hZ hV hl ⟨by decide, by decide⟩
  have x2 := (kv_val_ok (env := ks_env Z (Ds 0) a 0 l) (of := ks_oo Z a) T2.1 (fun c _ _ _ => he c) (fun c _ _ v _ => ks_oo_b hZ hV c v)).2
  have x1 := (kv_val_ok (env := ks_env Z (Ds 0) a 0 l) (of := ks_oo Z a) T1.1 (fun c _ _ _ => he c) (fun c _ _ v _ => ks_oo_b hZ hV c v)).2
  rw [if_pos rfl] at x2
  rw [if_neg (by decide)] at x1
  exact ⟨x2, x1⟩
def kc_FR : jp_F := [(191, 0, 0), (192, 0, 0)]
theorem kc_FRn {c i : Nat} (h1 : c ≠ 191) (h2 : c ≠ 192) : jp_in kc_FR c i = false := by simp [jp_in, kc_FR]; omega
theorem kc_W.frR {H : Nat} {Z : jz_Z} {s τ : jl_Mm} (h : kc_W H Z s) (f : jp_fr kc_FR s τ) : kc_W H Z τ := h.fr f (by decide) (by decide) (fun c i _ _ => kc_FRn (by omega) (by omega))
theorem kc_A.frR {P9 : Nat} {q : Nat} {a : Nat → Int} {s τ : jl_Mm} (h : kc_A P9 q a s) (hq : kc_q q) (f : jp_fr kc_FR s τ) : kc_A P9 q a τ := by
  have qn : ∀ c, q ≤ c → c < q + 4 → c ≠ 191 ∧ c ≠ 192 := by intro c x y; rcases hq with rfl | rfl <;> omega
  exact h.fr f (kc_FRn (qn q (by omega) (by omega)).1 (qn q (by omega) (by omega)).2) (kc_FRn (qn q (by omega) (by omega)).1 (qn q (by omega) (by omega)).2) (fun c i x y => kc_FRn (qn c (by omega) y).1 (qn c (by omega) y).2)
theorem kc_K.frR {H : Nat} {Z : jz_Z} {Ds : Nat → List Int} {s τ : jl_Mm} (h : kc_K H Z Ds s) (hH : jz_Hq H) (f : jp_fr kc_FR s τ) : kc_K H Z Ds τ := h.fr hH f (fun c i _ _ => kc_FRn (by omega) (by omega))
theorem kc_bel {H q : Nat} {Z : jz_Z} {Ds : Nat → List Int} {a : Nat → Int} {s : jl_Mm} (hq : kc_q q) (hW : kc_W H Z s) (hV : ks_V Z a) (hA : kc_A (ks_np Z) q a s) (hK : kc_K H Z Ds s) (hT : kz_K Z Ds) : jE (jf_X5_believed q s) (ks_belB Z Ds a) kc_FR s (fun _ => True) := by
  have hn := hW.1.l
  rw [jf_X5_believed, if_pos (kc_q7 hq)]
  refine ku_for (α := jl_Mm) (G := fun n k τ => jf_X5_believed_L4 n q (ku_b (ks_belS Z Ds a k) k) ((k : Nat) : Int) τ) (N := ks_nl Z) (P := fun o => jE o (ks_belB Z Ds a) kc_FR s (fun _ => True)) (I := fun _ τ => jp_fr kc_FR s τ) (fun n k τ hk hf => ?_) (fun n τ hf => ?_) (ks_nl Z) 0 jl_fu s (Nat.zero_add _) (by show ks_nl Z < 4000; omega) jp_fr.rf
  · have W := hW.frR hf
    have A := hA.frR hq hf
    have K := hK.frR hW.2.1 hf
    obtain ⟨A0, A1, A2, A3, A4⟩ := A
    have hb := (hW.1.2.2.2.2.2.2.2.1 k (by omega)).2
    refine Or.inr ?_
    show ∃ x', jf_X5_believed_L4 (n + 1) q (ku_b (ks_belS Z Ds a k) k) ((k : Nat) : Int) τ = jf_X5_believed_L4 n q (ku_b (ks_belS Z Ds a (k + 1)) (k + 1)) (((k + 1 : Nat)) : Int) x' ∧ jp_fr kc_FR s x'
    have ek : jl_add (k : Int) 1 = ((k + 1 : Nat) : Int) := jp_add (by omega) (by omega)
    rw [jf_X5_believed_L4, W.g, W.gr, W.n3, if_neg (by omega), W.gH, if_pos (by omega), Int.toNat_natCast, W.b hk, jp_let, ks_bel_b]
    -- with a base that is believed, or none
    have go : (Z.2.1 6 k < 0 ∨ ks_belS Z Ds a k (Z.2.1 6 k).toNat = true) → ∃ x', jf_X5_believed_B46 (jf_X5_believed_L4 n) q (ku_b (ks_belS Z Ds a k) k) ((k : Nat) : Int) 1 τ = jf_X5_believed_L4 n q (if ks_cond Z Ds a (ks_belS Z Ds a k) k = true then jl_or (ku_b (ks_belS Z Ds a k) k) (jl_shl 1 ((k : Nat) : Int)) else ku_b (ks_belS Z Ds a k) k) (((k + 1 : Nat)) : Int) x' ∧ jp_fr kc_FR s x' := by
      intro hB
      rw [jf_X5_believed_B46, if_neg (by decide), if_pos (by omega), Int.toNat_natCast, A3 k (by omega)]
      by_cases z : 0 < a (8 + k)
      · obtain ⟨υ, u1, u2, -⟩ := kc_reckonS (w := 2) hq W hV (hA.frR hq hf) hk K hT (Or.inr rfl)
        rw [if_neg (by omega), W.g, W.gr, show (2 : Int) = ((2 : Nat) : Int) from rfl, u1, jp_bd, jp_let, jf_X5_believed_B81, ek]
        refine ⟨υ, ?_, hf.tr u2⟩
        rcases (ks_val_ok hW.1 hV hT hk).1 with v | v
        · have hp : ks_cond Z Ds a (ks_belS Z Ds a k) k = false := decide_eq_false (fun q => by rw [v] at q; exact absurd q.2.2 (by decide))
          rw [ks_val] at v
          rw [v, ku_sh0 k (by omega), ku_b_or0 _ (by omega), if_neg (by rw [hp]; decide)]
        · have hp : ks_cond Z Ds a (ks_belS Z Ds a k) k = true := decide_eq_true ⟨z, hB, v⟩
          rw [ks_val] at v
          rw [v, if_pos hp]
      · have hp : ks_cond Z Ds a (ks_belS Z Ds a k) k = false := decide_eq_false (fun q => z q.1)
        rw [if_pos (by omega), jf_X5_believed_B81, ek, if_neg (by rw [hp]; decide)]
        exact ⟨τ, rfl, hf⟩
    by_cases c1 : Z.2.1 6 k < 0
    · rw [if_pos c1, jf_X5_believed_B41]
      exact go (Or.inl c1)
    · obtain ⟨b, hbe⟩ : ∃ b : Nat, Z.2.1 6 k = (b : Int) := ⟨(Z.2.1 6 k).toNat, by omega⟩
      have hbk : b < k := by omega
      have hbit := ku_b_bit (ks_belS Z Ds a k) (b := b) (n := k) (by omega) hbk
      rw [if_neg c1, hbe, hbit]
      by_cases c2 : ks_belS Z Ds a k b = true
      · rw [if_pos c2, if_pos rfl, jf_X5_believed_B41]
        exact go (Or.inr (by rw [hbe, Int.toNat_natCast]; exact c2))
      · have hp : ks_cond Z Ds a (ks_belS Z Ds a k) k = false := decide_eq_false (fun q => by
          rcases q.2.1 with y | y
          · exact c1 y
          · rw [hbe, Int.toNat_natCast] at y; exact c2 y)
        rw [if_neg c2, if_neg (by decide), jf_X5_believed_B46, if_pos rfl, jf_X5_believed_B81, ek, if_neg (by rw [hp]; decide)]
        exact ⟨τ, rfl, hf⟩
  · have W := hW.frR hf
    show jE (jf_X5_believed_L4 (n + 1) q (ku_b (ks_belS Z Ds a (ks_nl Z)) (ks_nl Z)) ((ks_nl Z : Nat) : Int) τ) (ks_belB Z Ds a) kc_FR s (fun _ => True)
    rw [jf_X5_believed_L4, W.g, W.gr, W.n3, if_pos (Int.le_refl _)]
    exact jE.fr hf (jE.ret trivial)
