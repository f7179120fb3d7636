/-! PURE, the reference: how many alike -/
def kt_way (Z : jz_Z) (Ds : Nat → List Int) (a : Nat → Int) (l h : Nat) (w : Int) (j : Nat) : Int := ks_in Z (ks_hrs Z Ds (ks_u a (8 + l) ((j + 1 : Nat) : Int)) h) w
/-- of the first i lengths: how many fit and show x -/
def kt_tal (Z : jz_Z) (Ds : Nat → List Int) (a : Nat → Int) (d : kD) (m l h : Nat) (w x : Int) (i : Nat) : Int := ku_n (fun j => kt_fit Z Ds a d m l (j + 1) && decide (kt_way Z Ds a l h w j = x)) i
def kt_mst (Z : jz_Z) (Ds : Nat → List Int) (a : Nat → Int) (d : kD) (m l h : Nat) (w : Int) : Nat → Int
  | 0 => 0
  | i + 1 => if kt_fit Z Ds a d m l (i + 1) = true then (if kt_tal Z Ds a d m l h w (kt_way Z Ds a l h w i) (i + 1) ≤ kt_mst Z Ds a d m l h w i then kt_mst Z Ds a d m l h w i else kt_tal Z Ds a d m l h w (kt_way Z Ds a l h w i) (i + 1)) else kt_mst Z Ds a d m l h w i
theorem kt_tal_S {Z : jz_Z} {Ds : Nat → List Int} {a : Nat → Int} {d : kD} {m l h i : Nat} {w x : Int} : kt_tal Z Ds a d m l h w x (i + 1) = if kt_fit Z Ds a d m l (i + 1) = true ∧ kt_way Z Ds a l h w i = x then kt_tal Z Ds a d m l h w x i + 1 else kt_tal Z Ds a d m l h w x i := by
  rw [kt_tal, kt_tal, ku_n]
  by_cases c : kt_fit Z Ds a d m l (i + 1) = true ∧ kt_way Z Ds a l h w i = x
  · rw [if_pos c, if_pos (by rw [c.1, decide_eq_true c.2]; rfl)]
  · rw [if_neg c, if_neg (fun q => c (by rw [Bool.and_eq_true, decide_eq_true_eq] at q; exact q))]
theorem kr_alike {Z : jz_Z} {Ds : Nat → List Int} {a : Nat → Int} {d : kD} {m l h w : Nat} {s : jl_Mm} (hZ : kz_V Z) (hL : kt_L Z Ds a d m l 99 s) (hh : h ≤ 30) (hw : w < ks_nw Z) : jE (jf_X12_mostAlike ((30 * h + w : Nat) : Int) s) (kt_mst Z Ds a d m l h (w : Int) 99) [(256, 0, 0)] s (fun _ => True) := by
  have h30 := hZ.w
  have n1 : ∀ {c i : Nat}, c ≠ 256 → jp_in [(256, 0, 0)] c i = false := by intro c i h; simp [jp_in]; omega
  rw [jf_X12_mostAlike]
  refine ku_for (α := jl_Mm) (G := fun g k τ => jf_X12_mostAlike_L4 g ((30 * h + w : Nat) : Int) 0 ((k : Nat) : Int) τ) (N := 9) (P := fun o => jE o (kt_mst Z Ds a d m l h (w : Int) 99) [(256, 0, 0)] s (fun _ => True)) (I := fun k τ => jp_fr [(256, 0, 0)] s τ ∧ ∀ x, x < k → jl_g τ 256 x = 0) (fun g k τ hk hI => Or.inr ?_) (fun g τ hI => ?_) 9 0 jl_fu s (by decide) (by decide) ⟨jp_fr.rf, fun x hx => by omega⟩
  · obtain ⟨hf, hI⟩ := hI
    have ea : jl_add (k : Int) 1 = ((k + 1 : Nat) : Int) := by rw [jp_add (by omega) (by omega)]; omega
    refine ⟨jl_up τ 256 k 0, ?_, hf.up (by simp [jp_in]), fun x hx => ?_⟩
    · show jf_X12_mostAlike_L4 (g + 1) ((30 * h + w : Nat) : Int) 0 (k : Int) τ = jf_X12_mostAlike_L4 g ((30 * h + w : Nat) : Int) 0 ((k + 1 : Nat) : Int) _
      rw [jf_X12_mostAlike_L4, if_neg (by omega), if_pos (by omega), jp_lm, Int.toNat_natCast, ea]
    · by_cases c : x = k
      · subst c; exact jp_g_eq (by decide) (by decide)
      · rw [jp_g_nei c]; exact hI x (by omega)
  · obtain ⟨hf, hI⟩ := hI
    show jE (jf_X12_mostAlike_L4 (g + 1) ((30 * h + w : Nat) : Int) 0 ((9 : Nat) : Int) τ) _ _ _ _
    rw [jf_X12_mostAlike_L4, if_pos (by decide)]
    refine ku_for (α := jl_Mm) (G := fun g i τ => jf_X12_mostAlike_L25 g ((30 * h + w : Nat) : Int) (kt_mst Z Ds a d m l h (w : Int) i) ((i + 1 : Nat) : Int) τ) (N := 99) (P := fun o => jE o (kt_mst Z Ds a d m l h (w : Int) 99) [(256, 0, 0)] s (fun _ => True)) (I := fun i τ => jp_fr [(256, 0, 0)] s τ ∧ ∀ x : Nat, x < 9 → jl_g τ 256 x = kt_tal Z Ds a d m l h (w : Int) (x : Int) i) (fun g i τ hi hI => Or.inr ?_) (fun g τ hI => ?_) 99 0 jl_fu τ (by decide) (by decide) ⟨hf, hI⟩
    · obtain ⟨hf, hI⟩ := hI
      have L := hL.fr hf (fun i => ⟨n1 (by decide), n1 (by decide)⟩) (n1 (by decide))
      have ea : jl_add ((i + 1 : Nat) : Int) 1 = ((i + 2 : Nat) : Int) := by rw [jp_add (by omega) (by omega)]; omega
      have em : jl_add (jl_mul 930 ((i + 1 : Nat) : Int)) ((30 * h + w : Nat) : Int) = ((930 * (i + 1) + 30 * h + w : Nat) : Int) := by rw [jp_mul (by omega) (by omega), jp_add (by omega) (by omega)]; omega
      show ∃ x, jf_X12_mostAlike_L25 (g + 1) ((30 * h + w : Nat) : Int) (kt_mst Z Ds a d m l h (w : Int) i) ((i + 1 : Nat) : Int) τ = jf_X12_mostAlike_L25 g ((30 * h + w : Nat) : Int) (kt_mst Z Ds a d m l h (w : Int) (i + 1)) ((i + 2 : Nat) : Int) x ∧ _
      rw [jf_X12_mostAlike_L25, if_neg (by omega), if_pos (by omega), Int.toNat_natCast, L.2.1 i hi, kt_mst]
      by_cases c : kt_fit Z Ds a d m l (i + 1) = true
      · have ew : jl_g τ 255 (930 * (i + 1) + 30 * h + w) = kt_way Z Ds a l h (w : Int) i := L.2.2 i h w hi hh hw
        have ib : 0 ≤ kt_way Z Ds a l h (w : Int) i ∧ kt_way Z Ds a l h (w : Int) i ≤ 8 := ks_in_b hZ
        obtain ⟨x, hx⟩ : ∃ x : Nat, kt_way Z Ds a l h (w : Int) i = (x : Int) := ⟨(kt_way Z Ds a l h (w : Int) i).toNat, by omega⟩
        have tb : 0 ≤ kt_tal Z Ds a d m l h (w : Int) (x : Int) i ∧ kt_tal Z Ds a d m l h (w : Int) (x : Int) i ≤ (i : Int) := ku_n_ge _ i
        have e1 : kt_tal Z Ds a d m l h (w : Int) (x : Int) (i + 1) = kt_tal Z Ds a d m l h (w : Int) (x : Int) i + 1 := by rw [kt_tal_S, if_pos ⟨c, hx⟩]
        have g1 : jl_g (jl_up τ 256 x (kt_tal Z Ds a d m l h (w : Int) (x : Int) i + 1)) 256 x = kt_tal Z Ds a d m l h (w : Int) (x : Int) (i + 1) := by rw [e1]; exact jp_g_eq (by omega) (by omega)
        have I2 : jp_fr [(256, 0, 0)] s (jl_up τ 256 x (kt_tal Z Ds a d m l h (w : Int) (x : Int) i + 1)) ∧ ∀ y : Nat, y < 9 → jl_g (jl_up τ 256 x (kt_tal Z Ds a d m l h (w : Int) (x : Int) i + 1)) 256 y = kt_tal Z Ds a d m l h (w : Int) (y : Int) (i + 1) := ⟨hf.up (by simp [jp_in]), fun y hy => by
          by_cases q : y = x
          · subst q; exact g1
          · rw [jp_g_nei q, kt_tal_S, if_neg (fun z => by have := z.2; omega)]; exact hI y hy⟩
        rw [if_pos c, if_neg (by decide), if_pos c, em, if_pos (by omega), Int.toNat_natCast, ew, hx, jp_let, if_pos (by omega), if_pos (by omega), Int.toNat_natCast, hI x (by omega), jp_add (a := kt_tal Z Ds a d m l h (w : Int) (x : Int) i) (by omega) (by omega), jp_lm, if_pos (by omega), g1]
        by_cases q : kt_tal Z Ds a d m l h (w : Int) (x : Int) (i + 1) ≤ kt_mst Z Ds a d m l h (w : Int) i
        · rw [if_pos q, if_pos q, jf_X12_mostAlike_B87, ea]
          exact ⟨_, rfl, I2⟩
        · rw [if_neg q, if_neg q, if_pos (by omega), jp_let, jf_X12_mostAlike_B87, ea]
          exact ⟨_, rfl, I2⟩
      · rw [if_neg c, if_pos rfl, if_neg c, jf_X12_mostAlike_B87, ea]
        refine ⟨τ, rfl, hf, fun x hx => ?_⟩
        rw [kt_tal_S, if_neg (fun z => c z.1)]; exact hI x hx
    · show jE (jf_X12_mostAlike_L25 (g + 1) ((30 * h + w : Nat) : Int) (kt_mst Z Ds a d m l h (w : Int) 99) ((100 : Nat) : Int) τ) _ _ _ _
      rw [jf_X12_mostAlike_L25, if_pos (by decide)]
      exact ⟨τ, rfl, hI.1, trivial⟩
