/-! PURE, the reference: tells -/
abbrev kt_B : Type := Int × Int × Int
def kt_b1 (r : Int) (h w : Nat) (x : kt_B) : kt_B := if x.1 = -1 ∨ r < x.2.2 then (((h : Nat) : Int), ((w : Nat) : Int), r) else x
def kt_bW (Z : jz_Z) (Ds : Nat → List Int) (a : Nat → Int) (d : kD) (m l h : Nat) (x : kt_B) : Nat → kt_B
  | 0 => x
  | w + 1 => kt_b1 (kt_mst Z Ds a d m l h (w : Int) 99) h w (kt_bW Z Ds a d m l h x w)
theorem kr_tellsW {Z : jz_Z} {Ds : Nat → List Int} {a : Nat → Int} {d : kD} {m l h : Nat} {v : Int} {x : kt_B} {R : Int → Int → Int → Int → Int → jl_Mm → jl_O} {s : jl_Mm} (hN : kr_N Z Ds a s) (hL : kt_L Z Ds a d m l 99 s) (hh : h ≤ 30) :
    ∃ τ, jf_X12_tells_L69 R jl_fu v x.1 x.2.1 x.2.2 (h : Int) 0 s = R v (kt_bW Z Ds a d m l h x (ks_nw Z)).1 (kt_bW Z Ds a d m l h x (ks_nw Z)).2.1 (kt_bW Z Ds a d m l h x (ks_nw Z)).2.2 ((h + 1 : Nat) : Int) τ ∧ jp_fr [(256, 0, 0)] s τ := by
  have h30 := hN.1.1.w
  have n1 : ∀ {c i : Nat}, c ≠ 256 → jp_in [(256, 0, 0)] c i = false := by intro c i h; simp [jp_in]; omega
  refine ku_for (α := jl_Mm) (G := fun g w τ => jf_X12_tells_L69 R g v (kt_bW Z Ds a d m l h x w).1 (kt_bW Z Ds a d m l h x w).2.1 (kt_bW Z Ds a d m l h x w).2.2 (h : Int) ((w : Nat) : Int) τ) (N := ks_nw Z) (P := fun o => ∃ τ, o = R v (kt_bW Z Ds a d m l h x (ks_nw Z)).1 (kt_bW Z Ds a d m l h x (ks_nw Z)).2.1 (kt_bW Z Ds a d m l h x (ks_nw Z)).2.2 ((h + 1 : Nat) : Int) τ ∧ jp_fr [(256, 0, 0)] s τ) (I := fun w τ => jp_fr [(256, 0, 0)] s τ) (fun g w τ hw hf => Or.inr ?_) (fun g τ hf => ?_) (ks_nw Z) 0 jl_fu s (Nat.zero_add _) (by show ks_nw Z < 4000; omega) jp_fr.rf
  · have W := hN.1.fr hf (fun c i _ _ => n1 (by omega))
    have L := hL.fr hf (fun i => ⟨n1 (by decide), n1 (by decide)⟩) (n1 (by decide))
    obtain ⟨υ, u1, u2, -⟩ := kr_alike (h := h) (w := w) W.1 L hh hw
    have em : jl_add (jl_mul 30 (h : Int)) (w : Int) = ((30 * h + w : Nat) : Int) := by rw [jp_mul (by omega) (by omega), jp_add (by omega) (by omega)]; omega
    have ea : jl_add (w : Int) 1 = ((w + 1 : Nat) : Int) := by rw [jp_add (by omega) (by omega)]; omega
    refine ⟨υ, ?_, hf.tr u2⟩
    show jf_X12_tells_L69 R (g + 1) v (kt_bW Z Ds a d m l h x w).1 (kt_bW Z Ds a d m l h x w).2.1 (kt_bW Z Ds a d m l h x w).2.2 (h : Int) (w : Int) τ = jf_X12_tells_L69 R g v (kt_b1 (kt_mst Z Ds a d m l h (w : Int) 99) h w (kt_bW Z Ds a d m l h x w)).1 (kt_b1 (kt_mst Z Ds a d m l h (w : Int) 99) h w (kt_bW Z Ds a d m l h x w)).2.1 (kt_b1 (kt_mst Z Ds a d m l h (w : Int) 99) h w (kt_bW Z Ds a d m l h x w)).2.2 (h : Int) ((w + 1 : Nat) : Int) υ
    generalize kt_bW Z Ds a d m l h x w = y
    rw [jf_X12_tells_L69, W.nw, jp_bd, if_neg (by omega), em, u1, jp_bd, jf_X12_tells_B107, jf_X12_tells_B118, jf_X12_tells_B118, ea]
    by_cases c : y.1 = -1
    · rw [if_pos c, kt_b1, if_pos (Or.inl c)]
    · rw [if_neg c]
      by_cases q : kt_mst Z Ds a d m l h (w : Int) 99 < y.2.2
      · rw [if_pos q, kt_b1, if_pos (Or.inr q)]
      · rw [if_neg q, kt_b1, if_neg (fun z => by rcases z with z | z; exact c z; exact q z)]
  · have W := hN.1.fr hf (fun c i _ _ => n1 (by omega))
    refine ⟨τ, ?_, hf⟩
    show jf_X12_tells_L69 R (g + 1) v _ _ _ (h : Int) ((ks_nw Z : Nat) : Int) τ = _
    rw [jf_X12_tells_L69, W.nw, jp_bd, if_pos (Int.le_refl _), jp_add (by omega) (by omega), ku_s]
