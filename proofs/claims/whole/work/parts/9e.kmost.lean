/-! PURE, the class: the highest tally of a window -/
theorem kc_most {Z : jz_Z} {Ds : Nat → List Int} {a : Nat → Int} {d : kD} {m l h i B : Nat} {w : Int} {s : jl_Mm} (hB : B + 9 ≤ 1620) (hT : ∀ x, x < 9 → jl_g s 203 (B + x) = kt_tal Z Ds a d m l h w (x : Int) i) : jf_X6_mostLeft_L43 jl_fu (B : Int) 0 (B : Int) s = some (kt_mx Z Ds a d m l h w i 9, s) := by
  have e8 : jl_add (B : Int) 8 = ((B + 8 : Nat) : Int) := by rw [jp_add (by omega) (by omega)]; omega
  refine ku_forU (G := fun g x => jf_X6_mostLeft_L43 g (B : Int) (kt_mx Z Ds a d m l h w i x) ((B + x : Nat) : Int) s) (N := 9) (fun g x hx => ?_) (fun g => ?_) 9 0 jl_fu (by decide) (by decide)
  · have ea : jl_add ((B + x : Nat) : Int) 1 = ((B + (x + 1) : Nat) : Int) := by rw [jp_add (by omega) (by omega)]; omega
    show jf_X6_mostLeft_L43 (g + 1) (B : Int) (kt_mx Z Ds a d m l h w i x) ((B + x : Nat) : Int) s = jf_X6_mostLeft_L43 g (B : Int) (kt_mx Z Ds a d m l h w i (x + 1)) ((B + (x + 1) : Nat) : Int) s
    rw [jf_X6_mostLeft_L43, e8, if_neg (by omega), if_pos (by omega), Int.toNat_natCast, hT x hx, ku_max, jp_bd, ea, kt_mx]
  · show jf_X6_mostLeft_L43 (g + 1) (B : Int) (kt_mx Z Ds a d m l h w i 9) ((B + 9 : Nat) : Int) s = _
    rw [jf_X6_mostLeft_L43, e8, if_pos (by omega)]
