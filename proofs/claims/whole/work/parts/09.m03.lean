def jf_X5_run_B196 (k0 : Int) (s0 : jl_Mm) : jl_O :=
  some (k0, s0)
set_option maxRecDepth 20000 in
set_option maxHeartbeats 2000000 in
theorem jj_X5_run_B196 (G : jl_GC) (k0 : Int) (hk0 : jl_n3 k0) (s0 : jl_Mm) : j2 G jM_X5_run 196 [] [jl_vi k0] s0 (jf_X5_run_B196 k0 s0) := by
  exact jr_ret_i rfl hk0 dX5_run_196
def jf_X5_run_B175 (R11 : Nat → Nat → Int → Int → Int → jl_Mm → jl_O) (l1 : Nat) (l2 : Nat) (l3 : Int) (l4 : Int) (l5 : Int) (s0 : jl_Mm) : jl_O :=
  R11 l1 l2 l3 l4 (jl_add l5 1) s0
set_option maxRecDepth 20000 in
set_option maxHeartbeats 2000000 in
theorem jj_X5_run_B175 (G : jl_GC) (R11 : Nat → Nat → Int → Int → Int → jl_Mm → jl_O) (hR11 : ∀ (l1 : Nat) (l2 : Nat) (l3 : Int) (l4 : Int) (l5 : Int) (_hl1 : (jl_kd l1).1 = 7) (_hl2 : (jl_kd l2).1 = 0) (_hl3 : jl_n3 l3) (_hl4 : jl_n3 l4) (_hl5 : jl_n3 l5) (s0 : jl_Mm), j2 G jM_X5_run 11 [(0, jl_vr G 190), (1, jl_vr G l1), (2, jl_vr G l2), (3, jl_vi l3), (4, jl_vi l4), (5, jl_vi l5)] [] s0 (R11 l1 l2 l3 l4 l5 s0)) (l1 : Nat) (l2 : Nat) (l3 : Int) (l4 : Int) (l5 : Int) (hl1 : (jl_kd l1).1 = 7) (hl2 : (jl_kd l2).1 = 0) (hl3 : jl_n3 l3) (hl4 : jl_n3 l4) (hl5 : jl_n3 l5) (s0 : jl_Mm) : j2 G jM_X5_run 175 [(0, jl_vr G 190), (1, jl_vr G l1), (2, jl_vr G l2), (3, jl_vi l3), (4, jl_vi l4), (5, jl_vi l5)] [] s0 (jf_X5_run_B175 R11 l1 l2 l3 l4 l5 s0) := by
  refine jr_iinc (j := 5) (lv := [(5, jl_vi (jl_add l5 1)), (0, jl_vr G 190), (1, jl_vr G l1), (2, jl_vr G l2), (3, jl_vi l3), (4, jl_vi l4)]) dX5_run_175 rfl (Nat.le_of_ble_eq_true rfl) rfl ?_
  refine jr_goto (t := 11) dX5_run_178 (by decide) ?_
  refine jr_sub [1, 2, 3, 4, 5, 0] rfl ?_
  exact hR11 l1 l2 l3 l4 (jl_add l5 1) hl1 hl2 hl3 hl4 (jl_n3_to _) s0
def jf_X5_run_B103 (R11 : Nat → Nat → Int → Int → Int → jl_Mm → jl_O) (l1 : Nat) (l2 : Nat) (l3 : Int) (l4 : Int) (l5 : Int) (l7 : Int) (s0 : jl_Mm) : jl_O :=
  if l4 ≤ (0 : Int) then (jf_X5_run_B175 (R11) l1 l2 l3 l4 l5 s0) else (if 0 ≤ jl_sub l4 (1 : Int) ∧ jl_sub l4 (1 : Int) < ((128 : Nat) : Int) then jl_bd (jf_X5_ofOne l1 l7 (jl_g s0 191 (jl_sub l4 (1 : Int)).toNat) s0) fun r13 s14 => if 0 ≤ jl_sub l4 (1 : Int) ∧ jl_sub l4 (1 : Int) < ((128 : Nat) : Int) then jl_lm (jl_up s14 191 (jl_sub l4 (1 : Int)).toNat r13) fun s16 => jf_X5_run_B175 (R11) l1 l2 l3 l4 l5 s16 else none else none)
set_option maxRecDepth 20000 in
set_option maxHeartbeats 2000000 in
theorem jj_X5_run_B103 (G : jl_GC) (R11 : Nat → Nat → Int → Int → Int → jl_Mm → jl_O) (hR11 : ∀ (l1 : Nat) (l2 : Nat) (l3 : Int) (l4 : Int) (l5 : Int) (_hl1 : (jl_kd l1).1 = 7) (_hl2 : (jl_kd l2).1 = 0) (_hl3 : jl_n3 l3) (_hl4 : jl_n3 l4) (_hl5 : jl_n3 l5) (s0 : jl_Mm), j2 G jM_X5_run 11 [(0, jl_vr G 190), (1, jl_vr G l1), (2, jl_vr G l2), (3, jl_vi l3), (4, jl_vi l4), (5, jl_vi l5)] [] s0 (R11 l1 l2 l3 l4 l5 s0)) (l1 : Nat) (l2 : Nat) (l3 : Int) (l4 : Int) (l5 : Int) (l7 : Int) (hl1 : (jl_kd l1).1 = 7) (hl2 : (jl_kd l2).1 = 0) (hl3 : jl_n3 l3) (hl4 : jl_n3 l4) (hl5 : jl_n3 l5) (hl7 : jl_n3 l7) (s0 : jl_Mm) : j2 G jM_X5_run 103 [(0, jl_vr G 190), (1, jl_vr G l1), (2, jl_vr G l2), (3, jl_vi l3), (4, jl_vi l4), (5, jl_vi l5), (7, jl_vi l7)] [] s0 (jf_X5_run_B103 R11 l1 l2 l3 l4 l5 l7 s0) := by
  refine jr_iload dX5_run_103 4 rfl ?_
  refine jr_if_le (t := 175) dX5_run_105 (by decide) hl4 (fun c11 => ?_) (fun c11 => ?_)
  · refine jr_sub [0, 1, 2, 3, 4, 5] rfl ?_
    exact jj_X5_run_B175 G (R11) (hR11) l1 l2 l3 l4 l5 hl1 hl2 hl3 hl4 hl5 s0
  · refine jr_aload_n dX5_run_108 0 rfl ?_
    refine jr_getk (i := 1) jc_5 jk_190 (by decide) (Nat.le_of_ble_eq_true rfl) jlk_190_1 jw_323 dX5_run_109 ?_
    refine jr_iload dX5_run_112 4 rfl ?_
    refine jr_iconst dX5_run_114 ?_
    refine jr_isub dX5_run_115 ?_
    refine jr_aload_n dX5_run_116 0 rfl ?_
    refine jr_aload_n dX5_run_117 1 rfl ?_
    refine jr_iload dX5_run_118 6 rfl ?_
    refine jr_aload_n dX5_run_120 0 rfl ?_
    refine jr_getk (i := 1) jc_5 jk_190 (by decide) (Nat.le_of_ble_eq_true rfl) jlk_190_1 jw_323 dX5_run_121 ?_
    refine jr_iload dX5_run_124 4 rfl ?_
    refine jr_iconst dX5_run_126 ?_
    refine jr_isub dX5_run_127 ?_
    refine jr_grd (fun g12 => ?_)
    refine jr_iaload jk_191 (by decide) (jl_n3_to _) g12 dX5_run_128 ?_
    refine j2_callVi (As := [jl_vr G l1, jl_vi l7, jl_vi (jl_g s0 191 (jl_sub l4 (1 : Int)).toNat)]) dX5_run_129 (jt_X5_ofOne G l1 l7 (jl_g s0 191 (jl_sub l4 (1 : Int)).toNat) hl7 (jl_n3_to _) s0) jv_X5_ofOne ⟨rfl, rfl, rfl⟩ jw_805 jk_190 (by decide) (by decide) rfl ⟨Nat.le_of_ble_eq_true rfl, Nat.le_of_ble_eq_true rfl⟩ rfl (Nat.le_of_ble_eq_true rfl) (fun r13 s14 hr13 => ?_)
    refine jr_grd (fun g15 => ?_)
    refine jr_iastore jk_191 (by decide) (jl_n3_to _) g15 dX5_run_132 ?_
    refine jr_lm (fun s16 => ?_)
    refine jr_goto (t := 175) dX5_run_133 (by decide) ?_
    refine jr_sub [0, 1, 2, 3, 4, 5] rfl ?_
    exact jj_X5_run_B175 G (R11) (hR11) l1 l2 l3 l4 l5 hl1 hl2 hl3 hl4 hl5 s16
def jf_X5_run_B78 (R11 : Nat → Nat → Int → Int → Int → jl_Mm → jl_O) (l1 : Nat) (l2 : Nat) (l3 : Int) (l4 : Int) (l5 : Int) (k1 : Int) (k2 : Int) (s0 : jl_Mm) : jl_O :=
  if 0 ≤ k1 ∧ k1 < ((128 : Nat) : Int) then jl_lm (jl_up s0 191 (k1).toNat k2) fun s30 => jf_X5_run_B175 (R11) l1 l2 l3 l4 l5 s30 else none
set_option maxRecDepth 20000 in
set_option maxHeartbeats 2000000 in
theorem jj_X5_run_B78 (G : jl_GC) (R11 : Nat → Nat → Int → Int → Int → jl_Mm → jl_O) (hR11 : ∀ (l1 : Nat) (l2 : Nat) (l3 : Int) (l4 : Int) (l5 : Int) (_hl1 : (jl_kd l1).1 = 7) (_hl2 : (jl_kd l2).1 = 0) (_hl3 : jl_n3 l3) (_hl4 : jl_n3 l4) (_hl5 : jl_n3 l5) (s0 : jl_Mm), j2 G jM_X5_run 11 [(0, jl_vr G 190), (1, jl_vr G l1), (2, jl_vr G l2), (3, jl_vi l3), (4, jl_vi l4), (5, jl_vi l5)] [] s0 (R11 l1 l2 l3 l4 l5 s0)) (l1 : Nat) (l2 : Nat) (l3 : Int) (l4 : Int) (l5 : Int) (k1 : Int) (k2 : Int) (hl1 : (jl_kd l1).1 = 7) (hl2 : (jl_kd l2).1 = 0) (hl3 : jl_n3 l3) (hl4 : jl_n3 l4) (hl5 : jl_n3 l5) (hk1 : jl_n3 k1) (hk2 : jl_n3 k2) (s0 : jl_Mm) : j2 G jM_X5_run 78 [(0, jl_vr G 190), (1, jl_vr G l1), (2, jl_vr G l2), (3, jl_vi l3), (4, jl_vi l4), (5, jl_vi l5)] [jl_vi k2, jl_vi k1, jl_vr G 191] s0 (jf_X5_run_B78 R11 l1 l2 l3 l4 l5 k1 k2 s0) := by
  refine jr_grd (fun g29 => ?_)
  refine jr_iastore jk_191 (by decide) hk1 g29 dX5_run_78 ?_
  refine jr_lm (fun s30 => ?_)
  refine jr_goto (t := 175) dX5_run_79 (by decide) ?_
  exact jj_X5_run_B175 G (R11) (hR11) l1 l2 l3 l4 l5 hl1 hl2 hl3 hl4 hl5 s30
def jf_X5_run_L11 : Nat → Nat → Nat → Int → Int → Int → jl_Mm → jl_O
  | 0, _, _, _, _, _, _ => none
  | n + 1, l1, l2, l3, l4, l5, s0 =>
    if 0 ≤ l3 ∧ l3 < ((3 : Nat) : Int) then if jl_g s0 (l2 + 3) (l3).toNat ≤ l5 then (if l4 ≤ (0 : Int) then (jf_X5_run_B196 (0 : Int) s0) else (jf_X5_run_B196 (jl_g s0 191 (((0 : Int) : Int).toNat)) s0)) else (if 0 ≤ l5 ∧ l5 < ((1608 : Nat) : Int) then jl_let (jl_g s0 (l2 + 1) (l5).toNat) fun x7 => jl_let (jl_xor x7 (-1 : Int)) fun x8 => if (24 : Int) ≤ x8 then (if x8 = (28 : Int) then (jf_X5_run_B103 (jf_X5_run_L11 n) l1 l2 l3 l4 l5 x8 s0) else (if x8 = (24 : Int) then (jf_X5_run_B103 (jf_X5_run_L11 n) l1 l2 l3 l4 l5 x8 s0) else (if x8 = (25 : Int) then (jf_X5_run_B103 (jf_X5_run_L11 n) l1 l2 l3 l4 l5 x8 s0) else (if l4 ≤ (1 : Int) then (jf_X5_run_B175 (jf_X5_run_L11 n) l1 l2 l3 l4 l5 s0) else (if 0 ≤ jl_sub (jl_add l4 (-1)) (1 : Int) ∧ jl_sub (jl_add l4 (-1)) (1 : Int) < ((128 : Nat) : Int) then if 0 ≤ jl_add l4 (-1) ∧ jl_add l4 (-1) < ((128 : Nat) : Int) then jl_bd (jf_X5_ofTwo x8 (jl_g s0 191 (jl_sub (jl_add l4 (-1)) (1 : Int)).toNat) (jl_g s0 191 (jl_add l4 (-1)).toNat) s0) fun r22 s23 => if 0 ≤ jl_sub (jl_add l4 (-1)) (1 : Int) ∧ jl_sub (jl_add l4 (-1)) (1 : Int) < ((128 : Nat) : Int) then jl_lm (jl_up s23 191 (jl_sub (jl_add l4 (-1)) (1 : Int)).toNat r22) fun s25 => jf_X5_run_B175 (jf_X5_run_L11 n) l1 l2 l3 (jl_add l4 (-1)) l5 s25 else none else none else none))))) else (if (128 : Int) ≤ l4 then (jf_X5_run_B175 (jf_X5_run_L11 n) l1 l2 l3 l4 l5 s0) else (if x7 < (0 : Int) then (if 0 ≤ x8 ∧ x8 < ((24 : Nat) : Int) then jf_X5_run_B78 (jf_X5_run_L11 n) l1 l2 l3 (jl_add l4 1) l5 l4 (jl_g s0 192 (x8).toNat) s0 else none) else (jf_X5_run_B78 (jf_X5_run_L11 n) l1 l2 l3 (jl_add l4 1) l5 l4 x7 s0))) else none) else none
set_option maxRecDepth 20000 in
set_option maxHeartbeats 2000000 in
theorem jj_X5_run_L11 (G : jl_GC) : ∀ (n : Nat) (l1 : Nat) (l2 : Nat) (l3 : Int) (l4 : Int) (l5 : Int) (hl1 : (jl_kd l1).1 = 7) (hl2 : (jl_kd l2).1 = 0) (hl3 : jl_n3 l3) (hl4 : jl_n3 l4) (hl5 : jl_n3 l5) (s0 : jl_Mm), j2 G jM_X5_run 11 [(0, jl_vr G 190), (1, jl_vr G l1), (2, jl_vr G l2), (3, jl_vi l3), (4, jl_vi l4), (5, jl_vi l5)] [] s0 (jf_X5_run_L11 n l1 l2 l3 l4 l5 s0) := by
  intro n
  induction n with
  | zero =>
    intros
    exact jr_none
  | succ n ih =>
    intro l1 l2 l3 l4 l5 hl1 hl2 hl3 hl4 hl5 s0
    refine jr_iload dX5_run_11 5 rfl ?_
    refine jr_aload_n dX5_run_13 2 rfl ?_
    refine jr_getkN (i := 2) jc_0 (jl_kd1 hl2) (jl_kdlt hl2 (by decide)) (Nat.le_of_ble_eq_true rfl) (js0_2 hl2) jw_59 dX5_run_14 ?_
    refine jr_iload_n dX5_run_17 3 rfl ?_
    refine jr_grd (fun g3 => ?_)
    refine jr_iaload (js0k_2 hl2) (jl_kdl (js0k_2 hl2) (by decide)) hl3 g3 dX5_run_18 ?_
    refine jr_icmp_ge (t := 181) dX5_run_19 (by decide) hl5 (jl_n3_to _) (fun c4 => ?_) (fun c4 => ?_)
    · refine jr_iload dX5_run_181 4 rfl ?_
      refine jr_if_le (t := 195) dX5_run_183 (by decide) hl4 (fun c5 => ?_) (fun c5 => ?_)
      · refine jr_iconst dX5_run_195 ?_
        refine jr_sub [] rfl ?_
        exact jj_X5_run_B196 G (0 : Int) (jl_nlit rfl) s0
      · refine jr_aload_n dX5_run_186 0 rfl ?_
        refine jr_getk (i := 1) jc_5 jk_190 (by decide) (Nat.le_of_ble_eq_true rfl) jlk_190_1 jw_323 dX5_run_187 ?_
        refine jr_iconst dX5_run_190 ?_
        refine jr_iaload jk_191 (by decide) (jl_nlit rfl) ⟨by decide, by decide⟩ dX5_run_191 ?_
        refine jr_goto (t := 196) dX5_run_192 (by decide) ?_
        refine jr_sub [] rfl ?_
        exact jj_X5_run_B196 G (jl_g s0 191 (((0 : Int) : Int).toNat)) (jl_n3_to _) s0
    · refine jr_aload_n dX5_run_22 2 rfl ?_
      refine jr_getkN (i := 0) jc_0 (jl_kd1 hl2) (jl_kdlt hl2 (by decide)) (Nat.le_of_ble_eq_true rfl) (js0_0 hl2) jw_55 dX5_run_23 ?_
      refine jr_iload dX5_run_26 5 rfl ?_
      refine jr_grd (fun g6 => ?_)
      refine jr_iaload (js0k_0 hl2) (jl_kdl (js0k_0 hl2) (by decide)) hl5 g6 dX5_run_28 ?_
      refine jr_let (jl_n3_to _) (fun x7 hx7 => ?_)
      refine jr_istore (lv := [(6, jl_vi x7), (0, jl_vr G 190), (1, jl_vr G l1), (2, jl_vr G l2), (3, jl_vi l3), (4, jl_vi l4), (5, jl_vi l5)]) dX5_run_29 (Nat.le_of_ble_eq_true rfl) rfl ?_
      refine jr_iload dX5_run_31 0 rfl ?_
      refine jr_iconst dX5_run_33 ?_
      refine jr_ixor dX5_run_34 ?_
      refine jr_let (jl_n3_to _) (fun x8 hx8 => ?_)
      refine jr_istore (lv := [(7, jl_vi x8), (6, jl_vi x7), (0, jl_vr G 190), (1, jl_vr G l1), (2, jl_vr G l2), (3, jl_vi l3), (4, jl_vi l4), (5, jl_vi l5)]) dX5_run_35 (Nat.le_of_ble_eq_true rfl) rfl ?_
      refine jr_iload dX5_run_37 0 rfl ?_
      refine jr_bipush dX5_run_39 (by decide) ?_
      refine jr_icmp_ge (t := 82) dX5_run_41 (by decide) hx8 (jl_nlit rfl) (fun c9 => ?_) (fun c9 => ?_)
      · refine jr_iload dX5_run_82 0 rfl ?_
        refine jr_bipush dX5_run_84 (by decide) ?_
        refine jr_icmp_eq (t := 103) dX5_run_86 (by decide) hx8 (jl_nlit rfl) (fun c10 => ?_) (fun c10 => ?_)
        · refine jr_sub [2, 3, 4, 5, 6, 7, 0] rfl ?_
          exact jj_X5_run_B103 G (jf_X5_run_L11 n) (ih) l1 l2 l3 l4 l5 x8 hl1 hl2 hl3 hl4 hl5 hx8 s0
        · refine jr_iload dX5_run_89 0 rfl ?_
          refine jr_bipush dX5_run_91 (by decide) ?_
          refine jr_icmp_eq (t := 103) dX5_run_93 (by decide) hx8 (jl_nlit rfl) (fun c17 => ?_) (fun c17 => ?_)
          · refine jr_sub [2, 3, 4, 5, 6, 7, 0] rfl ?_
            exact jj_X5_run_B103 G (jf_X5_run_L11 n) (ih) l1 l2 l3 l4 l5 x8 hl1 hl2 hl3 hl4 hl5 hx8 s0
          · refine jr_iload dX5_run_96 0 rfl ?_
            refine jr_bipush dX5_run_98 (by decide) ?_
            refine jr_icmp_ne (t := 136) dX5_run_100 (by decide) hx8 (jl_nlit rfl) (fun c18 => ?_) (fun c18 => ?_)
            · refine jr_sub [2, 3, 4, 5, 6, 7, 0] rfl ?_
              exact jj_X5_run_B103 G (jf_X5_run_L11 n) (ih) l1 l2 l3 l4 l5 x8 hl1 hl2 hl3 hl4 hl5 hx8 s0
            · refine jr_iload dX5_run_136 6 rfl ?_
              refine jr_iconst dX5_run_138 ?_
              refine jr_icmp_le (t := 175) dX5_run_139 (by decide) hl4 (jl_nlit rfl) (fun c19 => ?_) (fun c19 => ?_)
              · refine jr_sub [2, 3, 4, 5, 6, 7] rfl ?_
                exact jj_X5_run_B175 G (jf_X5_run_L11 n) (ih) l1 l2 l3 l4 l5 hl1 hl2 hl3 hl4 hl5 s0
              · refine jr_iinc (j := 6) (lv := [(4, jl_vi (jl_add l4 (-1))), (7, jl_vi x8), (6, jl_vi x7), (0, jl_vr G 190), (1, jl_vr G l1), (2, jl_vr G l2), (3, jl_vi l3), (5, jl_vi l5)]) dX5_run_142 rfl (Nat.le_of_ble_eq_true rfl) rfl ?_
                refine jr_aload_n dX5_run_145 3 rfl ?_
                refine jr_getk (i := 1) jc_5 jk_190 (by decide) (Nat.le_of_ble_eq_true rfl) jlk_190_1 jw_323 dX5_run_146 ?_
                refine jr_iload dX5_run_149 0 rfl ?_
                refine jr_iconst dX5_run_151 ?_
                refine jr_isub dX5_run_152 ?_
                refine jr_iload dX5_run_153 1 rfl ?_
                refine jr_aload_n dX5_run_155 3 rfl ?_
                refine jr_getk (i := 1) jc_5 jk_190 (by decide) (Nat.le_of_ble_eq_true rfl) jlk_190_1 jw_323 dX5_run_156 ?_
                refine jr_iload dX5_run_159 0 rfl ?_
                refine jr_iconst dX5_run_161 ?_
                refine jr_isub dX5_run_162 ?_
                refine jr_grd (fun g20 => ?_)
                refine jr_iaload jk_191 (by decide) (jl_n3_to _) g20 dX5_run_163 ?_
                refine jr_aload_n dX5_run_164 3 rfl ?_
                refine jr_getk (i := 1) jc_5 jk_190 (by decide) (Nat.le_of_ble_eq_true rfl) jlk_190_1 jw_323 dX5_run_165 ?_
                refine jr_iload dX5_run_168 0 rfl ?_
                refine jr_grd (fun g21 => ?_)
                refine jr_iaload jk_191 (by decide) (jl_n3_to _) g21 dX5_run_170 ?_
                refine j2_callSi (As := [jl_vi x8, jl_vi (jl_g s0 191 (jl_sub (jl_add l4 (-1)) (1 : Int)).toNat), jl_vi (jl_g s0 191 (jl_add l4 (-1)).toNat)]) dX5_run_171 (jt_X5_ofTwo G x8 (jl_g s0 191 (jl_sub (jl_add l4 (-1)) (1 : Int)).toNat) (jl_g s0 191 (jl_add l4 (-1)).toNat) hx8 (jl_n3_to _) (jl_n3_to _) s0) jv_X5_ofTwo ⟨rfl, rfl, rfl⟩ jw_809 ⟨Nat.le_of_ble_eq_true rfl, Nat.le_of_ble_eq_true rfl⟩ rfl (Nat.le_of_ble_eq_true rfl) (fun r22 s23 hr22 => ?_)
                refine jr_grd (fun g24 => ?_)
                refine jr_iastore jk_191 (by decide) (jl_n3_to _) g24 dX5_run_174 ?_
                refine jr_lm (fun s25 => ?_)
                refine jr_sub [3, 4, 5, 6, 0, 7] rfl ?_
                exact jj_X5_run_B175 G (jf_X5_run_L11 n) (ih) l1 l2 l3 (jl_add l4 (-1)) l5 hl1 hl2 hl3 (jl_n3_to _) hl5 s25
      · refine jr_iload dX5_run_44 6 rfl ?_
        refine jr_sipush dX5_run_46 (by decide) ?_
        refine jr_icmp_ge (t := 175) dX5_run_49 (by decide) hl4 (jl_nlit rfl) (fun c26 => ?_) (fun c26 => ?_)
        · refine jr_sub [2, 3, 4, 5, 6, 7] rfl ?_
          exact jj_X5_run_B175 G (jf_X5_run_L11 n) (ih) l1 l2 l3 l4 l5 hl1 hl2 hl3 hl4 hl5 s0
        · refine jr_aload_n dX5_run_52 2 rfl ?_
          refine jr_getk (i := 1) jc_5 jk_190 (by decide) (Nat.le_of_ble_eq_true rfl) jlk_190_1 jw_323 dX5_run_53 ?_
          refine jr_iload dX5_run_56 6 rfl ?_
          refine jr_iinc (j := 6) (lv := [(4, jl_vi (jl_add l4 1)), (7, jl_vi x8), (6, jl_vi x7), (0, jl_vr G 190), (1, jl_vr G l1), (2, jl_vr G l2), (3, jl_vi l3), (5, jl_vi l5)]) dX5_run_58 rfl (Nat.le_of_ble_eq_true rfl) rfl ?_
          refine jr_iload dX5_run_61 2 rfl ?_
          refine jr_if_lt (t := 71) dX5_run_63 (by decide) hx7 (fun c27 => ?_) (fun c27 => ?_)
          · refine jr_aload_n dX5_run_71 3 rfl ?_
            refine jr_getk (i := 2) jc_5 jk_190 (by decide) (Nat.le_of_ble_eq_true rfl) jlk_190_2 jw_324 dX5_run_72 ?_
            refine jr_iload dX5_run_75 1 rfl ?_
            refine jr_grd (fun g28 => ?_)
            refine jr_iaload jk_192 (by decide) hx8 g28 dX5_run_77 ?_
            refine jr_sub [3, 4, 5, 6, 0, 7] rfl ?_
            exact jj_X5_run_B78 G (jf_X5_run_L11 n) (ih) l1 l2 l3 (jl_add l4 1) l5 l4 (jl_g s0 192 (x8).toNat) hl1 hl2 hl3 (jl_n3_to _) hl5 hl4 (jl_n3_to _) s0
          · refine jr_iload dX5_run_66 2 rfl ?_
            refine jr_goto (t := 78) dX5_run_68 (by decide) ?_
            refine jr_sub [3, 4, 5, 6, 0, 7] rfl ?_
            exact jj_X5_run_B78 G (jf_X5_run_L11 n) (ih) l1 l2 l3 (jl_add l4 1) l5 l4 x7 hl1 hl2 hl3 (jl_n3_to _) hl5 hl4 hx7 s0
def jf_X5_run (q1 : Nat) (q2 : Nat) (v3 : Int) (s0 : jl_Mm) : jl_O :=
  if (jl_kd q1).1 = 7 then if (jl_kd q2).1 = 0 then if 0 ≤ v3 ∧ v3 < ((3 : Nat) : Int) then jl_let (jl_g s0 (q2 + 2) (v3).toNat) fun x2 => jf_X5_run_L11 jl_fu q1 q2 v3 (0 : Int) x2 s0 else none else none else none
set_option maxRecDepth 20000 in
set_option maxHeartbeats 2000000 in
theorem jt_X5_run (G : jl_GC) (q1 : Nat) (q2 : Nat) (v3 : Int) (h3 : jl_n3 v3) (s0 : jl_Mm) : jC2 G jM_X5_run [jl_vr G 190, jl_vr G q1, jl_vr G q2, jl_vi v3] s0 (jf_X5_run q1 q2 v3 s0) := by
  refine jl_met (plainFor_of_name rfl) (Nat.le_of_ble_eq_true rfl) ?_
  show j2 G jM_X5_run 0 [(0, jl_vr G 190), (1, jl_vr G q1), (2, jl_vr G q2), (3, jl_vi v3)] [] s0 _
  refine jr_grd (fun gp1 => ?_)
  refine jr_grd (fun gp2 => ?_)
  refine jr_iconst dX5_run_0 ?_
  refine jr_istore (lv := [(4, jl_vi (0 : Int)), (0, jl_vr G 190), (1, jl_vr G q1), (2, jl_vr G q2), (3, jl_vi v3)]) dX5_run_1 (Nat.le_of_ble_eq_true rfl) rfl ?_
  refine jr_aload_n dX5_run_3 3 rfl ?_
  refine jr_getkN (i := 1) jc_0 (jl_kd1 gp2) (jl_kdlt gp2 (by decide)) (Nat.le_of_ble_eq_true rfl) (js0_1 gp2) jw_57 dX5_run_4 ?_
  refine jr_iload_n dX5_run_7 4 rfl ?_
  refine jr_grd (fun g1 => ?_)
  refine jr_iaload (js0k_1 gp2) (jl_kdl (js0k_1 gp2) (by decide)) h3 g1 dX5_run_8 ?_
  refine jr_let (jl_n3_to _) (fun x2 hx2 => ?_)
  refine jr_istore (lv := [(5, jl_vi x2), (4, jl_vi (0 : Int)), (0, jl_vr G 190), (1, jl_vr G q1), (2, jl_vr G q2), (3, jl_vi v3)]) dX5_run_9 (Nat.le_of_ble_eq_true rfl) rfl ?_
  refine jr_sub [2, 3, 4, 5, 1, 0] rfl ?_
  exact jj_X5_run_L11 G jl_fu q1 q2 v3 (0 : Int) x2 gp1 gp2 h3 (jl_nlit rfl) hx2 s0
def jf_X5_reckon_B173 (l1 : Nat) (l3 : Nat) (l4 : Int) (k1 : Int) (k2 : Int) (s0 : jl_Mm) : jl_O :=
  if 0 ≤ k1 ∧ k1 < ((24 : Nat) : Int) then jl_lm (jl_up s0 192 (k1).toNat k2) fun s22 => jl_bd (jf_X5_run l1 l3 l4 s22) fun r23 s24 => some (r23, s24) else none
set_option maxRecDepth 20000 in
set_option maxHeartbeats 2000000 in
theorem jj_X5_reckon_B173 (G : jl_GC) (l1 : Nat) (l3 : Nat) (l4 : Int) (k1 : Int) (k2 : Int) (hl1 : (jl_kd l1).1 = 7) (hl3 : (jl_kd l3).1 = 0) (hl4 : jl_n3 l4) (hk1 : jl_n3 k1) (hk2 : jl_n3 k2) (s0 : jl_Mm) : j2 G jM_X5_reckon 173 [(0, jl_vr G 190), (1, jl_vr G l1), (3, jl_vr G l3), (4, jl_vi l4)] [jl_vi k2, jl_vi k1, jl_vr G 192] s0 (jf_X5_reckon_B173 l1 l3 l4 k1 k2 s0) := by
  refine jr_grd (fun g21 => ?_)
  refine jr_iastore jk_192 (by decide) hk1 g21 dX5_reckon_173 ?_
  refine jr_lm (fun s22 => ?_)
  refine jr_aload_n dX5_reckon_174 0 rfl ?_
  refine jr_aload_n dX5_reckon_175 1 rfl ?_
  refine jr_aload_n dX5_reckon_176 2 rfl ?_
  refine jr_iload dX5_reckon_177 3 rfl ?_
  refine j2_callVi (As := [jl_vr G l1, jl_vr G l3, jl_vi l4]) dX5_reckon_179 (jt_X5_run G l1 l3 l4 hl4 s22) jv_X5_run ⟨rfl, rfl, rfl⟩ jw_801 jk_190 (by decide) (by decide) rfl ⟨Nat.le_of_ble_eq_true rfl, Nat.le_of_ble_eq_true rfl⟩ rfl (Nat.le_of_ble_eq_true rfl) (fun r23 s24 hr23 => ?_)
  exact jr_ret_i rfl hr23 dX5_reckon_182
def jf_X5_reckon_B103 (l1 : Nat) (l2 : Int) (l3 : Nat) (l4 : Int) (l5 : Int) (s0 : jl_Mm) : jl_O :=
  if 0 ≤ l2 ∧ l2 < ((8 : Nat) : Int) then jl_lm (jl_up s0 192 (((15 : Int) : Int).toNat) (jl_g s0 (l1 + 2) (l2).toNat)) fun s12 => if 0 ≤ l2 ∧ l2 < ((8 : Nat) : Int) then jl_lm (jl_up s12 192 (((18 : Int) : Int).toNat) (jl_g s12 (l1 + 3) (l2).toNat)) fun s14 => if 0 ≤ s14 190 0 ∧ (jl_kd (jl_gr s14 190 0)).1 = 8 then if 0 ≤ l5 ∧ l5 < ((6 : Nat) : Int) then jl_lm (jl_up s14 192 (((3 : Int) : Int).toNat) (jl_g s14 ((jl_gr s14 190 0) + 3) (l5).toNat)) fun s17 => jl_lm (jl_up s17 192 (((21 : Int) : Int).toNat) l2) fun s18 => if 0 ≤ l2 ∧ l2 < ((8 : Nat) : Int) then if jl_g s18 (l1 + 2) (l2).toNat ≤ (0 : Int) then (jf_X5_reckon_B173 l1 l3 l4 (22 : Int) (0 : Int) s18) else (jf_X5_reckon_B173 l1 l3 l4 (22 : Int) (1 : Int) s18) else none else none else none else none else none
set_option maxRecDepth 20000 in
set_option maxHeartbeats 2000000 in
theorem jj_X5_reckon_B103 (G : jl_GC) (l1 : Nat) (l2 : Int) (l3 : Nat) (l4 : Int) (l5 : Int) (hl1 : (jl_kd l1).1 = 7) (hl2 : jl_n3 l2) (hl3 : (jl_kd l3).1 = 0) (hl4 : jl_n3 l4) (hl5 : jl_n3 l5) (s0 : jl_Mm) : j2 G jM_X5_reckon 103 [(0, jl_vr G 190), (1, jl_vr G l1), (2, jl_vi l2), (3, jl_vr G l3), (4, jl_vi l4), (5, jl_vi l5)] [] s0 (jf_X5_reckon_B103 l1 l2 l3 l4 l5 s0) := by
  refine jr_aload_n dX5_reckon_103 0 rfl ?_
  refine jr_getk (i := 2) jc_5 jk_190 (by decide) (Nat.le_of_ble_eq_true rfl) jlk_190_2 jw_324 dX5_reckon_104 ?_
  refine jr_bipush dX5_reckon_107 (by decide) ?_
  refine jr_aload_n dX5_reckon_109 1 rfl ?_
  refine jr_getkN (i := 3) jc_7 (jl_kd1 hl1) (jl_kdlt hl1 (by decide)) (Nat.le_of_ble_eq_true rfl) (js7_3 hl1) jw_249 dX5_reckon_110 ?_
  refine jr_iload_n dX5_reckon_113 2 rfl ?_
  refine jr_grd (fun g11 => ?_)
  refine jr_iaload (js7k_3 hl1) (jl_kdl (js7k_3 hl1) (by decide)) hl2 g11 dX5_reckon_114 ?_
  refine jr_iastore jk_192 (by decide) (jl_nlit rfl) ⟨by decide, by decide⟩ dX5_reckon_115 ?_
  refine jr_lm (fun s12 => ?_)
  refine jr_aload_n dX5_reckon_116 0 rfl ?_
  refine jr_getk (i := 2) jc_5 jk_190 (by decide) (Nat.le_of_ble_eq_true rfl) jlk_190_2 jw_324 dX5_reckon_117 ?_
  refine jr_bipush dX5_reckon_120 (by decide) ?_
  refine jr_aload_n dX5_reckon_122 1 rfl ?_
  refine jr_getkN (i := 4) jc_7 (jl_kd1 hl1) (jl_kdlt hl1 (by decide)) (Nat.le_of_ble_eq_true rfl) (js7_4 hl1) jw_255 dX5_reckon_123 ?_
  refine jr_iload_n dX5_reckon_126 2 rfl ?_
  refine jr_grd (fun g13 => ?_)
  refine jr_iaload (js7k_4 hl1) (jl_kdl (js7k_4 hl1) (by decide)) hl2 g13 dX5_reckon_127 ?_
  refine jr_iastore jk_192 (by decide) (jl_nlit rfl) ⟨by decide, by decide⟩ dX5_reckon_128 ?_
  refine jr_lm (fun s14 => ?_)
  refine jr_aload_n dX5_reckon_129 0 rfl ?_
  refine jr_getk (i := 2) jc_5 jk_190 (by decide) (Nat.le_of_ble_eq_true rfl) jlk_190_2 jw_324 dX5_reckon_130 ?_
  refine jr_iconst dX5_reckon_133 ?_
  refine jr_aload_n dX5_reckon_134 0 rfl ?_
  refine jr_grd (fun g15 => ?_)
  refine jr_getr (i := 0) jc_5 jk_190 (by decide) (Nat.le_of_ble_eq_true rfl) jlk_190_0 jft_5_0 g15.1 jw_319 dX5_reckon_135 ?_
  refine jr_getkN (i := 9) jc_8 (jl_kd1 g15.2) (jl_kdlt g15.2 (by decide)) (Nat.le_of_ble_eq_true rfl) (js8_9 g15.2) jw_122 dX5_reckon_138 ?_
  refine jr_iload dX5_reckon_141 5 rfl ?_
  refine jr_grd (fun g16 => ?_)
  refine jr_iaload (js8k_9 g15.2) (jl_kdl (js8k_9 g15.2) (by decide)) hl5 g16 dX5_reckon_143 ?_
  refine jr_iastore jk_192 (by decide) (jl_nlit rfl) ⟨by decide, by decide⟩ dX5_reckon_144 ?_
  refine jr_lm (fun s17 => ?_)
  refine jr_aload_n dX5_reckon_145 0 rfl ?_
  refine jr_getk (i := 2) jc_5 jk_190 (by decide) (Nat.le_of_ble_eq_true rfl) jlk_190_2 jw_324 dX5_reckon_146 ?_
  refine jr_bipush dX5_reckon_149 (by decide) ?_
  refine jr_iload_n dX5_reckon_151 2 rfl ?_
  refine jr_iastore jk_192 (by decide) (jl_nlit rfl) ⟨by decide, by decide⟩ dX5_reckon_152 ?_
  refine jr_lm (fun s18 => ?_)
  refine jr_aload_n dX5_reckon_153 0 rfl ?_
  refine jr_getk (i := 2) jc_5 jk_190 (by decide) (Nat.le_of_ble_eq_true rfl) jlk_190_2 jw_324 dX5_reckon_154 ?_
  refine jr_bipush dX5_reckon_157 (by decide) ?_
  refine jr_aload_n dX5_reckon_159 1 rfl ?_
  refine jr_getkN (i := 3) jc_7 (jl_kd1 hl1) (jl_kdlt hl1 (by decide)) (Nat.le_of_ble_eq_true rfl) (js7_3 hl1) jw_249 dX5_reckon_160 ?_
  refine jr_iload_n dX5_reckon_163 2 rfl ?_
  refine jr_grd (fun g19 => ?_)
  refine jr_iaload (js7k_3 hl1) (jl_kdl (js7k_3 hl1) (by decide)) hl2 g19 dX5_reckon_164 ?_
  refine jr_if_le (t := 172) dX5_reckon_165 (by decide) (jl_n3_to _) (fun c20 => ?_) (fun c20 => ?_)
  · refine jr_iconst dX5_reckon_172 ?_
    refine jr_sub [0, 1, 3, 4] rfl ?_
    exact jj_X5_reckon_B173 G l1 l3 l4 (22 : Int) (0 : Int) hl1 hl3 hl4 (jl_nlit rfl) (jl_nlit rfl) s18
  · refine jr_iconst dX5_reckon_168 ?_
    refine jr_goto (t := 173) dX5_reckon_169 (by decide) ?_
    refine jr_sub [0, 1, 3, 4] rfl ?_
    exact jj_X5_reckon_B173 G l1 l3 l4 (22 : Int) (1 : Int) hl1 hl3 hl4 (jl_nlit rfl) (jl_nlit rfl) s18
def jf_X5_reckon_B69 (l1 : Nat) (l2 : Int) (l3 : Nat) (l4 : Int) (l5 : Int) (l6 : Int) (s0 : jl_Mm) : jl_O :=
  if jl_and (jl_shr l6 (17 : Int)) (1 : Int) = (1 : Int) then (if 0 ≤ s0 190 0 ∧ (jl_kd (jl_gr s0 190 0)).1 = 8 then jl_bd (jf_X5_run l1 ((jl_gr s0 190 0) + 10) (0 : Int) s0) fun r26 s27 => jl_bd (jf_X5_draughtyBy r26 s27) fun r28 s29 => jl_lm (jl_up s29 192 (((17 : Int) : Int).toNat) r28) fun s30 => jf_X5_reckon_B103 l1 l2 l3 l4 l5 s30 else none) else (jf_X5_reckon_B103 l1 l2 l3 l4 l5 s0)
set_option maxRecDepth 20000 in
set_option maxHeartbeats 2000000 in
theorem jj_X5_reckon_B69 (G : jl_GC) (l1 : Nat) (l2 : Int) (l3 : Nat) (l4 : Int) (l5 : Int) (l6 : Int) (hl1 : (jl_kd l1).1 = 7) (hl2 : jl_n3 l2) (hl3 : (jl_kd l3).1 = 0) (hl4 : jl_n3 l4) (hl5 : jl_n3 l5) (hl6 : jl_n3 l6) (s0 : jl_Mm) : j2 G jM_X5_reckon 69 [(0, jl_vr G 190), (1, jl_vr G l1), (2, jl_vi l2), (3, jl_vr G l3), (4, jl_vi l4), (5, jl_vi l5), (6, jl_vi l6)] [] s0 (jf_X5_reckon_B69 l1 l2 l3 l4 l5 l6 s0) := by
  refine jr_iload dX5_reckon_69 6 rfl ?_
  refine jr_bipush dX5_reckon_71 (by decide) ?_
  refine jr_ishr dX5_reckon_73 ?_
  refine jr_iconst dX5_reckon_74 ?_
  refine jr_iand dX5_reckon_75 ?_
  refine jr_iconst dX5_reckon_76 ?_
  refine jr_icmp_ne (t := 103) dX5_reckon_77 (by decide) (jl_n3_to _) (jl_nlit rfl) (fun c10 => ?_) (fun c10 => ?_)
  · refine jr_aload_n dX5_reckon_80 0 rfl ?_
    refine jr_getk (i := 2) jc_5 jk_190 (by decide) (Nat.le_of_ble_eq_true rfl) jlk_190_2 jw_324 dX5_reckon_81 ?_
    refine jr_bipush dX5_reckon_84 (by decide) ?_
    refine jr_aload_n dX5_reckon_86 0 rfl ?_
    refine jr_aload_n dX5_reckon_87 1 rfl ?_
    refine jr_aload_n dX5_reckon_88 0 rfl ?_
    refine jr_grd (fun g25 => ?_)
    refine jr_getr (i := 0) jc_5 jk_190 (by decide) (Nat.le_of_ble_eq_true rfl) jlk_190_0 jft_5_0 g25.1 jw_319 dX5_reckon_89 ?_
    refine jr_getkN (i := 16) jc_8 (jl_kd1 g25.2) (jl_kdlt g25.2 (by decide)) (Nat.le_of_ble_eq_true rfl) (js8_16 g25.2) jw_143 dX5_reckon_92 ?_
    refine jr_iconst dX5_reckon_95 ?_
    refine j2_callVi (As := [jl_vr G l1, jl_vr G ((jl_gr s0 190 0) + 10), jl_vi (0 : Int)]) dX5_reckon_96 (jt_X5_run G l1 ((jl_gr s0 190 0) + 10) (0 : Int) (jl_nlit rfl) s0) jv_X5_run ⟨rfl, rfl, rfl⟩ jw_801 jk_190 (by decide) (by decide) rfl ⟨Nat.le_of_ble_eq_true rfl, Nat.le_of_ble_eq_true rfl⟩ rfl (Nat.le_of_ble_eq_true rfl) (fun r26 s27 hr26 => ?_)
    refine j2_callSi (As := [jl_vi r26]) dX5_reckon_99 (jt_X5_draughtyBy G r26 hr26 s27) jv_X5_draughtyBy ⟨rfl, rfl, rfl⟩ jw_817 ⟨Nat.le_of_ble_eq_true rfl, Nat.le_of_ble_eq_true rfl⟩ rfl (Nat.le_of_ble_eq_true rfl) (fun r28 s29 hr28 => ?_)
    refine jr_iastore jk_192 (by decide) (jl_nlit rfl) ⟨by decide, by decide⟩ dX5_reckon_102 ?_
    refine jr_lm (fun s30 => ?_)
    refine jr_sub [0, 1, 2, 3, 4, 5] rfl ?_
    exact jj_X5_reckon_B103 G l1 l2 l3 l4 l5 hl1 hl2 hl3 hl4 hl5 s30
  · refine jr_sub [0, 1, 2, 3, 4, 5] rfl ?_
    exact jj_X5_reckon_B103 G l1 l2 l3 l4 l5 hl1 hl2 hl3 hl4 hl5 s0
def jf_X5_reckon (q1 : Nat) (v2 : Int) (q3 : Nat) (v4 : Int) (s0 : jl_Mm) : jl_O :=
  if (jl_kd q1).1 = 7 then if (jl_kd q3).1 = 0 then if 0 ≤ s0 190 0 ∧ (jl_kd (jl_gr s0 190 0)).1 = 8 then if 0 ≤ v2 ∧ v2 < ((8 : Nat) : Int) then jl_let (jl_g s0 ((jl_gr s0 190 0) + 5) (v2).toNat) fun x3 => if 0 ≤ v4 ∧ v4 < ((3 : Nat) : Int) then jl_let (jl_g s0 (q3 + 4) (v4).toNat) fun x5 => jl_lm (jl_up s0 192 (((19 : Int) : Int).toNat) (jl_g s0 q1 0)) fun s6 => if 0 ≤ x3 ∧ x3 < ((6 : Nat) : Int) then jl_lm (jl_up s6 192 (((20 : Int) : Int).toNat) (jl_g s6 (q1 + 1) (x3).toNat)) fun s8 => if jl_and (jl_shr x5 (16 : Int)) (1 : Int) = (1 : Int) then (jl_bd (jf_X5_nearTo q1 v2 s8) fun r31 s32 => jl_lm (jl_up s32 192 (((16 : Int) : Int).toNat) r31) fun s33 => jf_X5_reckon_B69 q1 v2 q3 v4 x3 x5 s33) else (jf_X5_reckon_B69 q1 v2 q3 v4 x3 x5 s8) else none else none else none else none else none else none
set_option maxRecDepth 20000 in
set_option maxHeartbeats 2000000 in
theorem jt_X5_reckon (G : jl_GC) (q1 : Nat) (v2 : Int) (q3 : Nat) (v4 : Int) (h2 : jl_n3 v2) (h4 : jl_n3 v4) (s0 : jl_Mm) : jC2 G jM_X5_reckon [jl_vr G 190, jl_vr G q1, jl_vi v2, jl_vr G q3, jl_vi v4] s0 (jf_X5_reckon q1 v2 q3 v4 s0) := by
  refine jl_met (plainFor_of_name rfl) (Nat.le_of_ble_eq_true rfl) ?_
  show j2 G jM_X5_reckon 0 [(0, jl_vr G 190), (1, jl_vr G q1), (2, jl_vi v2), (3, jl_vr G q3), (4, jl_vi v4)] [] s0 _
  refine jr_grd (fun gp1 => ?_)
  refine jr_grd (fun gp3 => ?_)
  refine jr_aload_n dX5_reckon_0 0 rfl ?_
  refine jr_grd (fun g1 => ?_)
  refine jr_getr (i := 0) jc_5 jk_190 (by decide) (Nat.le_of_ble_eq_true rfl) jlk_190_0 jft_5_0 g1.1 jw_319 dX5_reckon_1 ?_
  refine jr_getkN (i := 11) jc_8 (jl_kd1 g1.2) (jl_kdlt g1.2 (by decide)) (Nat.le_of_ble_eq_true rfl) (js8_11 g1.2) jw_126 dX5_reckon_4 ?_
  refine jr_iload_n dX5_reckon_7 2 rfl ?_
  refine jr_grd (fun g2 => ?_)
  refine jr_iaload (js8k_11 g1.2) (jl_kdl (js8k_11 g1.2) (by decide)) h2 g2 dX5_reckon_8 ?_
  refine jr_let (jl_n3_to _) (fun x3 hx3 => ?_)
  refine jr_istore (lv := [(5, jl_vi x3), (0, jl_vr G 190), (1, jl_vr G q1), (2, jl_vi v2), (3, jl_vr G q3), (4, jl_vi v4)]) dX5_reckon_9 (Nat.le_of_ble_eq_true rfl) rfl ?_
  refine jr_aload_n dX5_reckon_11 4 rfl ?_
  refine jr_getkN (i := 3) jc_0 (jl_kd1 gp3) (jl_kdlt gp3 (by decide)) (Nat.le_of_ble_eq_true rfl) (js0_3 gp3) jw_61 dX5_reckon_12 ?_
  refine jr_iload dX5_reckon_15 5 rfl ?_
  refine jr_grd (fun g4 => ?_)
  refine jr_iaload (js0k_3 gp3) (jl_kdl (js0k_3 gp3) (by decide)) h4 g4 dX5_reckon_17 ?_
  refine jr_let (jl_n3_to _) (fun x5 hx5 => ?_)
  refine jr_istore (lv := [(6, jl_vi x5), (5, jl_vi x3), (0, jl_vr G 190), (1, jl_vr G q1), (2, jl_vi v2), (3, jl_vr G q3), (4, jl_vi v4)]) dX5_reckon_18 (Nat.le_of_ble_eq_true rfl) rfl ?_
  refine jr_aload_n dX5_reckon_20 2 rfl ?_
  refine jr_getk (i := 2) jc_5 jk_190 (by decide) (Nat.le_of_ble_eq_true rfl) jlk_190_2 jw_324 dX5_reckon_21 ?_
  refine jr_bipush dX5_reckon_24 (by decide) ?_
  refine jr_aload_n dX5_reckon_26 3 rfl ?_
  refine jr_getiN (i := 0) jc_7 (jl_kd1 gp1) (jl_kdlt gp1 (by decide)) (Nat.le_of_ble_eq_true rfl) (js7n_0 gp1) jft_7_0 jw_240 dX5_reckon_27 ?_
  refine jr_iastore jk_192 (by decide) (jl_nlit rfl) ⟨by decide, by decide⟩ dX5_reckon_30 ?_
  refine jr_lm (fun s6 => ?_)
  refine jr_aload_n dX5_reckon_31 2 rfl ?_
  refine jr_getk (i := 2) jc_5 jk_190 (by decide) (Nat.le_of_ble_eq_true rfl) jlk_190_2 jw_324 dX5_reckon_32 ?_
  refine jr_bipush dX5_reckon_35 (by decide) ?_
  refine jr_aload_n dX5_reckon_37 3 rfl ?_
  refine jr_getkN (i := 2) jc_7 (jl_kd1 gp1) (jl_kdlt gp1 (by decide)) (Nat.le_of_ble_eq_true rfl) (js7_2 gp1) jw_245 dX5_reckon_38 ?_
  refine jr_iload dX5_reckon_41 1 rfl ?_
  refine jr_grd (fun g7 => ?_)
  refine jr_iaload (js7k_2 gp1) (jl_kdl (js7k_2 gp1) (by decide)) hx3 g7 dX5_reckon_43 ?_
  refine jr_iastore jk_192 (by decide) (jl_nlit rfl) ⟨by decide, by decide⟩ dX5_reckon_44 ?_
  refine jr_lm (fun s8 => ?_)
  refine jr_iload dX5_reckon_45 0 rfl ?_
  refine jr_bipush dX5_reckon_47 (by decide) ?_
  refine jr_ishr dX5_reckon_49 ?_
  refine jr_iconst dX5_reckon_50 ?_
  refine jr_iand dX5_reckon_51 ?_
  refine jr_iconst dX5_reckon_52 ?_
  refine jr_icmp_ne (t := 69) dX5_reckon_53 (by decide) (jl_n3_to _) (jl_nlit rfl) (fun c9 => ?_) (fun c9 => ?_)
  · refine jr_aload_n dX5_reckon_56 2 rfl ?_
    refine jr_getk (i := 2) jc_5 jk_190 (by decide) (Nat.le_of_ble_eq_true rfl) jlk_190_2 jw_324 dX5_reckon_57 ?_
    refine jr_bipush dX5_reckon_60 (by decide) ?_
    refine jr_aload_n dX5_reckon_62 2 rfl ?_
    refine jr_aload_n dX5_reckon_63 3 rfl ?_
    refine jr_iload_n dX5_reckon_64 4 rfl ?_
    refine j2_callVi (As := [jl_vr G q1, jl_vi v2]) dX5_reckon_65 (jt_X5_nearTo G q1 v2 h2 s8) jv_X5_nearTo ⟨rfl, rfl, rfl⟩ jw_797 jk_190 (by decide) (by decide) rfl ⟨Nat.le_of_ble_eq_true rfl, Nat.le_of_ble_eq_true rfl⟩ rfl (Nat.le_of_ble_eq_true rfl) (fun r31 s32 hr31 => ?_)
    refine jr_iastore jk_192 (by decide) (jl_nlit rfl) ⟨by decide, by decide⟩ dX5_reckon_68 ?_
    refine jr_lm (fun s33 => ?_)
    refine jr_sub [2, 3, 4, 5, 6, 1, 0] rfl ?_
    exact jj_X5_reckon_B69 G q1 v2 q3 v4 x3 x5 gp1 h2 gp3 h4 hx3 hx5 s33
  · refine jr_sub [2, 3, 4, 5, 6, 1, 0] rfl ?_
    exact jj_X5_reckon_B69 G q1 v2 q3 v4 x3 x5 gp1 h2 gp3 h4 hx3 hx5 s8
def jf_X5_believed_B81 (R4 : Nat → Int → Int → jl_Mm → jl_O) (l1 : Nat) (l2 : Int) (l3 : Int) (s0 : jl_Mm) : jl_O :=
  R4 l1 l2 (jl_add l3 1) s0
set_option maxRecDepth 20000 in
set_option maxHeartbeats 2000000 in
theorem jj_X5_believed_B81 (G : jl_GC) (R4 : Nat → Int → Int → jl_Mm → jl_O) (hR4 : ∀ (l1 : Nat) (l2 : Int) (l3 : Int) (_hl1 : (jl_kd l1).1 = 7) (_hl2 : jl_n3 l2) (_hl3 : jl_n3 l3) (s0 : jl_Mm), j2 G jM_X5_believed 4 [(0, jl_vr G 190), (1, jl_vr G l1), (2, jl_vi l2), (3, jl_vi l3)] [] s0 (R4 l1 l2 l3 s0)) (l1 : Nat) (l2 : Int) (l3 : Int) (hl1 : (jl_kd l1).1 = 7) (hl2 : jl_n3 l2) (hl3 : jl_n3 l3) (s0 : jl_Mm) : j2 G jM_X5_believed 81 [(0, jl_vr G 190), (1, jl_vr G l1), (2, jl_vi l2), (3, jl_vi l3)] [] s0 (jf_X5_believed_B81 R4 l1 l2 l3 s0) := by
  refine jr_iinc (j := 3) (lv := [(3, jl_vi (jl_add l3 1)), (0, jl_vr G 190), (1, jl_vr G l1), (2, jl_vi l2)]) dX5_believed_81 rfl (Nat.le_of_ble_eq_true rfl) rfl ?_
  refine jr_goto (t := 4) dX5_believed_84 (by decide) ?_
  refine jr_sub [1, 2, 3, 0] rfl ?_
  exact hR4 l1 l2 (jl_add l3 1) hl1 hl2 (jl_n3_to _) s0
def jf_X5_believed_B46 (R4 : Nat → Int → Int → jl_Mm → jl_O) (l1 : Nat) (l2 : Int) (l3 : Int) (k0 : Int) (s0 : jl_Mm) : jl_O :=
  if k0 = (0 : Int) then (jf_X5_believed_B81 (R4) l1 l2 l3 s0) else (if 0 ≤ l3 ∧ l3 < ((8 : Nat) : Int) then if jl_g s0 (l1 + 2) (l3).toNat ≤ (0 : Int) then (jf_X5_believed_B81 (R4) l1 l2 l3 s0) else (if 0 ≤ s0 190 0 ∧ (jl_kd (jl_gr s0 190 0)).1 = 8 then jl_bd (jf_X5_reckon l1 l3 ((jl_gr s0 190 0) + 10) (2 : Int) s0) fun r11 s12 => jl_let (jl_or l2 (jl_shl r11 l3)) fun x13 => jf_X5_believed_B81 (R4) l1 x13 l3 s12 else none) else none)
set_option maxRecDepth 20000 in
set_option maxHeartbeats 2000000 in
theorem jj_X5_believed_B46 (G : jl_GC) (R4 : Nat → Int → Int → jl_Mm → jl_O) (hR4 : ∀ (l1 : Nat) (l2 : Int) (l3 : Int) (_hl1 : (jl_kd l1).1 = 7) (_hl2 : jl_n3 l2) (_hl3 : jl_n3 l3) (s0 : jl_Mm), j2 G jM_X5_believed 4 [(0, jl_vr G 190), (1, jl_vr G l1), (2, jl_vi l2), (3, jl_vi l3)] [] s0 (R4 l1 l2 l3 s0)) (l1 : Nat) (l2 : Int) (l3 : Int) (k0 : Int) (hl1 : (jl_kd l1).1 = 7) (hl2 : jl_n3 l2) (hl3 : jl_n3 l3) (hk0 : jl_n3 k0) (s0 : jl_Mm) : j2 G jM_X5_believed 46 [(0, jl_vr G 190), (1, jl_vr G l1), (2, jl_vi l2), (3, jl_vi l3)] [jl_vi k0] s0 (jf_X5_believed_B46 R4 l1 l2 l3 k0 s0) := by
  refine jr_istore (lv := [(5, jl_vi k0), (0, jl_vr G 190), (1, jl_vr G l1), (2, jl_vi l2), (3, jl_vi l3)]) dX5_believed_46 (Nat.le_of_ble_eq_true rfl) rfl ?_
  refine jr_iload dX5_believed_48 0 rfl ?_
  refine jr_if_eq (t := 81) dX5_believed_50 (by decide) hk0 (fun c7 => ?_) (fun c7 => ?_)
  · refine jr_sub [1, 2, 3, 4] rfl ?_
    exact jj_X5_believed_B81 G (R4) (hR4) l1 l2 l3 hl1 hl2 hl3 s0
  · refine jr_aload_n dX5_believed_53 2 rfl ?_
    refine jr_getkN (i := 3) jc_7 (jl_kd1 hl1) (jl_kdlt hl1 (by decide)) (Nat.le_of_ble_eq_true rfl) (js7_3 hl1) jw_249 dX5_believed_54 ?_
    refine jr_iload_n dX5_believed_57 4 rfl ?_
    refine jr_grd (fun g8 => ?_)
    refine jr_iaload (js7k_3 hl1) (jl_kdl (js7k_3 hl1) (by decide)) hl3 g8 dX5_believed_58 ?_
    refine jr_if_le (t := 81) dX5_believed_59 (by decide) (jl_n3_to _) (fun c9 => ?_) (fun c9 => ?_)
    · refine jr_sub [1, 2, 3, 4] rfl ?_
      exact jj_X5_believed_B81 G (R4) (hR4) l1 l2 l3 hl1 hl2 hl3 s0
    · refine jr_iload_n dX5_believed_62 3 rfl ?_
      refine jr_aload_n dX5_believed_63 1 rfl ?_
      refine jr_aload_n dX5_believed_64 2 rfl ?_
      refine jr_iload_n dX5_believed_65 4 rfl ?_
      refine jr_aload_n dX5_believed_66 1 rfl ?_
      refine jr_grd (fun g10 => ?_)
      refine jr_getr (i := 0) jc_5 jk_190 (by decide) (Nat.le_of_ble_eq_true rfl) jlk_190_0 jft_5_0 g10.1 jw_319 dX5_believed_67 ?_
      refine jr_getkN (i := 16) jc_8 (jl_kd1 g10.2) (jl_kdlt g10.2 (by decide)) (Nat.le_of_ble_eq_true rfl) (js8_16 g10.2) jw_143 dX5_believed_70 ?_
      refine jr_iconst dX5_believed_73 ?_
      refine j2_callVi (As := [jl_vr G l1, jl_vi l3, jl_vr G ((jl_gr s0 190 0) + 10), jl_vi (2 : Int)]) dX5_believed_74 (jt_X5_reckon G l1 l3 ((jl_gr s0 190 0) + 10) (2 : Int) hl3 (jl_nlit rfl) s0) jv_X5_reckon ⟨rfl, rfl, rfl⟩ jw_793 jk_190 (by decide) (by decide) rfl ⟨Nat.le_of_ble_eq_true rfl, Nat.le_of_ble_eq_true rfl⟩ rfl (Nat.le_of_ble_eq_true rfl) (fun r11 s12 hr11 => ?_)
      refine jr_iload_n dX5_believed_77 4 rfl ?_
      refine jr_ishl dX5_believed_78 ?_
      refine jr_ior dX5_believed_79 ?_
      refine jr_let (jl_n3_to _) (fun x13 hx13 => ?_)
      refine jr_istore_n (lv := [(2, jl_vi x13), (5, jl_vi k0), (0, jl_vr G 190), (1, jl_vr G l1), (3, jl_vi l3)]) dX5_believed_80 rfl (Nat.le_of_ble_eq_true rfl) rfl ?_
      refine jr_sub [2, 3, 0, 4] rfl ?_
      exact jj_X5_believed_B81 G (R4) (hR4) l1 x13 l3 hl1 hx13 hl3 s12
def jf_X5_believed_B41 (R4 : Nat → Int → Int → jl_Mm → jl_O) (l1 : Nat) (l2 : Int) (l3 : Int) (s0 : jl_Mm) : jl_O :=
  jf_X5_believed_B46 (R4) l1 l2 l3 (1 : Int) s0
set_option maxRecDepth 20000 in
set_option maxHeartbeats 2000000 in
theorem jj_X5_believed_B41 (G : jl_GC) (R4 : Nat → Int → Int → jl_Mm → jl_O) (hR4 : ∀ (l1 : Nat) (l2 : Int) (l3 : Int) (_hl1 : (jl_kd l1).1 = 7) (_hl2 : jl_n3 l2) (_hl3 : jl_n3 l3) (s0 : jl_Mm), j2 G jM_X5_believed 4 [(0, jl_vr G 190), (1, jl_vr G l1), (2, jl_vi l2), (3, jl_vi l3)] [] s0 (R4 l1 l2 l3 s0)) (l1 : Nat) (l2 : Int) (l3 : Int) (hl1 : (jl_kd l1).1 = 7) (hl2 : jl_n3 l2) (hl3 : jl_n3 l3) (s0 : jl_Mm) : j2 G jM_X5_believed 41 [(0, jl_vr G 190), (1, jl_vr G l1), (2, jl_vi l2), (3, jl_vi l3)] [] s0 (jf_X5_believed_B41 R4 l1 l2 l3 s0) := by
  refine jr_iconst dX5_believed_41 ?_
  refine jr_goto (t := 46) dX5_believed_42 (by decide) ?_
  exact jj_X5_believed_B46 G (R4) (hR4) l1 l2 l3 (1 : Int) hl1 hl2 hl3 (jl_nlit rfl) s0
def jf_X5_believed_L4 : Nat → Nat → Int → Int → jl_Mm → jl_O
  | 0, _, _, _, _ => none
  | n + 1, l1, l2, l3, s0 =>
    if 0 ≤ s0 190 0 ∧ (jl_kd (jl_gr s0 190 0)).1 = 8 then if jl_g s0 (jl_gr s0 190 0) 3 ≤ l3 then (some (l2, s0)) else (if 0 ≤ s0 190 0 ∧ (jl_kd (jl_gr s0 190 0)).1 = 8 then if 0 ≤ l3 ∧ l3 < ((8 : Nat) : Int) then jl_let (jl_g s0 ((jl_gr s0 190 0) + 6) (l3).toNat) fun x5 => if x5 < (0 : Int) then (jf_X5_believed_B41 (jf_X5_believed_L4 n) l1 l2 l3 s0) else (if jl_and (jl_shr l2 x5) (1 : Int) = (1 : Int) then (jf_X5_believed_B41 (jf_X5_believed_L4 n) l1 l2 l3 s0) else (jf_X5_believed_B46 (jf_X5_believed_L4 n) l1 l2 l3 (0 : Int) s0)) else none else none) else none
set_option maxRecDepth 20000 in
set_option maxHeartbeats 2000000 in
theorem jj_X5_believed_L4 (G : jl_GC) : ∀ (n : Nat) (l1 : Nat) (l2 : Int) (l3 : Int) (hl1 : (jl_kd l1).1 = 7) (hl2 : jl_n3 l2) (hl3 : jl_n3 l3) (s0 : jl_Mm), j2 G jM_X5_believed 4 [(0, jl_vr G 190), (1, jl_vr G l1), (2, jl_vi l2), (3, jl_vi l3)] [] s0 (jf_X5_believed_L4 n l1 l2 l3 s0) := by
  intro n
  induction n with
  | zero =>
    intros
    exact jr_none
  | succ n ih =>
    intro l1 l2 l3 hl1 hl2 hl3 s0
    refine jr_iload_n dX5_believed_4 3 rfl ?_
    refine jr_aload_n dX5_believed_5 0 rfl ?_
    refine jr_grd (fun g1 => ?_)
    refine jr_getr (i := 0) jc_5 jk_190 (by decide) (Nat.le_of_ble_eq_true rfl) jlk_190_0 jft_5_0 g1.1 jw_319 dX5_believed_6 ?_
    refine jr_getiN (i := 3) jc_8 (jl_kd1 g1.2) (jl_kdlt g1.2 (by decide)) (Nat.le_of_ble_eq_true rfl) (js8n_3 g1.2) jft_8_3 jw_101 dX5_believed_9 ?_
    refine jr_icmp_ge (t := 87) dX5_believed_12 (by decide) hl3 (jl_n3_to _) (fun c2 => ?_) (fun c2 => ?_)
    · refine jr_iload_n dX5_believed_87 2 rfl ?_
      exact jr_ret_i rfl hl2 dX5_believed_88
    · refine jr_aload_n dX5_believed_15 0 rfl ?_
      refine jr_grd (fun g3 => ?_)
      refine jr_getr (i := 0) jc_5 jk_190 (by decide) (Nat.le_of_ble_eq_true rfl) jlk_190_0 jft_5_0 g3.1 jw_319 dX5_believed_16 ?_
      refine jr_getkN (i := 12) jc_8 (jl_kd1 g3.2) (jl_kdlt g3.2 (by decide)) (Nat.le_of_ble_eq_true rfl) (js8_12 g3.2) jw_129 dX5_believed_19 ?_
      refine jr_iload_n dX5_believed_22 3 rfl ?_
      refine jr_grd (fun g4 => ?_)
      refine jr_iaload (js8k_12 g3.2) (jl_kdl (js8k_12 g3.2) (by decide)) hl3 g4 dX5_believed_23 ?_
      refine jr_let (jl_n3_to _) (fun x5 hx5 => ?_)
      refine jr_istore (lv := [(4, jl_vi x5), (0, jl_vr G 190), (1, jl_vr G l1), (2, jl_vi l2), (3, jl_vi l3)]) dX5_believed_24 (Nat.le_of_ble_eq_true rfl) rfl ?_
      refine jr_iload dX5_believed_26 0 rfl ?_
      refine jr_if_lt (t := 41) dX5_believed_28 (by decide) hx5 (fun c6 => ?_) (fun c6 => ?_)
      · refine jr_sub [1, 2, 3, 4] rfl ?_
        exact jj_X5_believed_B41 G (jf_X5_believed_L4 n) (ih) l1 l2 l3 hl1 hl2 hl3 s0
      · refine jr_iload_n dX5_believed_31 3 rfl ?_
        refine jr_iload dX5_believed_32 0 rfl ?_
        refine jr_ishr dX5_believed_34 ?_
        refine jr_iconst dX5_believed_35 ?_
        refine jr_iand dX5_believed_36 ?_
        refine jr_iconst dX5_believed_37 ?_
        refine jr_icmp_ne (t := 45) dX5_believed_38 (by decide) (jl_n3_to _) (jl_nlit rfl) (fun c14 => ?_) (fun c14 => ?_)
        · refine jr_sub [1, 2, 3, 4] rfl ?_
          exact jj_X5_believed_B41 G (jf_X5_believed_L4 n) (ih) l1 l2 l3 hl1 hl2 hl3 s0
        · refine jr_iconst dX5_believed_45 ?_
          refine jr_sub [1, 2, 3, 4] rfl ?_
          exact jj_X5_believed_B46 G (jf_X5_believed_L4 n) (ih) l1 l2 l3 (0 : Int) hl1 hl2 hl3 (jl_nlit rfl) s0
def jf_X5_believed (q1 : Nat) (s0 : jl_Mm) : jl_O :=
  if (jl_kd q1).1 = 7 then jf_X5_believed_L4 jl_fu q1 (0 : Int) (0 : Int) s0 else none
set_option maxRecDepth 20000 in
set_option maxHeartbeats 2000000 in
theorem jt_X5_believed (G : jl_GC) (q1 : Nat) (s0 : jl_Mm) : jC2 G jM_X5_believed [jl_vr G 190, jl_vr G q1] s0 (jf_X5_believed q1 s0) := by
  refine jl_met (plainFor_of_name rfl) (Nat.le_of_ble_eq_true rfl) ?_
  show j2 G jM_X5_believed 0 [(0, jl_vr G 190), (1, jl_vr G q1)] [] s0 _
  refine jr_grd (fun gp1 => ?_)
  refine jr_iconst dX5_believed_0 ?_
  refine jr_istore_n (lv := [(2, jl_vi (0 : Int)), (0, jl_vr G 190), (1, jl_vr G q1)]) dX5_believed_1 rfl (Nat.le_of_ble_eq_true rfl) rfl ?_
  refine jr_iconst dX5_believed_2 ?_
  refine jr_istore_n (lv := [(3, jl_vi (0 : Int)), (2, jl_vi (0 : Int)), (0, jl_vr G 190), (1, jl_vr G q1)]) dX5_believed_3 rfl (Nat.le_of_ble_eq_true rfl) rfl ?_
  refine jr_sub [2, 3, 1, 0] rfl ?_
  exact jj_X5_believed_L4 G jl_fu q1 (0 : Int) (0 : Int) gp1 (jl_nlit rfl) (jl_nlit rfl) s0
def jf_X5_litLies_B30 (R4 : Nat → Int → Int → jl_Mm → jl_O) (l1 : Nat) (l2 : Int) (l3 : Int) (s0 : jl_Mm) : jl_O :=
  R4 l1 l2 (jl_add l3 1) s0
set_option maxRecDepth 20000 in
set_option maxHeartbeats 2000000 in
theorem jj_X5_litLies_B30 (G : jl_GC) (R4 : Nat → Int → Int → jl_Mm → jl_O) (hR4 : ∀ (l1 : Nat) (l2 : Int) (l3 : Int) (_hl1 : (jl_kd l1).1 = 7) (_hl2 : jl_n3 l2) (_hl3 : jl_n3 l3) (s0 : jl_Mm), j2 G jM_X5_litLies 4 [(0, jl_vr G 190), (1, jl_vr G l1), (2, jl_vi l2), (3, jl_vi l3)] [] s0 (R4 l1 l2 l3 s0)) (l1 : Nat) (l2 : Int) (l3 : Int) (hl1 : (jl_kd l1).1 = 7) (hl2 : jl_n3 l2) (hl3 : jl_n3 l3) (s0 : jl_Mm) : j2 G jM_X5_litLies 30 [(0, jl_vr G 190), (1, jl_vr G l1), (2, jl_vi l2), (3, jl_vi l3)] [] s0 (jf_X5_litLies_B30 R4 l1 l2 l3 s0) := by
  refine jr_iinc (j := 3) (lv := [(3, jl_vi (jl_add l3 1)), (0, jl_vr G 190), (1, jl_vr G l1), (2, jl_vi l2)]) dX5_litLies_30 rfl (Nat.le_of_ble_eq_true rfl) rfl ?_
  refine jr_goto (t := 4) dX5_litLies_33 (by decide) ?_
  refine jr_sub [1, 2, 3, 0] rfl ?_
  exact hR4 l1 l2 (jl_add l3 1) hl1 hl2 (jl_n3_to _) s0
def jf_X5_litLies_L4 : Nat → Nat → Int → Int → jl_Mm → jl_O
  | 0, _, _, _, _ => none
  | n + 1, l1, l2, l3, s0 =>
    if 0 ≤ s0 190 0 ∧ (jl_kd (jl_gr s0 190 0)).1 = 8 then if jl_g s0 (jl_gr s0 190 0) 3 ≤ l3 then (some (l2, s0)) else (if 0 ≤ l3 ∧ l3 < ((8 : Nat) : Int) then if jl_g s0 (l1 + 2) (l3).toNat ≤ (0 : Int) then (jf_X5_litLies_B30 (jf_X5_litLies_L4 n) l1 l2 l3 s0) else (jl_let (jl_or l2 (jl_shl (1 : Int) l3)) fun x5 => jf_X5_litLies_B30 (jf_X5_litLies_L4 n) l1 x5 l3 s0) else none) else none
set_option maxRecDepth 20000 in
set_option maxHeartbeats 2000000 in
theorem jj_X5_litLies_L4 (G : jl_GC) : ∀ (n : Nat) (l1 : Nat) (l2 : Int) (l3 : Int) (hl1 : (jl_kd l1).1 = 7) (hl2 : jl_n3 l2) (hl3 : jl_n3 l3) (s0 : jl_Mm), j2 G jM_X5_litLies 4 [(0, jl_vr G 190), (1, jl_vr G l1), (2, jl_vi l2), (3, jl_vi l3)] [] s0 (jf_X5_litLies_L4 n l1 l2 l3 s0) := by
  intro n
  induction n with
  | zero =>
    intros
    exact jr_none
  | succ n ih =>
    intro l1 l2 l3 hl1 hl2 hl3 s0
    refine jr_iload_n dX5_litLies_4 3 rfl ?_
    refine jr_aload_n dX5_litLies_5 0 rfl ?_
    refine jr_grd (fun g1 => ?_)
    refine jr_getr (i := 0) jc_5 jk_190 (by decide) (Nat.le_of_ble_eq_true rfl) jlk_190_0 jft_5_0 g1.1 jw_319 dX5_litLies_6 ?_
    refine jr_getiN (i := 3) jc_8 (jl_kd1 g1.2) (jl_kdlt g1.2 (by decide)) (Nat.le_of_ble_eq_true rfl) (js8n_3 g1.2) jft_8_3 jw_101 dX5_litLies_9 ?_
    refine jr_icmp_ge (t := 36) dX5_litLies_12 (by decide) hl3 (jl_n3_to _) (fun c2 => ?_) (fun c2 => ?_)
    · refine jr_iload_n dX5_litLies_36 2 rfl ?_
      exact jr_ret_i rfl hl2 dX5_litLies_37
    · refine jr_aload_n dX5_litLies_15 1 rfl ?_
      refine jr_getkN (i := 3) jc_7 (jl_kd1 hl1) (jl_kdlt hl1 (by decide)) (Nat.le_of_ble_eq_true rfl) (js7_3 hl1) jw_249 dX5_litLies_16 ?_
      refine jr_iload_n dX5_litLies_19 3 rfl ?_
      refine jr_grd (fun g3 => ?_)
      refine jr_iaload (js7k_3 hl1) (jl_kdl (js7k_3 hl1) (by decide)) hl3 g3 dX5_litLies_20 ?_
      refine jr_if_le (t := 30) dX5_litLies_21 (by decide) (jl_n3_to _) (fun c4 => ?_) (fun c4 => ?_)
      · exact jj_X5_litLies_B30 G (jf_X5_litLies_L4 n) (ih) l1 l2 l3 hl1 hl2 hl3 s0
      · refine jr_iload_n dX5_litLies_24 2 rfl ?_
        refine jr_iconst dX5_litLies_25 ?_
        refine jr_iload_n dX5_litLies_26 3 rfl ?_
        refine jr_ishl dX5_litLies_27 ?_
        refine jr_ior dX5_litLies_28 ?_
        refine jr_let (jl_n3_to _) (fun x5 hx5 => ?_)
        refine jr_istore_n (lv := [(2, jl_vi x5), (0, jl_vr G 190), (1, jl_vr G l1), (3, jl_vi l3)]) dX5_litLies_29 rfl (Nat.le_of_ble_eq_true rfl) rfl ?_
        refine jr_sub [1, 2, 0, 3] rfl ?_
        exact jj_X5_litLies_B30 G (jf_X5_litLies_L4 n) (ih) l1 x5 l3 hl1 hx5 hl3 s0
def jf_X5_litLies (q1 : Nat) (s0 : jl_Mm) : jl_O :=
  if (jl_kd q1).1 = 7 then jf_X5_litLies_L4 jl_fu q1 (0 : Int) (0 : Int) s0 else none
set_option maxRecDepth 20000 in
set_option maxHeartbeats 2000000 in
theorem jt_X5_litLies (G : jl_GC) (q1 : Nat) (s0 : jl_Mm) : jC2 G jM_X5_litLies [jl_vr G 190, jl_vr G q1] s0 (jf_X5_litLies q1 s0) := by
  refine jl_met (plainFor_of_name rfl) (Nat.le_of_ble_eq_true rfl) ?_
  show j2 G jM_X5_litLies 0 [(0, jl_vr G 190), (1, jl_vr G q1)] [] s0 _
  refine jr_grd (fun gp1 => ?_)
  refine jr_iconst dX5_litLies_0 ?_
  refine jr_istore_n (lv := [(2, jl_vi (0 : Int)), (0, jl_vr G 190), (1, jl_vr G q1)]) dX5_litLies_1 rfl (Nat.le_of_ble_eq_true rfl) rfl ?_
  refine jr_iconst dX5_litLies_2 ?_
  refine jr_istore_n (lv := [(3, jl_vi (0 : Int)), (2, jl_vi (0 : Int)), (0, jl_vr G 190), (1, jl_vr G q1)]) dX5_litLies_3 rfl (Nat.le_of_ble_eq_true rfl) rfl ?_
  refine jr_sub [2, 3, 1, 0] rfl ?_
  exact jj_X5_litLies_L4 G jl_fu q1 (0 : Int) (0 : Int) gp1 (jl_nlit rfl) (jl_nlit rfl) s0
def jf_X11_has (v1 : Int) (s0 : jl_Mm) : jl_O :=
  if v1 = 0 then (if 0 ≤ s0 0 2 ∧ (jl_kd (jl_gr s0 0 2)).1 = 8 then some (jl_g s0 (jl_gr s0 0 2) 1, s0) else none) else if v1 = 1 then (if 0 ≤ s0 0 2 ∧ (jl_kd (jl_gr s0 0 2)).1 = 8 then some (jl_g s0 (jl_gr s0 0 2) 2, s0) else none) else if v1 = 2 then (if 0 ≤ s0 0 2 ∧ (jl_kd (jl_gr s0 0 2)).1 = 8 then some (jl_g s0 (jl_gr s0 0 2) 3, s0) else none) else if v1 = 3 then (if 0 ≤ s0 0 2 ∧ (jl_kd (jl_gr s0 0 2)).1 = 8 then some (jl_g s0 (jl_gr s0 0 2) 4, s0) else none) else if v1 = 4 then (some (jl_g s0 40 0, s0)) else if v1 = 5 then (some (jl_g s0 40 1, s0)) else if v1 = 6 then (jl_bd (jf_X5_litLies 40 s0) fun r12 s13 => jl_bd (jf_J6_bitCount_0f7a4 r12 s13) fun r14 s15 => some (r14, s15)) else if v1 = 7 then (jl_bd (jf_X5_believed 40 s0) fun r17 s18 => jl_bd (jf_J6_bitCount_0f7a4 r17 s18) fun r19 s20 => some (r19, s20)) else if v1 = 8 then (some (jl_g s0 44 3, s0)) else if v1 = 9 then (some (jl_g s0 200 4, s0)) else if v1 = 10 then (some (jl_g s0 47 3, s0)) else (some ((-1 : Int), s0))
set_option maxRecDepth 20000 in
set_option maxHeartbeats 2000000 in
theorem jt_X11_has (G : jl_GC) (v1 : Int) (h1 : jl_n3 v1) (s0 : jl_Mm) : jC2 G jM_X11_has [jl_vr G 0, jl_vi v1] s0 (jf_X11_has v1 s0) := by
  refine jl_met (plainFor_of_name rfl) (Nat.le_of_ble_eq_true rfl) ?_
  show j2 G jM_X11_has 0 [(0, jl_vr G 0), (1, jl_vi v1)] [] s0 _
  refine jr_iload_n dX11_has_0 1 rfl ?_
  refine jr_ite (fun c1 => ?_) (fun c1 => ?_)
  · refine jr_tabIn (t := 60) dX11_has_1 h1 (by omega) (by omega) (by rw [c1]; rfl) (by decide) ?_
    refine jr_aload_n dX11_has_60 0 rfl ?_
    refine jr_grd (fun g2 => ?_)
    refine jr_getr (i := 2) jc_11 jk_0 (by decide) (Nat.le_of_ble_eq_true rfl) jlk_0_2 jft_11_2 g2.1 jw_426 dX11_has_61 ?_
    refine jr_getiN (i := 1) jc_8 (jl_kd1 g2.2) (jl_kdlt g2.2 (by decide)) (Nat.le_of_ble_eq_true rfl) (js8n_1 g2.2) jft_8_1 jw_91 dX11_has_64 ?_
    exact jr_ret_i rfl (jl_n3_to _) dX11_has_67
  · skip
    refine jr_ite (fun c3 => ?_) (fun c3 => ?_)
    · refine jr_tabIn (t := 68) dX11_has_1 h1 (by omega) (by omega) (by rw [c3]; rfl) (by decide) ?_
      refine jr_aload_n dX11_has_68 0 rfl ?_
      refine jr_grd (fun g4 => ?_)
      refine jr_getr (i := 2) jc_11 jk_0 (by decide) (Nat.le_of_ble_eq_true rfl) jlk_0_2 jft_11_2 g4.1 jw_426 dX11_has_69 ?_
      refine jr_getiN (i := 2) jc_8 (jl_kd1 g4.2) (jl_kdlt g4.2 (by decide)) (Nat.le_of_ble_eq_true rfl) (js8n_2 g4.2) jft_8_2 jw_97 dX11_has_72 ?_
      exact jr_ret_i rfl (jl_n3_to _) dX11_has_75
    · skip
      refine jr_ite (fun c5 => ?_) (fun c5 => ?_)
      · refine jr_tabIn (t := 76) dX11_has_1 h1 (by omega) (by omega) (by rw [c5]; rfl) (by decide) ?_
        refine jr_aload_n dX11_has_76 0 rfl ?_
        refine jr_grd (fun g6 => ?_)
        refine jr_getr (i := 2) jc_11 jk_0 (by decide) (Nat.le_of_ble_eq_true rfl) jlk_0_2 jft_11_2 g6.1 jw_426 dX11_has_77 ?_
        refine jr_getiN (i := 3) jc_8 (jl_kd1 g6.2) (jl_kdlt g6.2 (by decide)) (Nat.le_of_ble_eq_true rfl) (js8n_3 g6.2) jft_8_3 jw_104 dX11_has_80 ?_
        exact jr_ret_i rfl (jl_n3_to _) dX11_has_83
      · skip
        refine jr_ite (fun c7 => ?_) (fun c7 => ?_)
        · refine jr_tabIn (t := 84) dX11_has_1 h1 (by omega) (by omega) (by rw [c7]; rfl) (by decide) ?_
          refine jr_aload_n dX11_has_84 0 rfl ?_
          refine jr_grd (fun g8 => ?_)
          refine jr_getr (i := 2) jc_11 jk_0 (by decide) (Nat.le_of_ble_eq_true rfl) jlk_0_2 jft_11_2 g8.1 jw_426 dX11_has_85 ?_
          refine jr_getiN (i := 4) jc_8 (jl_kd1 g8.2) (jl_kdlt g8.2 (by decide)) (Nat.le_of_ble_eq_true rfl) (js8n_4 g8.2) jft_8_4 jw_107 dX11_has_88 ?_
          exact jr_ret_i rfl (jl_n3_to _) dX11_has_91
        · skip
          refine jr_ite (fun c9 => ?_) (fun c9 => ?_)
          · refine jr_tabIn (t := 92) dX11_has_1 h1 (by omega) (by omega) (by rw [c9]; rfl) (by decide) ?_
            refine jr_aload_n dX11_has_92 0 rfl ?_
            refine jr_getk (i := 6) jc_11 jk_0 (by decide) (Nat.le_of_ble_eq_true rfl) jlk_0_6 jw_430 dX11_has_93 ?_
            refine jr_getiN (i := 0) jc_7 jk_40 (by decide) (Nat.le_of_ble_eq_true rfl) jlk_40_0 jft_7_0 jw_239 dX11_has_96 ?_
            exact jr_ret_i rfl (jl_n3_to _) dX11_has_99
          · skip
            refine jr_ite (fun c10 => ?_) (fun c10 => ?_)
            · refine jr_tabIn (t := 100) dX11_has_1 h1 (by omega) (by omega) (by rw [c10]; rfl) (by decide) ?_
              refine jr_aload_n dX11_has_100 0 rfl ?_
              refine jr_getk (i := 6) jc_11 jk_0 (by decide) (Nat.le_of_ble_eq_true rfl) jlk_0_6 jw_430 dX11_has_101 ?_
              refine jr_getiN (i := 1) jc_7 jk_40 (by decide) (Nat.le_of_ble_eq_true rfl) jlk_40_1 jft_7_1 jw_242 dX11_has_104 ?_
              exact jr_ret_i rfl (jl_n3_to _) dX11_has_107
            · skip
              refine jr_ite (fun c11 => ?_) (fun c11 => ?_)
              · refine jr_tabIn (t := 108) dX11_has_1 h1 (by omega) (by omega) (by rw [c11]; rfl) (by decide) ?_
                refine jr_aload_n dX11_has_108 0 rfl ?_
                refine jr_getk (i := 9) jc_11 jk_0 (by decide) (Nat.le_of_ble_eq_true rfl) jlk_0_9 jw_433 dX11_has_109 ?_
                refine jr_aload_n dX11_has_112 0 rfl ?_
                refine jr_getk (i := 6) jc_11 jk_0 (by decide) (Nat.le_of_ble_eq_true rfl) jlk_0_6 jw_430 dX11_has_113 ?_
                refine j2_callVi (As := [jl_vr G 40]) dX11_has_116 (jt_X5_litLies G 40 s0) jv_X5_litLies ⟨rfl, rfl, rfl⟩ jw_779 jk_190 (by decide) (by decide) rfl ⟨Nat.le_of_ble_eq_true rfl, Nat.le_of_ble_eq_true rfl⟩ rfl (Nat.le_of_ble_eq_true rfl) (fun r12 s13 hr12 => ?_)
                refine j2_callSi (As := [jl_vi r12]) dX11_has_119 (jt_J6_bitCount_0f7a4 G r12 hr12 s13) jv_J6_bitCount_0f7a4 ⟨rfl, rfl, rfl⟩ jw_783 ⟨Nat.le_of_ble_eq_true rfl, Nat.le_of_ble_eq_true rfl⟩ rfl (Nat.le_of_ble_eq_true rfl) (fun r14 s15 hr14 => ?_)
                exact jr_ret_i rfl hr14 dX11_has_122
              · skip
                refine jr_ite (fun c16 => ?_) (fun c16 => ?_)
                · refine jr_tabIn (t := 123) dX11_has_1 h1 (by omega) (by omega) (by rw [c16]; rfl) (by decide) ?_
                  refine jr_aload_n dX11_has_123 0 rfl ?_
                  refine jr_getk (i := 9) jc_11 jk_0 (by decide) (Nat.le_of_ble_eq_true rfl) jlk_0_9 jw_433 dX11_has_124 ?_
                  refine jr_aload_n dX11_has_127 0 rfl ?_
                  refine jr_getk (i := 6) jc_11 jk_0 (by decide) (Nat.le_of_ble_eq_true rfl) jlk_0_6 jw_430 dX11_has_128 ?_
                  refine j2_callVi (As := [jl_vr G 40]) dX11_has_131 (jt_X5_believed G 40 s0) jv_X5_believed ⟨rfl, rfl, rfl⟩ jw_789 jk_190 (by decide) (by decide) rfl ⟨Nat.le_of_ble_eq_true rfl, Nat.le_of_ble_eq_true rfl⟩ rfl (Nat.le_of_ble_eq_true rfl) (fun r17 s18 hr17 => ?_)
                  refine j2_callSi (As := [jl_vi r17]) dX11_has_134 (jt_J6_bitCount_0f7a4 G r17 hr17 s18) jv_J6_bitCount_0f7a4 ⟨rfl, rfl, rfl⟩ jw_783 ⟨Nat.le_of_ble_eq_true rfl, Nat.le_of_ble_eq_true rfl⟩ rfl (Nat.le_of_ble_eq_true rfl) (fun r19 s20 hr19 => ?_)
                  exact jr_ret_i rfl hr19 dX11_has_137
                · skip
                  refine jr_ite (fun c21 => ?_) (fun c21 => ?_)
                  · refine jr_tabIn (t := 138) dX11_has_1 h1 (by omega) (by omega) (by rw [c21]; rfl) (by decide) ?_
                    refine jr_aload_n dX11_has_138 0 rfl ?_
                    refine jr_getk (i := 7) jc_11 jk_0 (by decide) (Nat.le_of_ble_eq_true rfl) jlk_0_7 jw_431 dX11_has_139 ?_
                    refine jr_getiN (i := 3) jc_2 jk_44 (by decide) (Nat.le_of_ble_eq_true rfl) jlk_44_3 jft_2_3 jw_277 dX11_has_142 ?_
                    exact jr_ret_i rfl (jl_n3_to _) dX11_has_145
                  · skip
                    refine jr_ite (fun c22 => ?_) (fun c22 => ?_)
                    · refine jr_tabIn (t := 146) dX11_has_1 h1 (by omega) (by omega) (by rw [c22]; rfl) (by decide) ?_
                      refine jr_aload_n dX11_has_146 0 rfl ?_
                      refine jr_getk (i := 11) jc_11 jk_0 (by decide) (Nat.le_of_ble_eq_true rfl) jlk_0_11 jw_435 dX11_has_147 ?_
                      refine jr_getiN (i := 4) jc_6 jk_200 (by decide) (Nat.le_of_ble_eq_true rfl) jlk_200_4 jft_6_4 jw_389 dX11_has_150 ?_
                      exact jr_ret_i rfl (jl_n3_to _) dX11_has_153
                    · skip
                      refine jr_ite (fun c23 => ?_) (fun c23 => ?_)
                      · refine jr_tabIn (t := 154) dX11_has_1 h1 (by omega) (by omega) (by rw [c23]; rfl) (by decide) ?_
                        refine jr_aload_n dX11_has_154 0 rfl ?_
                        refine jr_getk (i := 8) jc_11 jk_0 (by decide) (Nat.le_of_ble_eq_true rfl) jlk_0_8 jw_432 dX11_has_155 ?_
                        refine jr_getiN (i := 3) jc_3 jk_47 (by decide) (Nat.le_of_ble_eq_true rfl) jlk_47_3 jft_3_3 jw_303 dX11_has_158 ?_
                        exact jr_ret_i rfl (jl_n3_to _) dX11_has_161
                      · skip
                        refine jr_tabOut (t := 162) dX11_has_1 h1 (by omega) (by decide) ?_
                        refine jr_iconst dX11_has_162 ?_
                        exact jr_ret_i rfl (jl_nlit rfl) dX11_has_163
def jf_X11_isLie_B20 (k0 : Int) (s0 : jl_Mm) : jl_O :=
  jl_zb k0 s0
set_option maxRecDepth 20000 in
set_option maxHeartbeats 2000000 in
theorem jj_X11_isLie_B20 (G : jl_GC) (k0 : Int) (hk0 : jl_n3 k0) (s0 : jl_Mm) : j2 G jM_X11_isLie 20 [] [jl_vi k0] s0 (jf_X11_isLie_B20 k0 s0) := by
  exact jr_ret_z rfl dX11_isLie_20
def jf_X11_isLie_B19 (s0 : jl_Mm) : jl_O :=
  jf_X11_isLie_B20 (0 : Int) s0
set_option maxRecDepth 20000 in
set_option maxHeartbeats 2000000 in
theorem jj_X11_isLie_B19 (G : jl_GC) (s0 : jl_Mm) : j2 G jM_X11_isLie 19 [] [] s0 (jf_X11_isLie_B19 s0) := by
  refine jr_iconst dX11_isLie_19 ?_
  exact jj_X11_isLie_B20 G (0 : Int) (jl_nlit rfl) s0
def jf_X11_isLie (v1 : Int) (s0 : jl_Mm) : jl_O :=
  if v1 < (0 : Int) then (jf_X11_isLie_B19 s0) else (if 0 ≤ s0 0 2 ∧ (jl_kd (jl_gr s0 0 2)).1 = 8 then if jl_g s0 (jl_gr s0 0 2) 3 ≤ v1 then (jf_X11_isLie_B19 s0) else (jf_X11_isLie_B20 (1 : Int) s0) else none)
set_option maxRecDepth 20000 in
set_option maxHeartbeats 2000000 in
theorem jt_X11_isLie (G : jl_GC) (v1 : Int) (h1 : jl_n3 v1) (s0 : jl_Mm) : jC2 G jM_X11_isLie [jl_vr G 0, jl_vi v1] s0 (jf_X11_isLie v1 s0) := by
  refine jl_met (plainFor_of_name rfl) (Nat.le_of_ble_eq_true rfl) ?_
  show j2 G jM_X11_isLie 0 [(0, jl_vr G 0), (1, jl_vi v1)] [] s0 _
  refine jr_iload_n dX11_isLie_0 1 rfl ?_
  refine jr_if_lt (t := 19) dX11_isLie_1 (by decide) h1 (fun c1 => ?_) (fun c1 => ?_)
  · refine jr_sub [] rfl ?_
    exact jj_X11_isLie_B19 G s0
  · refine jr_iload_n dX11_isLie_4 1 rfl ?_
    refine jr_aload_n dX11_isLie_5 0 rfl ?_
    refine jr_grd (fun g2 => ?_)
    refine jr_getr (i := 2) jc_11 jk_0 (by decide) (Nat.le_of_ble_eq_true rfl) jlk_0_2 jft_11_2 g2.1 jw_426 dX11_isLie_6 ?_
    refine jr_getiN (i := 3) jc_8 (jl_kd1 g2.2) (jl_kdlt g2.2 (by decide)) (Nat.le_of_ble_eq_true rfl) (js8n_3 g2.2) jft_8_3 jw_104 dX11_isLie_9 ?_
    refine jr_icmp_ge (t := 19) dX11_isLie_12 (by decide) h1 (jl_n3_to _) (fun c3 => ?_) (fun c3 => ?_)
    · refine jr_sub [] rfl ?_
      exact jj_X11_isLie_B19 G s0
    · refine jr_iconst dX11_isLie_15 ?_
      refine jr_goto (t := 20) dX11_isLie_16 (by decide) ?_
      refine jr_sub [] rfl ?_
      exact jj_X11_isLie_B20 G (1 : Int) (jl_nlit rfl) s0
def jf_X11_isPerson_B20 (k0 : Int) (s0 : jl_Mm) : jl_O :=
  jl_zb k0 s0
set_option maxRecDepth 20000 in
set_option maxHeartbeats 2000000 in
theorem jj_X11_isPerson_B20 (G : jl_GC) (k0 : Int) (hk0 : jl_n3 k0) (s0 : jl_Mm) : j2 G jM_X11_isPerson 20 [] [jl_vi k0] s0 (jf_X11_isPerson_B20 k0 s0) := by
  exact jr_ret_z rfl dX11_isPerson_20
def jf_X11_isPerson_B19 (s0 : jl_Mm) : jl_O :=
  jf_X11_isPerson_B20 (0 : Int) s0
set_option maxRecDepth 20000 in
set_option maxHeartbeats 2000000 in
theorem jj_X11_isPerson_B19 (G : jl_GC) (s0 : jl_Mm) : j2 G jM_X11_isPerson 19 [] [] s0 (jf_X11_isPerson_B19 s0) := by
  refine jr_iconst dX11_isPerson_19 ?_
  exact jj_X11_isPerson_B20 G (0 : Int) (jl_nlit rfl) s0
def jf_X11_isPerson (v1 : Int) (s0 : jl_Mm) : jl_O :=
  if v1 < (0 : Int) then (jf_X11_isPerson_B19 s0) else (if 0 ≤ s0 0 2 ∧ (jl_kd (jl_gr s0 0 2)).1 = 8 then if jl_g s0 (jl_gr s0 0 2) 2 ≤ v1 then (jf_X11_isPerson_B19 s0) else (jf_X11_isPerson_B20 (1 : Int) s0) else none)
set_option maxRecDepth 20000 in
set_option maxHeartbeats 2000000 in
theorem jt_X11_isPerson (G : jl_GC) (v1 : Int) (h1 : jl_n3 v1) (s0 : jl_Mm) : jC2 G jM_X11_isPerson [jl_vr G 0, jl_vi v1] s0 (jf_X11_isPerson v1 s0) := by
  refine jl_met (plainFor_of_name rfl) (Nat.le_of_ble_eq_true rfl) ?_
  show j2 G jM_X11_isPerson 0 [(0, jl_vr G 0), (1, jl_vi v1)] [] s0 _
  refine jr_iload_n dX11_isPerson_0 1 rfl ?_
  refine jr_if_lt (t := 19) dX11_isPerson_1 (by decide) h1 (fun c1 => ?_) (fun c1 => ?_)
  · refine jr_sub [] rfl ?_
    exact jj_X11_isPerson_B19 G s0
  · refine jr_iload_n dX11_isPerson_4 1 rfl ?_
    refine jr_aload_n dX11_isPerson_5 0 rfl ?_
    refine jr_grd (fun g2 => ?_)
    refine jr_getr (i := 2) jc_11 jk_0 (by decide) (Nat.le_of_ble_eq_true rfl) jlk_0_2 jft_11_2 g2.1 jw_426 dX11_isPerson_6 ?_
    refine jr_getiN (i := 2) jc_8 (jl_kd1 g2.2) (jl_kdlt g2.2 (by decide)) (Nat.le_of_ble_eq_true rfl) (js8n_2 g2.2) jft_8_2 jw_97 dX11_isPerson_9 ?_
    refine jr_icmp_ge (t := 19) dX11_isPerson_12 (by decide) h1 (jl_n3_to _) (fun c3 => ?_) (fun c3 => ?_)
    · refine jr_sub [] rfl ?_
      exact jj_X11_isPerson_B19 G s0
    · refine jr_iconst dX11_isPerson_15 ?_
      refine jr_goto (t := 20) dX11_isPerson_16 (by decide) ?_
      refine jr_sub [] rfl ?_
      exact jj_X11_isPerson_B20 G (1 : Int) (jl_nlit rfl) s0
def jf_X11_letterOf (v1 : Int) (v2 : Int) (s0 : jl_Mm) : jl_O :=
  some (jl_and (jl_shr v1 (jl_mul (5 : Int) (jl_sub (5 : Int) v2))) (31 : Int), s0)
set_option maxRecDepth 20000 in
set_option maxHeartbeats 2000000 in
theorem jt_X11_letterOf (G : jl_GC) (v1 : Int) (v2 : Int) (h1 : jl_n3 v1) (h2 : jl_n3 v2) (s0 : jl_Mm) : jC2 G jM_X11_letterOf [jl_vi v1, jl_vi v2] s0 (jf_X11_letterOf v1 v2 s0) := by
  refine jl_met (plainFor_of_name rfl) (Nat.le_of_ble_eq_true rfl) ?_
  show j2 G jM_X11_letterOf 0 [(0, jl_vi v1), (1, jl_vi v2)] [] s0 _
  refine jr_iload_n dX11_letterOf_0 0 rfl ?_
  refine jr_iconst dX11_letterOf_1 ?_
  refine jr_iconst dX11_letterOf_2 ?_
  refine jr_iload_n dX11_letterOf_3 1 rfl ?_
  refine jr_isub dX11_letterOf_4 ?_
  refine jr_imul dX11_letterOf_5 ?_
  refine jr_ishr dX11_letterOf_6 ?_
  refine jr_bipush dX11_letterOf_7 (by decide) ?_
  refine jr_iand dX11_letterOf_9 ?_
  exact jr_ret_i rfl (jl_n3_to _) dX11_letterOf_10
def jf_X11_letter_B10 (s0 : jl_Mm) : jl_O :=
  some ((-1 : Int), s0)
set_option maxRecDepth 20000 in
set_option maxHeartbeats 2000000 in
theorem jj_X11_letter_B10 (G : jl_GC) (s0 : jl_Mm) : j2 G jM_X11_letter 10 [] [] s0 (jf_X11_letter_B10 s0) := by
  refine jr_iconst dX11_letter_10 ?_
  exact jr_ret_i rfl (jl_nlit rfl) dX11_letter_11
def jf_X11_letter_B65 (s0 : jl_Mm) : jl_O :=
  some ((-1 : Int), s0)
set_option maxRecDepth 20000 in
set_option maxHeartbeats 2000000 in
theorem jj_X11_letter_B65 (G : jl_GC) (s0 : jl_Mm) : j2 G jM_X11_letter 65 [] [] s0 (jf_X11_letter_B65 s0) := by
  refine jr_iconst dX11_letter_65 ?_
  exact jr_ret_i rfl (jl_nlit rfl) dX11_letter_66
def jf_X11_letter_B38 (l1 : Int) (l2 : Int) (l3 : Int) (s0 : jl_Mm) : jl_O :=
  if l1 = (1 : Int) then (jl_bd (jf_X11_isLie l2 s0) fun r5 s6 => if r5 = (0 : Int) then (jf_X11_letter_B65 s6) else (if 0 ≤ s6 0 2 ∧ (jl_kd (jl_gr s6 0 2)).1 = 8 then if 0 ≤ l2 ∧ l2 < ((8 : Nat) : Int) then jl_bd (jf_X11_letterOf (jl_g s6 ((jl_gr s6 0 2) + 4) (l2).toNat) l3 s6) fun r10 s11 => some (r10, s11) else none else none)) else (jf_X11_letter_B65 s0)
set_option maxRecDepth 20000 in
set_option maxHeartbeats 2000000 in
theorem jj_X11_letter_B38 (G : jl_GC) (l1 : Int) (l2 : Int) (l3 : Int) (hl1 : jl_n3 l1) (hl2 : jl_n3 l2) (hl3 : jl_n3 l3) (s0 : jl_Mm) : j2 G jM_X11_letter 38 [(0, jl_vr G 0), (1, jl_vi l1), (2, jl_vi l2), (3, jl_vi l3)] [] s0 (jf_X11_letter_B38 l1 l2 l3 s0) := by
  refine jr_iload_n dX11_letter_38 1 rfl ?_
  refine jr_iconst dX11_letter_39 ?_
  refine jr_icmp_ne (t := 65) dX11_letter_40 (by decide) hl1 (jl_nlit rfl) (fun c4 => ?_) (fun c4 => ?_)
  · refine jr_aload_n dX11_letter_43 0 rfl ?_
    refine jr_iload_n dX11_letter_44 2 rfl ?_
    refine j2_callVz (As := [jl_vi l2]) dX11_letter_45 (jt_X11_isLie G l2 hl2 s0) jv_X11_isLie ⟨rfl, rfl, rfl⟩ jw_837 jk_0 (by decide) (by decide) rfl ⟨Nat.le_of_ble_eq_true rfl, Nat.le_of_ble_eq_true rfl⟩ rfl (Nat.le_of_ble_eq_true rfl) (fun r5 s6 hr5 => ?_)
    refine jr_if_eq (t := 65) dX11_letter_48 (by decide) (jl_nz hr5) (fun c7 => ?_) (fun c7 => ?_)
    · refine jr_sub [] rfl ?_
      exact jj_X11_letter_B65 G s6
    · refine jr_aload_n dX11_letter_51 0 rfl ?_
      refine jr_grd (fun g8 => ?_)
      refine jr_getr (i := 2) jc_11 jk_0 (by decide) (Nat.le_of_ble_eq_true rfl) jlk_0_2 jft_11_2 g8.1 jw_426 dX11_letter_52 ?_
      refine jr_getkN (i := 10) jc_8 (jl_kd1 g8.2) (jl_kdlt g8.2 (by decide)) (Nat.le_of_ble_eq_true rfl) (js8_10 g8.2) jw_124 dX11_letter_55 ?_
      refine jr_iload_n dX11_letter_58 2 rfl ?_
      refine jr_grd (fun g9 => ?_)
      refine jr_iaload (js8k_10 g8.2) (jl_kdl (js8k_10 g8.2) (by decide)) hl2 g9 dX11_letter_59 ?_
      refine jr_iload_n dX11_letter_60 3 rfl ?_
      refine j2_callSi (As := [jl_vi (jl_g s6 ((jl_gr s6 0 2) + 4) (l2).toNat), jl_vi l3]) dX11_letter_61 (jt_X11_letterOf G (jl_g s6 ((jl_gr s6 0 2) + 4) (l2).toNat) l3 (jl_n3_to _) hl3 s6) jv_X11_letterOf ⟨rfl, rfl, rfl⟩ jw_834 ⟨Nat.le_of_ble_eq_true rfl, Nat.le_of_ble_eq_true rfl⟩ rfl (Nat.le_of_ble_eq_true rfl) (fun r10 s11 hr10 => ?_)
      exact jr_ret_i rfl hr10 dX11_letter_64
  · refine jr_sub [] rfl ?_
    exact jj_X11_letter_B65 G s0
def jf_X11_letter (v1 : Int) (v2 : Int) (v3 : Int) (s0 : jl_Mm) : jl_O :=
  if v3 < (0 : Int) then (jf_X11_letter_B10 s0) else (if v3 < (6 : Int) then (if v1 = (0 : Int) then (jl_bd (jf_X11_isPerson v2 s0) fun r12 s13 => if r12 = (0 : Int) then (jf_X11_letter_B38 v1 v2 v3 s13) else (if 0 ≤ s13 0 2 ∧ (jl_kd (jl_gr s13 0 2)).1 = 8 then if 0 ≤ v2 ∧ v2 < ((6 : Nat) : Int) then jl_bd (jf_X11_letterOf (jl_g s13 ((jl_gr s13 0 2) + 1) (v2).toNat) v3 s13) fun r17 s18 => some (r17, s18) else none else none)) else (jf_X11_letter_B38 v1 v2 v3 s0)) else (jf_X11_letter_B10 s0))
set_option maxRecDepth 20000 in
set_option maxHeartbeats 2000000 in
theorem jt_X11_letter (G : jl_GC) (v1 : Int) (v2 : Int) (v3 : Int) (h1 : jl_n3 v1) (h2 : jl_n3 v2) (h3 : jl_n3 v3) (s0 : jl_Mm) : jC2 G jM_X11_letter [jl_vr G 0, jl_vi v1, jl_vi v2, jl_vi v3] s0 (jf_X11_letter v1 v2 v3 s0) := by
  refine jl_met (plainFor_of_name rfl) (Nat.le_of_ble_eq_true rfl) ?_
  show j2 G jM_X11_letter 0 [(0, jl_vr G 0), (1, jl_vi v1), (2, jl_vi v2), (3, jl_vi v3)] [] s0 _
  refine jr_iload_n dX11_letter_0 3 rfl ?_
  refine jr_if_lt (t := 10) dX11_letter_1 (by decide) h3 (fun c1 => ?_) (fun c1 => ?_)
  · refine jr_sub [] rfl ?_
    exact jj_X11_letter_B10 G s0
  · refine jr_iload_n dX11_letter_4 3 rfl ?_
    refine jr_bipush dX11_letter_5 (by decide) ?_
    refine jr_icmp_lt (t := 12) dX11_letter_7 (by decide) h3 (jl_nlit rfl) (fun c2 => ?_) (fun c2 => ?_)
    · refine jr_iload_n dX11_letter_12 1 rfl ?_
      refine jr_if_ne (t := 38) dX11_letter_13 (by decide) h1 (fun c3 => ?_) (fun c3 => ?_)
      · refine jr_aload_n dX11_letter_16 0 rfl ?_
        refine jr_iload_n dX11_letter_17 2 rfl ?_
        refine j2_callVz (As := [jl_vi v2]) dX11_letter_18 (jt_X11_isPerson G v2 h2 s0) jv_X11_isPerson ⟨rfl, rfl, rfl⟩ jw_830 jk_0 (by decide) (by decide) rfl ⟨Nat.le_of_ble_eq_true rfl, Nat.le_of_ble_eq_true rfl⟩ rfl (Nat.le_of_ble_eq_true rfl) (fun r12 s13 hr12 => ?_)
        refine jr_if_eq (t := 38) dX11_letter_21 (by decide) (jl_nz hr12) (fun c14 => ?_) (fun c14 => ?_)
        · exact jj_X11_letter_B38 G v1 v2 v3 h1 h2 h3 s13
        · refine jr_aload_n dX11_letter_24 0 rfl ?_
          refine jr_grd (fun g15 => ?_)
          refine jr_getr (i := 2) jc_11 jk_0 (by decide) (Nat.le_of_ble_eq_true rfl) jlk_0_2 jft_11_2 g15.1 jw_426 dX11_letter_25 ?_
          refine jr_getkN (i := 7) jc_8 (jl_kd1 g15.2) (jl_kdlt g15.2 (by decide)) (Nat.le_of_ble_eq_true rfl) (js8_7 g15.2) jw_117 dX11_letter_28 ?_
          refine jr_iload_n dX11_letter_31 2 rfl ?_
          refine jr_grd (fun g16 => ?_)
          refine jr_iaload (js8k_7 g15.2) (jl_kdl (js8k_7 g15.2) (by decide)) h2 g16 dX11_letter_32 ?_
          refine jr_iload_n dX11_letter_33 3 rfl ?_
          refine j2_callSi (As := [jl_vi (jl_g s13 ((jl_gr s13 0 2) + 1) (v2).toNat), jl_vi v3]) dX11_letter_34 (jt_X11_letterOf G (jl_g s13 ((jl_gr s13 0 2) + 1) (v2).toNat) v3 (jl_n3_to _) h3 s13) jv_X11_letterOf ⟨rfl, rfl, rfl⟩ jw_834 ⟨Nat.le_of_ble_eq_true rfl, Nat.le_of_ble_eq_true rfl⟩ rfl (Nat.le_of_ble_eq_true rfl) (fun r17 s18 hr17 => ?_)
          exact jr_ret_i rfl hr17 dX11_letter_37
      · exact jj_X11_letter_B38 G v1 v2 v3 h1 h2 h3 s0
    · refine jr_sub [] rfl ?_
      exact jj_X11_letter_B10 G s0
def jf_X5_litOf_B44 (R5 : Nat → Int → Int → Int → jl_Mm → jl_O) (l1 : Nat) (l2 : Int) (l3 : Int) (l4 : Int) (s0 : jl_Mm) : jl_O :=
  R5 l1 l2 l3 (jl_add l4 1) s0
set_option maxRecDepth 20000 in
set_option maxHeartbeats 2000000 in
theorem jj_X5_litOf_B44 (G : jl_GC) (R5 : Nat → Int → Int → Int → jl_Mm → jl_O) (hR5 : ∀ (l1 : Nat) (l2 : Int) (l3 : Int) (l4 : Int) (_hl1 : (jl_kd l1).1 = 7) (_hl2 : jl_n3 l2) (_hl3 : jl_n3 l3) (_hl4 : jl_n3 l4) (s0 : jl_Mm), j2 G jM_X5_litOf 5 [(0, jl_vr G 190), (1, jl_vr G l1), (2, jl_vi l2), (3, jl_vi l3), (4, jl_vi l4)] [] s0 (R5 l1 l2 l3 l4 s0)) (l1 : Nat) (l2 : Int) (l3 : Int) (l4 : Int) (hl1 : (jl_kd l1).1 = 7) (hl2 : jl_n3 l2) (hl3 : jl_n3 l3) (hl4 : jl_n3 l4) (s0 : jl_Mm) : j2 G jM_X5_litOf 44 [(0, jl_vr G 190), (1, jl_vr G l1), (2, jl_vi l2), (3, jl_vi l3), (4, jl_vi l4)] [] s0 (jf_X5_litOf_B44 R5 l1 l2 l3 l4 s0) := by
  refine jr_iinc (j := 4) (lv := [(4, jl_vi (jl_add l4 1)), (0, jl_vr G 190), (1, jl_vr G l1), (2, jl_vi l2), (3, jl_vi l3)]) dX5_litOf_44 rfl (Nat.le_of_ble_eq_true rfl) rfl ?_
  refine jr_goto (t := 5) dX5_litOf_47 (by decide) ?_
  refine jr_sub [1, 2, 3, 4, 0] rfl ?_
  exact hR5 l1 l2 l3 (jl_add l4 1) hl1 hl2 hl3 (jl_n3_to _) s0
def jf_X5_litOf_L5 : Nat → Nat → Int → Int → Int → jl_Mm → jl_O
  | 0, _, _, _, _, _ => none
  | n + 1, l1, l2, l3, l4, s0 =>
    if 0 ≤ s0 190 0 ∧ (jl_kd (jl_gr s0 190 0)).1 = 8 then if jl_g s0 (jl_gr s0 190 0) 3 ≤ l4 then (some (l3, s0)) else (if 0 ≤ s0 190 0 ∧ (jl_kd (jl_gr s0 190 0)).1 = 8 then if 0 ≤ l4 ∧ l4 < ((8 : Nat) : Int) then if jl_g s0 ((jl_gr s0 190 0) + 5) (l4).toNat = l2 then (if 0 ≤ l4 ∧ l4 < ((8 : Nat) : Int) then if jl_g s0 (l1 + 2) (l4).toNat ≤ (0 : Int) then (jf_X5_litOf_B44 (jf_X5_litOf_L5 n) l1 l2 l3 l4 s0) else (jf_X5_litOf_B44 (jf_X5_litOf_L5 n) l1 l2 (jl_add l3 1) l4 s0) else none) else (jf_X5_litOf_B44 (jf_X5_litOf_L5 n) l1 l2 l3 l4 s0) else none else none) else none
set_option maxRecDepth 20000 in
set_option maxHeartbeats 2000000 in
theorem jj_X5_litOf_L5 (G : jl_GC) : ∀ (n : Nat) (l1 : Nat) (l2 : Int) (l3 : Int) (l4 : Int) (hl1 : (jl_kd l1).1 = 7) (hl2 : jl_n3 l2) (hl3 : jl_n3 l3) (hl4 : jl_n3 l4) (s0 : jl_Mm), j2 G jM_X5_litOf 5 [(0, jl_vr G 190), (1, jl_vr G l1), (2, jl_vi l2), (3, jl_vi l3), (4, jl_vi l4)] [] s0 (jf_X5_litOf_L5 n l1 l2 l3 l4 s0) := by
  intro n
  induction n with
  | zero =>
    intros
    exact jr_none
  | succ n ih =>
    intro l1 l2 l3 l4 hl1 hl2 hl3 hl4 s0
    refine jr_iload dX5_litOf_5 4 rfl ?_
    refine jr_aload_n dX5_litOf_7 0 rfl ?_
    refine jr_grd (fun g1 => ?_)
    refine jr_getr (i := 0) jc_5 jk_190 (by decide) (Nat.le_of_ble_eq_true rfl) jlk_190_0 jft_5_0 g1.1 jw_319 dX5_litOf_8 ?_
    refine jr_getiN (i := 3) jc_8 (jl_kd1 g1.2) (jl_kdlt g1.2 (by decide)) (Nat.le_of_ble_eq_true rfl) (js8n_3 g1.2) jft_8_3 jw_101 dX5_litOf_11 ?_
    refine jr_icmp_ge (t := 50) dX5_litOf_14 (by decide) hl4 (jl_n3_to _) (fun c2 => ?_) (fun c2 => ?_)
    · refine jr_iload_n dX5_litOf_50 3 rfl ?_
      exact jr_ret_i rfl hl3 dX5_litOf_51
    · refine jr_aload_n dX5_litOf_17 0 rfl ?_
      refine jr_grd (fun g3 => ?_)
      refine jr_getr (i := 0) jc_5 jk_190 (by decide) (Nat.le_of_ble_eq_true rfl) jlk_190_0 jft_5_0 g3.1 jw_319 dX5_litOf_18 ?_
      refine jr_getkN (i := 11) jc_8 (jl_kd1 g3.2) (jl_kdlt g3.2 (by decide)) (Nat.le_of_ble_eq_true rfl) (js8_11 g3.2) jw_126 dX5_litOf_21 ?_
      refine jr_iload dX5_litOf_24 4 rfl ?_
      refine jr_grd (fun g4 => ?_)
      refine jr_iaload (js8k_11 g3.2) (jl_kdl (js8k_11 g3.2) (by decide)) hl4 g4 dX5_litOf_26 ?_
      refine jr_iload_n dX5_litOf_27 2 rfl ?_
      refine jr_icmp_ne (t := 44) dX5_litOf_28 (by decide) (jl_n3_to _) hl2 (fun c5 => ?_) (fun c5 => ?_)
      · refine jr_aload_n dX5_litOf_31 1 rfl ?_
        refine jr_getkN (i := 3) jc_7 (jl_kd1 hl1) (jl_kdlt hl1 (by decide)) (Nat.le_of_ble_eq_true rfl) (js7_3 hl1) jw_249 dX5_litOf_32 ?_
        refine jr_iload dX5_litOf_35 4 rfl ?_
        refine jr_grd (fun g6 => ?_)
        refine jr_iaload (js7k_3 hl1) (jl_kdl (js7k_3 hl1) (by decide)) hl4 g6 dX5_litOf_37 ?_
        refine jr_if_le (t := 44) dX5_litOf_38 (by decide) (jl_n3_to _) (fun c7 => ?_) (fun c7 => ?_)
        · exact jj_X5_litOf_B44 G (jf_X5_litOf_L5 n) (ih) l1 l2 l3 l4 hl1 hl2 hl3 hl4 s0
        · refine jr_iinc (j := 3) (lv := [(3, jl_vi (jl_add l3 1)), (0, jl_vr G 190), (1, jl_vr G l1), (2, jl_vi l2), (4, jl_vi l4)]) dX5_litOf_41 rfl (Nat.le_of_ble_eq_true rfl) rfl ?_
          refine jr_sub [1, 2, 3, 0, 4] rfl ?_
          exact jj_X5_litOf_B44 G (jf_X5_litOf_L5 n) (ih) l1 l2 (jl_add l3 1) l4 hl1 hl2 (jl_n3_to _) hl4 s0
      · exact jj_X5_litOf_B44 G (jf_X5_litOf_L5 n) (ih) l1 l2 l3 l4 hl1 hl2 hl3 hl4 s0
def jf_X5_litOf (q1 : Nat) (v2 : Int) (s0 : jl_Mm) : jl_O :=
  if (jl_kd q1).1 = 7 then jf_X5_litOf_L5 jl_fu q1 v2 (0 : Int) (0 : Int) s0 else none
set_option maxRecDepth 20000 in
set_option maxHeartbeats 2000000 in
theorem jt_X5_litOf (G : jl_GC) (q1 : Nat) (v2 : Int) (h2 : jl_n3 v2) (s0 : jl_Mm) : jC2 G jM_X5_litOf [jl_vr G 190, jl_vr G q1, jl_vi v2] s0 (jf_X5_litOf q1 v2 s0) := by
  refine jl_met (plainFor_of_name rfl) (Nat.le_of_ble_eq_true rfl) ?_
  show j2 G jM_X5_litOf 0 [(0, jl_vr G 190), (1, jl_vr G q1), (2, jl_vi v2)] [] s0 _
  refine jr_grd (fun gp1 => ?_)
  refine jr_iconst dX5_litOf_0 ?_
  refine jr_istore_n (lv := [(3, jl_vi (0 : Int)), (0, jl_vr G 190), (1, jl_vr G q1), (2, jl_vi v2)]) dX5_litOf_1 rfl (Nat.le_of_ble_eq_true rfl) rfl ?_
  refine jr_iconst dX5_litOf_2 ?_
  refine jr_istore (lv := [(4, jl_vi (0 : Int)), (3, jl_vi (0 : Int)), (0, jl_vr G 190), (1, jl_vr G q1), (2, jl_vi v2)]) dX5_litOf_3 (Nat.le_of_ble_eq_true rfl) rfl ?_
  refine jr_sub [2, 3, 4, 1, 0] rfl ?_
  exact jj_X5_litOf_L5 G jl_fu q1 v2 (0 : Int) (0 : Int) gp1 h2 (jl_nlit rfl) (jl_nlit rfl) s0
def jf_X11_person (v1 : Int) (v2 : Int) (s0 : jl_Mm) : jl_O :=
  jl_bd (jf_X11_isPerson v1 s0) fun r1 s2 => if r1 = (0 : Int) then (some ((-1 : Int), s2)) else (if v2 = 0 then (if 0 ≤ v1 ∧ v1 < ((6 : Nat) : Int) then some (jl_g s2 41 (v1).toNat, s2) else none) else if v2 = 1 then (if 0 ≤ s2 0 2 ∧ (jl_kd (jl_gr s2 0 2)).1 = 8 then if 0 ≤ v1 ∧ v1 < ((6 : Nat) : Int) then some (jl_g s2 ((jl_gr s2 0 2) + 3) (v1).toNat, s2) else none else none) else if v2 = 2 then (jl_bd (jf_X5_litOf 40 v1 s2) fun r10 s11 => some (r10, s11)) else (some ((-1 : Int), s2)))
set_option maxRecDepth 20000 in
set_option maxHeartbeats 2000000 in
theorem jt_X11_person (G : jl_GC) (v1 : Int) (v2 : Int) (h1 : jl_n3 v1) (h2 : jl_n3 v2) (s0 : jl_Mm) : jC2 G jM_X11_person [jl_vr G 0, jl_vi v1, jl_vi v2] s0 (jf_X11_person v1 v2 s0) := by
  refine jl_met (plainFor_of_name rfl) (Nat.le_of_ble_eq_true rfl) ?_
  show j2 G jM_X11_person 0 [(0, jl_vr G 0), (1, jl_vi v1), (2, jl_vi v2)] [] s0 _
  refine jr_aload_n dX11_person_0 0 rfl ?_
  refine jr_iload_n dX11_person_1 1 rfl ?_
  refine j2_callVz (As := [jl_vi v1]) dX11_person_2 (jt_X11_isPerson G v1 h1 s0) jv_X11_isPerson ⟨rfl, rfl, rfl⟩ jw_830 jk_0 (by decide) (by decide) rfl ⟨Nat.le_of_ble_eq_true rfl, Nat.le_of_ble_eq_true rfl⟩ rfl (Nat.le_of_ble_eq_true rfl) (fun r1 s2 hr1 => ?_)
  refine jr_if_ne (t := 10) dX11_person_5 (by decide) (jl_nz hr1) (fun c3 => ?_) (fun c3 => ?_)
  · refine jr_iconst dX11_person_8 ?_
    exact jr_ret_i rfl (jl_nlit rfl) dX11_person_9
  · refine jr_iload_n dX11_person_10 2 rfl ?_
    refine jr_ite (fun c4 => ?_) (fun c4 => ?_)
    · refine jr_tabIn (t := 36) dX11_person_11 h2 (by omega) (by omega) (by rw [c4]; rfl) (by decide) ?_
      refine jr_aload_n dX11_person_36 0 rfl ?_
      refine jr_getk (i := 6) jc_11 jk_0 (by decide) (Nat.le_of_ble_eq_true rfl) jlk_0_6 jw_430 dX11_person_37 ?_
      refine jr_getkN (i := 2) jc_7 jk_40 (by decide) (Nat.le_of_ble_eq_true rfl) jlk_40_2 jw_247 dX11_person_40 ?_
      refine jr_iload_n dX11_person_43 1 rfl ?_
      refine jr_grd (fun g5 => ?_)
      refine jr_iaload jk_41 (by decide) h1 g5 dX11_person_44 ?_
      exact jr_ret_i rfl (jl_n3_to _) dX11_person_45
    · skip
      refine jr_ite (fun c6 => ?_) (fun c6 => ?_)
      · refine jr_tabIn (t := 46) dX11_person_11 h2 (by omega) (by omega) (by rw [c6]; rfl) (by decide) ?_
        refine jr_aload_n dX11_person_46 0 rfl ?_
        refine jr_grd (fun g7 => ?_)
        refine jr_getr (i := 2) jc_11 jk_0 (by decide) (Nat.le_of_ble_eq_true rfl) jlk_0_2 jft_11_2 g7.1 jw_426 dX11_person_47 ?_
        refine jr_getkN (i := 9) jc_8 (jl_kd1 g7.2) (jl_kdlt g7.2 (by decide)) (Nat.le_of_ble_eq_true rfl) (js8_9 g7.2) jw_121 dX11_person_50 ?_
        refine jr_iload_n dX11_person_53 1 rfl ?_
        refine jr_grd (fun g8 => ?_)
        refine jr_iaload (js8k_9 g7.2) (jl_kdl (js8k_9 g7.2) (by decide)) h1 g8 dX11_person_54 ?_
        exact jr_ret_i rfl (jl_n3_to _) dX11_person_55
      · skip
        refine jr_ite (fun c9 => ?_) (fun c9 => ?_)
        · refine jr_tabIn (t := 56) dX11_person_11 h2 (by omega) (by omega) (by rw [c9]; rfl) (by decide) ?_
          refine jr_aload_n dX11_person_56 0 rfl ?_
          refine jr_getk (i := 9) jc_11 jk_0 (by decide) (Nat.le_of_ble_eq_true rfl) jlk_0_9 jw_433 dX11_person_57 ?_
          refine jr_aload_n dX11_person_60 0 rfl ?_
          refine jr_getk (i := 6) jc_11 jk_0 (by decide) (Nat.le_of_ble_eq_true rfl) jlk_0_6 jw_430 dX11_person_61 ?_
          refine jr_iload_n dX11_person_64 1 rfl ?_
          refine j2_callVi (As := [jl_vr G 40, jl_vi v1]) dX11_person_65 (jt_X5_litOf G 40 v1 h1 s2) jv_X5_litOf ⟨rfl, rfl, rfl⟩ jw_845 jk_190 (by decide) (by decide) rfl ⟨Nat.le_of_ble_eq_true rfl, Nat.le_of_ble_eq_true rfl⟩ rfl (Nat.le_of_ble_eq_true rfl) (fun r10 s11 hr10 => ?_)
          exact jr_ret_i rfl hr10 dX11_person_68
        · skip
          refine jr_tabOut (t := 69) dX11_person_11 h2 (by omega) (by decide) ?_
          refine jr_iconst dX11_person_69 ?_
          exact jr_ret_i rfl (jl_nlit rfl) dX11_person_70
def jf_X8_hanging_B45 (R8 : Nat → Int → Int → Int → jl_Mm → jl_O) (l0 : Nat) (l1 : Int) (l2 : Int) (l3 : Int) (s0 : jl_Mm) : jl_O :=
  R8 l0 l1 l2 (jl_add l3 1) s0
set_option maxRecDepth 20000 in
set_option maxHeartbeats 2000000 in
theorem jj_X8_hanging_B45 (G : jl_GC) (R8 : Nat → Int → Int → Int → jl_Mm → jl_O) (hR8 : ∀ (l0 : Nat) (l1 : Int) (l2 : Int) (l3 : Int) (_hl0 : (jl_kd l0).1 = 8) (_hl1 : jl_n3 l1) (_hl2 : jl_n3 l2) (_hl3 : jl_n3 l3) (s0 : jl_Mm), j2 G jM_X8_hanging 8 [(0, jl_vr G l0), (1, jl_vi l1), (2, jl_vi l2), (3, jl_vi l3)] [] s0 (R8 l0 l1 l2 l3 s0)) (l0 : Nat) (l1 : Int) (l2 : Int) (l3 : Int) (hl0 : (jl_kd l0).1 = 8) (hl1 : jl_n3 l1) (hl2 : jl_n3 l2) (hl3 : jl_n3 l3) (s0 : jl_Mm) : j2 G jM_X8_hanging 45 [(0, jl_vr G l0), (1, jl_vi l1), (2, jl_vi l2), (3, jl_vi l3)] [] s0 (jf_X8_hanging_B45 R8 l0 l1 l2 l3 s0) := by
  refine jr_iinc (j := 3) (lv := [(3, jl_vi (jl_add l3 1)), (0, jl_vr G l0), (1, jl_vi l1), (2, jl_vi l2)]) dX8_hanging_45 rfl (Nat.le_of_ble_eq_true rfl) rfl ?_
  refine jr_goto (t := 8) dX8_hanging_48 (by decide) ?_
  refine jr_sub [1, 2, 3, 0] rfl ?_
  exact hR8 l0 l1 l2 (jl_add l3 1) hl0 hl1 hl2 (jl_n3_to _) s0
def jf_X8_hanging_L8 : Nat → Nat → Int → Int → Int → jl_Mm → jl_O
  | 0, _, _, _, _, _ => none
  | n + 1, l0, l1, l2, l3, s0 =>
    if jl_g s0 l0 3 ≤ l3 then (some (jl_xor l2 (jl_shl (1 : Int) l1), s0)) else (if 0 ≤ l3 ∧ l3 < ((8 : Nat) : Int) then if jl_g s0 (l0 + 6) (l3).toNat < (0 : Int) then (jf_X8_hanging_B45 (jf_X8_hanging_L8 n) l0 l1 l2 l3 s0) else (if 0 ≤ l3 ∧ l3 < ((8 : Nat) : Int) then if jl_and (jl_shr l2 (jl_g s0 (l0 + 6) (l3).toNat)) (1 : Int) = (1 : Int) then (jl_let (jl_or l2 (jl_shl (1 : Int) l3)) fun x8 => jf_X8_hanging_B45 (jf_X8_hanging_L8 n) l0 l1 x8 l3 s0) else (jf_X8_hanging_B45 (jf_X8_hanging_L8 n) l0 l1 l2 l3 s0) else none) else none)
set_option maxRecDepth 20000 in
set_option maxHeartbeats 2000000 in
theorem jj_X8_hanging_L8 (G : jl_GC) : ∀ (n : Nat) (l0 : Nat) (l1 : Int) (l2 : Int) (l3 : Int) (hl0 : (jl_kd l0).1 = 8) (hl1 : jl_n3 l1) (hl2 : jl_n3 l2) (hl3 : jl_n3 l3) (s0 : jl_Mm), j2 G jM_X8_hanging 8 [(0, jl_vr G l0), (1, jl_vi l1), (2, jl_vi l2), (3, jl_vi l3)] [] s0 (jf_X8_hanging_L8 n l0 l1 l2 l3 s0) := by
  intro n
  induction n with
  | zero =>
    intros
    exact jr_none
  | succ n ih =>
    intro l0 l1 l2 l3 hl0 hl1 hl2 hl3 s0
    refine jr_iload_n dX8_hanging_8 3 rfl ?_
    refine jr_aload_n dX8_hanging_9 0 rfl ?_
    refine jr_geti (i := 3) jc_8 (jl_kd1 hl0) (jl_kdlt hl0 (by decide)) (Nat.le_of_ble_eq_true rfl) (js8n_3 hl0) jft_8_3 jw_100 dX8_hanging_10 ?_
    refine jr_icmp_ge (t := 51) dX8_hanging_13 (by decide) hl3 (jl_n3_to _) (fun c3 => ?_) (fun c3 => ?_)
    · refine jr_iload_n dX8_hanging_51 2 rfl ?_
      refine jr_iconst dX8_hanging_52 ?_
      refine jr_iload_n dX8_hanging_53 1 rfl ?_
      refine jr_ishl dX8_hanging_54 ?_
      refine jr_ixor dX8_hanging_55 ?_
      exact jr_ret_i rfl (jl_n3_to _) dX8_hanging_56
    · refine jr_aload_n dX8_hanging_16 0 rfl ?_
      refine jr_getk (i := 12) jc_8 (jl_kd1 hl0) (jl_kdlt hl0 (by decide)) (Nat.le_of_ble_eq_true rfl) (js8_12 hl0) jw_128 dX8_hanging_17 ?_
      refine jr_iload_n dX8_hanging_20 3 rfl ?_
      refine jr_grd (fun g4 => ?_)
      refine jr_iaload (js8k_12 hl0) (jl_kdl (js8k_12 hl0) (by decide)) hl3 g4 dX8_hanging_21 ?_
      refine jr_if_lt (t := 45) dX8_hanging_22 (by decide) (jl_n3_to _) (fun c5 => ?_) (fun c5 => ?_)
      · exact jj_X8_hanging_B45 G (jf_X8_hanging_L8 n) (ih) l0 l1 l2 l3 hl0 hl1 hl2 hl3 s0
      · refine jr_iload_n dX8_hanging_25 2 rfl ?_
        refine jr_aload_n dX8_hanging_26 0 rfl ?_
        refine jr_getk (i := 12) jc_8 (jl_kd1 hl0) (jl_kdlt hl0 (by decide)) (Nat.le_of_ble_eq_true rfl) (js8_12 hl0) jw_128 dX8_hanging_27 ?_
        refine jr_iload_n dX8_hanging_30 3 rfl ?_
        refine jr_grd (fun g6 => ?_)
        refine jr_iaload (js8k_12 hl0) (jl_kdl (js8k_12 hl0) (by decide)) hl3 g6 dX8_hanging_31 ?_
        refine jr_ishr dX8_hanging_32 ?_
        refine jr_iconst dX8_hanging_33 ?_
        refine jr_iand dX8_hanging_34 ?_
        refine jr_iconst dX8_hanging_35 ?_
        refine jr_icmp_ne (t := 45) dX8_hanging_36 (by decide) (jl_n3_to _) (jl_nlit rfl) (fun c7 => ?_) (fun c7 => ?_)
        · refine jr_iload_n dX8_hanging_39 2 rfl ?_
          refine jr_iconst dX8_hanging_40 ?_
          refine jr_iload_n dX8_hanging_41 3 rfl ?_
          refine jr_ishl dX8_hanging_42 ?_
          refine jr_ior dX8_hanging_43 ?_
          refine jr_let (jl_n3_to _) (fun x8 hx8 => ?_)
          refine jr_istore_n (lv := [(2, jl_vi x8), (0, jl_vr G l0), (1, jl_vi l1), (3, jl_vi l3)]) dX8_hanging_44 rfl (Nat.le_of_ble_eq_true rfl) rfl ?_
          refine jr_sub [1, 2, 0, 3] rfl ?_
          exact jj_X8_hanging_B45 G (jf_X8_hanging_L8 n) (ih) l0 l1 x8 l3 hl0 hl1 hx8 hl3 s0
        · exact jj_X8_hanging_B45 G (jf_X8_hanging_L8 n) (ih) l0 l1 l2 l3 hl0 hl1 hl2 hl3 s0
def jf_X8_hanging (q0 : Nat) (v1 : Int) (s0 : jl_Mm) : jl_O :=
  if (jl_kd q0).1 = 8 then jl_let (jl_shl (1 : Int) v1) fun x1 => jl_let (jl_add v1 (1 : Int)) fun x2 => jf_X8_hanging_L8 jl_fu q0 v1 x1 x2 s0 else none
set_option maxRecDepth 20000 in
set_option maxHeartbeats 2000000 in
theorem jt_X8_hanging (G : jl_GC) (q0 : Nat) (v1 : Int) (h1 : jl_n3 v1) (s0 : jl_Mm) : jC2 G jM_X8_hanging [jl_vr G q0, jl_vi v1] s0 (jf_X8_hanging q0 v1 s0) := by
  refine jl_met (plainFor_of_name rfl) (Nat.le_of_ble_eq_true rfl) ?_
  show j2 G jM_X8_hanging 0 [(0, jl_vr G q0), (1, jl_vi v1)] [] s0 _
  refine jr_grd (fun gp0 => ?_)
  refine jr_iconst dX8_hanging_0 ?_
  refine jr_iload_n dX8_hanging_1 1 rfl ?_
  refine jr_ishl dX8_hanging_2 ?_
  refine jr_let (jl_n3_to _) (fun x1 hx1 => ?_)
  refine jr_istore_n (lv := [(2, jl_vi x1), (0, jl_vr G q0), (1, jl_vi v1)]) dX8_hanging_3 rfl (Nat.le_of_ble_eq_true rfl) rfl ?_
  refine jr_iload_n dX8_hanging_4 2 rfl ?_
  refine jr_iconst dX8_hanging_5 ?_
  refine jr_iadd dX8_hanging_6 ?_
  refine jr_let (jl_n3_to _) (fun x2 hx2 => ?_)
  refine jr_istore_n (lv := [(3, jl_vi x2), (2, jl_vi x1), (0, jl_vr G q0), (1, jl_vi v1)]) dX8_hanging_7 rfl (Nat.le_of_ble_eq_true rfl) rfl ?_
  refine jr_sub [2, 3, 1, 0] rfl ?_
  exact jj_X8_hanging_L8 G jl_fu q0 v1 x1 x2 gp0 h1 hx1 hx2 s0
def jf_X11_lie (v1 : Int) (v2 : Int) (s0 : jl_Mm) : jl_O :=
  jl_bd (jf_X11_isLie v1 s0) fun r1 s2 => if r1 = (0 : Int) then (some ((-1 : Int), s2)) else (if v2 = 0 then (if 0 ≤ s2 0 2 ∧ (jl_kd (jl_gr s2 0 2)).1 = 8 then if 0 ≤ v1 ∧ v1 < ((8 : Nat) : Int) then some (jl_g s2 ((jl_gr s2 0 2) + 5) (v1).toNat, s2) else none else none) else if v2 = 1 then (if 0 ≤ v1 ∧ v1 < ((8 : Nat) : Int) then some (jl_g s2 42 (v1).toNat, s2) else none) else if v2 = 2 then (if 0 ≤ v1 ∧ v1 < ((8 : Nat) : Int) then some (jl_g s2 43 (v1).toNat, s2) else none) else if v2 = 3 then (jl_bd (jf_X5_believed 40 s2) fun r12 s13 => some (jl_and (jl_shr r12 v1) (1 : Int), s13)) else if v2 = 4 then (if 0 ≤ s2 0 2 ∧ (jl_kd (jl_gr s2 0 2)).1 = 8 then if 0 ≤ v1 ∧ v1 < ((8 : Nat) : Int) then some (jl_g s2 ((jl_gr s2 0 2) + 6) (v1).toNat, s2) else none else none) else if v2 = 5 then (if 0 ≤ s2 0 2 ∧ (jl_kd (jl_gr s2 0 2)).1 = 8 then jl_bd (jf_X8_hanging (jl_gr s2 0 2) v1 s2) fun r19 s20 => some (r19, s20) else none) else if v2 = 6 then (jl_bd (jf_X5_nearTo 40 v1 s2) fun r22 s23 => some (r22, s23)) else (some ((-1 : Int), s2)))
set_option maxRecDepth 20000 in
set_option maxHeartbeats 2000000 in
theorem jt_X11_lie (G : jl_GC) (v1 : Int) (v2 : Int) (h1 : jl_n3 v1) (h2 : jl_n3 v2) (s0 : jl_Mm) : jC2 G jM_X11_lie [jl_vr G 0, jl_vi v1, jl_vi v2] s0 (jf_X11_lie v1 v2 s0) := by
  refine jl_met (plainFor_of_name rfl) (Nat.le_of_ble_eq_true rfl) ?_
  show j2 G jM_X11_lie 0 [(0, jl_vr G 0), (1, jl_vi v1), (2, jl_vi v2)] [] s0 _
  refine jr_aload_n dX11_lie_0 0 rfl ?_
  refine jr_iload_n dX11_lie_1 1 rfl ?_
  refine j2_callVz (As := [jl_vi v1]) dX11_lie_2 (jt_X11_isLie G v1 h1 s0) jv_X11_isLie ⟨rfl, rfl, rfl⟩ jw_837 jk_0 (by decide) (by decide) rfl ⟨Nat.le_of_ble_eq_true rfl, Nat.le_of_ble_eq_true rfl⟩ rfl (Nat.le_of_ble_eq_true rfl) (fun r1 s2 hr1 => ?_)
  refine jr_if_ne (t := 10) dX11_lie_5 (by decide) (jl_nz hr1) (fun c3 => ?_) (fun c3 => ?_)
  · refine jr_iconst dX11_lie_8 ?_
    exact jr_ret_i rfl (jl_nlit rfl) dX11_lie_9
  · refine jr_iload_n dX11_lie_10 2 rfl ?_
    refine jr_ite (fun c4 => ?_) (fun c4 => ?_)
    · refine jr_tabIn (t := 52) dX11_lie_11 h2 (by omega) (by omega) (by rw [c4]; rfl) (by decide) ?_
      refine jr_aload_n dX11_lie_52 0 rfl ?_
      refine jr_grd (fun g5 => ?_)
      refine jr_getr (i := 2) jc_11 jk_0 (by decide) (Nat.le_of_ble_eq_true rfl) jlk_0_2 jft_11_2 g5.1 jw_426 dX11_lie_53 ?_
      refine jr_getkN (i := 11) jc_8 (jl_kd1 g5.2) (jl_kdlt g5.2 (by decide)) (Nat.le_of_ble_eq_true rfl) (js8_11 g5.2) jw_127 dX11_lie_56 ?_
      refine jr_iload_n dX11_lie_59 1 rfl ?_
      refine jr_grd (fun g6 => ?_)
      refine jr_iaload (js8k_11 g5.2) (jl_kdl (js8k_11 g5.2) (by decide)) h1 g6 dX11_lie_60 ?_
      exact jr_ret_i rfl (jl_n3_to _) dX11_lie_61
    · skip
      refine jr_ite (fun c7 => ?_) (fun c7 => ?_)
      · refine jr_tabIn (t := 62) dX11_lie_11 h2 (by omega) (by omega) (by rw [c7]; rfl) (by decide) ?_
        refine jr_aload_n dX11_lie_62 0 rfl ?_
        refine jr_getk (i := 6) jc_11 jk_0 (by decide) (Nat.le_of_ble_eq_true rfl) jlk_0_6 jw_430 dX11_lie_63 ?_
        refine jr_getkN (i := 3) jc_7 jk_40 (by decide) (Nat.le_of_ble_eq_true rfl) jlk_40_3 jw_252 dX11_lie_66 ?_
        refine jr_iload_n dX11_lie_69 1 rfl ?_
        refine jr_grd (fun g8 => ?_)
        refine jr_iaload jk_42 (by decide) h1 g8 dX11_lie_70 ?_
        exact jr_ret_i rfl (jl_n3_to _) dX11_lie_71
      · skip
        refine jr_ite (fun c9 => ?_) (fun c9 => ?_)
        · refine jr_tabIn (t := 72) dX11_lie_11 h2 (by omega) (by omega) (by rw [c9]; rfl) (by decide) ?_
          refine jr_aload_n dX11_lie_72 0 rfl ?_
          refine jr_getk (i := 6) jc_11 jk_0 (by decide) (Nat.le_of_ble_eq_true rfl) jlk_0_6 jw_430 dX11_lie_73 ?_
          refine jr_getkN (i := 4) jc_7 jk_40 (by decide) (Nat.le_of_ble_eq_true rfl) jlk_40_4 jw_254 dX11_lie_76 ?_
          refine jr_iload_n dX11_lie_79 1 rfl ?_
          refine jr_grd (fun g10 => ?_)
          refine jr_iaload jk_43 (by decide) h1 g10 dX11_lie_80 ?_
          exact jr_ret_i rfl (jl_n3_to _) dX11_lie_81
        · skip
          refine jr_ite (fun c11 => ?_) (fun c11 => ?_)
          · refine jr_tabIn (t := 82) dX11_lie_11 h2 (by omega) (by omega) (by rw [c11]; rfl) (by decide) ?_
            refine jr_aload_n dX11_lie_82 0 rfl ?_
            refine jr_getk (i := 9) jc_11 jk_0 (by decide) (Nat.le_of_ble_eq_true rfl) jlk_0_9 jw_433 dX11_lie_83 ?_
            refine jr_aload_n dX11_lie_86 0 rfl ?_
            refine jr_getk (i := 6) jc_11 jk_0 (by decide) (Nat.le_of_ble_eq_true rfl) jlk_0_6 jw_430 dX11_lie_87 ?_
            refine j2_callVi (As := [jl_vr G 40]) dX11_lie_90 (jt_X5_believed G 40 s2) jv_X5_believed ⟨rfl, rfl, rfl⟩ jw_789 jk_190 (by decide) (by decide) rfl ⟨Nat.le_of_ble_eq_true rfl, Nat.le_of_ble_eq_true rfl⟩ rfl (Nat.le_of_ble_eq_true rfl) (fun r12 s13 hr12 => ?_)
            refine jr_iload_n dX11_lie_93 1 rfl ?_
            refine jr_ishr dX11_lie_94 ?_
            refine jr_iconst dX11_lie_95 ?_
            refine jr_iand dX11_lie_96 ?_
            exact jr_ret_i rfl (jl_n3_to _) dX11_lie_97
          · skip
            refine jr_ite (fun c14 => ?_) (fun c14 => ?_)
            · refine jr_tabIn (t := 98) dX11_lie_11 h2 (by omega) (by omega) (by rw [c14]; rfl) (by decide) ?_
              refine jr_aload_n dX11_lie_98 0 rfl ?_
              refine jr_grd (fun g15 => ?_)
              refine jr_getr (i := 2) jc_11 jk_0 (by decide) (Nat.le_of_ble_eq_true rfl) jlk_0_2 jft_11_2 g15.1 jw_426 dX11_lie_99 ?_
              refine jr_getkN (i := 12) jc_8 (jl_kd1 g15.2) (jl_kdlt g15.2 (by decide)) (Nat.le_of_ble_eq_true rfl) (js8_12 g15.2) jw_131 dX11_lie_102 ?_
              refine jr_iload_n dX11_lie_105 1 rfl ?_
              refine jr_grd (fun g16 => ?_)
              refine jr_iaload (js8k_12 g15.2) (jl_kdl (js8k_12 g15.2) (by decide)) h1 g16 dX11_lie_106 ?_
              exact jr_ret_i rfl (jl_n3_to _) dX11_lie_107
            · skip
              refine jr_ite (fun c17 => ?_) (fun c17 => ?_)
              · refine jr_tabIn (t := 108) dX11_lie_11 h2 (by omega) (by omega) (by rw [c17]; rfl) (by decide) ?_
                refine jr_aload_n dX11_lie_108 0 rfl ?_
                refine jr_grd (fun g18 => ?_)
                refine jr_getr (i := 2) jc_11 jk_0 (by decide) (Nat.le_of_ble_eq_true rfl) jlk_0_2 jft_11_2 g18.1 jw_426 dX11_lie_109 ?_
                refine jr_iload_n dX11_lie_112 1 rfl ?_
                refine j2_callVi (As := [jl_vi v1]) dX11_lie_113 (jt_X8_hanging G (jl_gr s2 0 2) v1 h1 s2) jv_X8_hanging ⟨rfl, rfl, rfl⟩ jw_853 (jl_kd1 g18.2) (by decide) (jl_kdlt g18.2 (by decide)) rfl ⟨Nat.le_of_ble_eq_true rfl, Nat.le_of_ble_eq_true rfl⟩ rfl (Nat.le_of_ble_eq_true rfl) (fun r19 s20 hr19 => ?_)
                exact jr_ret_i rfl hr19 dX11_lie_116
              · skip
                refine jr_ite (fun c21 => ?_) (fun c21 => ?_)
                · refine jr_tabIn (t := 117) dX11_lie_11 h2 (by omega) (by omega) (by rw [c21]; rfl) (by decide) ?_
                  refine jr_aload_n dX11_lie_117 0 rfl ?_
                  refine jr_getk (i := 9) jc_11 jk_0 (by decide) (Nat.le_of_ble_eq_true rfl) jlk_0_9 jw_433 dX11_lie_118 ?_
                  refine jr_aload_n dX11_lie_121 0 rfl ?_
                  refine jr_getk (i := 6) jc_11 jk_0 (by decide) (Nat.le_of_ble_eq_true rfl) jlk_0_6 jw_430 dX11_lie_122 ?_
                  refine jr_iload_n dX11_lie_125 1 rfl ?_
                  refine j2_callVi (As := [jl_vr G 40, jl_vi v1]) dX11_lie_126 (jt_X5_nearTo G 40 v1 h1 s2) jv_X5_nearTo ⟨rfl, rfl, rfl⟩ jw_857 jk_190 (by decide) (by decide) rfl ⟨Nat.le_of_ble_eq_true rfl, Nat.le_of_ble_eq_true rfl⟩ rfl (Nat.le_of_ble_eq_true rfl) (fun r22 s23 hr22 => ?_)
                  exact jr_ret_i rfl hr22 dX11_lie_129
                · skip
                  refine jr_tabOut (t := 130) dX11_lie_11 h2 (by omega) (by decide) ?_
                  refine jr_iconst dX11_lie_130 ?_
                  exact jr_ret_i rfl (jl_nlit rfl) dX11_lie_131
def jf_X1_reach (v1 : Int) (s0 : jl_Mm) : jl_O :=
  jl_bd (jf_J9_min_7cf53 v1 (jl_sub (999 : Int) (jl_g s0 40 0)) s0) fun r1 s2 => some (r1, s2)
set_option maxRecDepth 20000 in
set_option maxHeartbeats 2000000 in
theorem jt_X1_reach (G : jl_GC) (v1 : Int) (h1 : jl_n3 v1) (s0 : jl_Mm) : jC2 G jM_X1_reach [jl_vr G 195, jl_vi v1] s0 (jf_X1_reach v1 s0) := by
  refine jl_met (plainFor_of_name rfl) (Nat.le_of_ble_eq_true rfl) ?_
  show j2 G jM_X1_reach 0 [(0, jl_vr G 195), (1, jl_vi v1)] [] s0 _
  refine jr_iload_n dX1_reach_0 1 rfl ?_
  refine jr_sipush dX1_reach_1 (by decide) ?_
  refine jr_aload_n dX1_reach_4 0 rfl ?_
  refine jr_getk (i := 1) jc_1 jk_195 (by decide) (Nat.le_of_ble_eq_true rfl) jlk_195_1 jw_348 dX1_reach_5 ?_
  refine jr_getiN (i := 0) jc_7 jk_40 (by decide) (Nat.le_of_ble_eq_true rfl) jlk_40_0 jft_7_0 jw_238 dX1_reach_8 ?_
  refine jr_isub dX1_reach_11 ?_
  refine j2_callSi (As := [jl_vi v1, jl_vi (jl_sub (999 : Int) (jl_g s0 40 0))]) dX1_reach_12 (jt_J9_min_7cf53 G v1 (jl_sub (999 : Int) (jl_g s0 40 0)) h1 (jl_n3_to _) s0) jv_J9_min_7cf53 ⟨rfl, rfl, rfl⟩ jw_874 ⟨Nat.le_of_ble_eq_true rfl, Nat.le_of_ble_eq_true rfl⟩ rfl (Nat.le_of_ble_eq_true rfl) (fun r1 s2 hr1 => ?_)
  exact jr_ret_i rfl hr1 dX1_reach_15
def jf_X1_comes_B19 (k0 : Int) (s0 : jl_Mm) : jl_O :=
  jl_zb k0 s0
set_option maxRecDepth 20000 in
set_option maxHeartbeats 2000000 in
theorem jj_X1_comes_B19 (G : jl_GC) (k0 : Int) (hk0 : jl_n3 k0) (s0 : jl_Mm) : j2 G jM_X1_comes 19 [] [jl_vi k0] s0 (jf_X1_comes_B19 k0 s0) := by
  exact jr_ret_z rfl dX1_comes_19
def jf_X1_comes_B18 (s0 : jl_Mm) : jl_O :=
  jf_X1_comes_B19 (0 : Int) s0
set_option maxRecDepth 20000 in
set_option maxHeartbeats 2000000 in
theorem jj_X1_comes_B18 (G : jl_GC) (s0 : jl_Mm) : j2 G jM_X1_comes 18 [] [] s0 (jf_X1_comes_B18 s0) := by
  refine jr_iconst dX1_comes_18 ?_
  exact jj_X1_comes_B19 G (0 : Int) (jl_nlit rfl) s0
def jf_X1_comes (v1 : Int) (v2 : Int) (v3 : Int) (s0 : jl_Mm) : jl_O :=
  if v1 < v2 then (jf_X1_comes_B18 s0) else (jl_bd (jf_X1_reach v3 s0) fun r2 s3 => if r2 < v1 then (jf_X1_comes_B18 s3) else (jf_X1_comes_B19 (1 : Int) s3))
set_option maxRecDepth 20000 in
set_option maxHeartbeats 2000000 in
theorem jt_X1_comes (G : jl_GC) (v1 : Int) (v2 : Int) (v3 : Int) (h1 : jl_n3 v1) (h2 : jl_n3 v2) (h3 : jl_n3 v3) (s0 : jl_Mm) : jC2 G jM_X1_comes [jl_vr G 195, jl_vi v1, jl_vi v2, jl_vi v3] s0 (jf_X1_comes v1 v2 v3 s0) := by
  refine jl_met (plainFor_of_name rfl) (Nat.le_of_ble_eq_true rfl) ?_
  show j2 G jM_X1_comes 0 [(0, jl_vr G 195), (1, jl_vi v1), (2, jl_vi v2), (3, jl_vi v3)] [] s0 _
  refine jr_iload_n dX1_comes_0 1 rfl ?_
  refine jr_iload_n dX1_comes_1 2 rfl ?_
  refine jr_icmp_lt (t := 18) dX1_comes_2 (by decide) h1 h2 (fun c1 => ?_) (fun c1 => ?_)
  · refine jr_sub [] rfl ?_
    exact jj_X1_comes_B18 G s0
  · refine jr_iload_n dX1_comes_5 1 rfl ?_
    refine jr_aload_n dX1_comes_6 0 rfl ?_
    refine jr_iload_n dX1_comes_7 3 rfl ?_
    refine j2_callVi (As := [jl_vi v3]) dX1_comes_8 (jt_X1_reach G v3 h3 s0) jv_X1_reach ⟨rfl, rfl, rfl⟩ jw_870 jk_195 (by decide) (by decide) rfl ⟨Nat.le_of_ble_eq_true rfl, Nat.le_of_ble_eq_true rfl⟩ rfl (Nat.le_of_ble_eq_true rfl) (fun r2 s3 hr2 => ?_)
    refine jr_icmp_gt (t := 18) dX1_comes_11 (by decide) h1 hr2 (fun c4 => ?_) (fun c4 => ?_)
    · refine jr_sub [] rfl ?_
      exact jj_X1_comes_B18 G s3
    · refine jr_iconst dX1_comes_14 ?_
      refine jr_goto (t := 19) dX1_comes_15 (by decide) ?_
      refine jr_sub [] rfl ?_
      exact jj_X1_comes_B19 G (1 : Int) (jl_nlit rfl) s3
def jf_X11_isWindow_B20 (k0 : Int) (s0 : jl_Mm) : jl_O :=
  jl_zb k0 s0
set_option maxRecDepth 20000 in
set_option maxHeartbeats 2000000 in
theorem jj_X11_isWindow_B20 (G : jl_GC) (k0 : Int) (hk0 : jl_n3 k0) (s0 : jl_Mm) : j2 G jM_X11_isWindow 20 [] [jl_vi k0] s0 (jf_X11_isWindow_B20 k0 s0) := by
  exact jr_ret_z rfl dX11_isWindow_20
def jf_X11_isWindow_B19 (s0 : jl_Mm) : jl_O :=
  jf_X11_isWindow_B20 (0 : Int) s0
set_option maxRecDepth 20000 in
set_option maxHeartbeats 2000000 in
theorem jj_X11_isWindow_B19 (G : jl_GC) (s0 : jl_Mm) : j2 G jM_X11_isWindow 19 [] [] s0 (jf_X11_isWindow_B19 s0) := by
  refine jr_iconst dX11_isWindow_19 ?_
  exact jj_X11_isWindow_B20 G (0 : Int) (jl_nlit rfl) s0
def jf_X11_isWindow (v1 : Int) (s0 : jl_Mm) : jl_O :=
  if v1 < (0 : Int) then (jf_X11_isWindow_B19 s0) else (if 0 ≤ s0 0 2 ∧ (jl_kd (jl_gr s0 0 2)).1 = 8 then if jl_g s0 (jl_gr s0 0 2) 1 ≤ v1 then (jf_X11_isWindow_B19 s0) else (jf_X11_isWindow_B20 (1 : Int) s0) else none)
set_option maxRecDepth 20000 in
set_option maxHeartbeats 2000000 in
theorem jt_X11_isWindow (G : jl_GC) (v1 : Int) (h1 : jl_n3 v1) (s0 : jl_Mm) : jC2 G jM_X11_isWindow [jl_vr G 0, jl_vi v1] s0 (jf_X11_isWindow v1 s0) := by
  refine jl_met (plainFor_of_name rfl) (Nat.le_of_ble_eq_true rfl) ?_
  show j2 G jM_X11_isWindow 0 [(0, jl_vr G 0), (1, jl_vi v1)] [] s0 _
  refine jr_iload_n dX11_isWindow_0 1 rfl ?_
  refine jr_if_lt (t := 19) dX11_isWindow_1 (by decide) h1 (fun c1 => ?_) (fun c1 => ?_)
  · refine jr_sub [] rfl ?_
    exact jj_X11_isWindow_B19 G s0
  · refine jr_iload_n dX11_isWindow_4 1 rfl ?_
    refine jr_aload_n dX11_isWindow_5 0 rfl ?_
    refine jr_grd (fun g2 => ?_)
    refine jr_getr (i := 2) jc_11 jk_0 (by decide) (Nat.le_of_ble_eq_true rfl) jlk_0_2 jft_11_2 g2.1 jw_426 dX11_isWindow_6 ?_
    refine jr_getiN (i := 1) jc_8 (jl_kd1 g2.2) (jl_kdlt g2.2 (by decide)) (Nat.le_of_ble_eq_true rfl) (js8n_1 g2.2) jft_8_1 jw_91 dX11_isWindow_9 ?_
    refine jr_icmp_ge (t := 19) dX11_isWindow_12 (by decide) h1 (jl_n3_to _) (fun c3 => ?_) (fun c3 => ?_)
    · refine jr_sub [] rfl ?_
      exact jj_X11_isWindow_B19 G s0
    · refine jr_iconst dX11_isWindow_15 ?_
      refine jr_goto (t := 20) dX11_isWindow_16 (by decide) ?_
      refine jr_sub [] rfl ?_
      exact jj_X11_isWindow_B20 G (1 : Int) (jl_nlit rfl) s0
def jf_X5_draughty (q1 : Nat) (v2 : Int) (v3 : Int) (s0 : jl_Mm) : jl_O :=
  if (jl_kd q1).1 = 7 then jl_lm (jl_up s0 192 (((20 : Int) : Int).toNat) v2) fun s1 => jl_lm (jl_up s1 192 (((19 : Int) : Int).toNat) v3) fun s2 => if 0 ≤ s2 190 0 ∧ (jl_kd (jl_gr s2 190 0)).1 = 8 then jl_bd (jf_X5_run q1 ((jl_gr s2 190 0) + 10) (0 : Int) s2) fun r4 s5 => jl_bd (jf_X5_draughtyBy r4 s5) fun r6 s7 => some (r6, s7) else none else none
set_option maxRecDepth 20000 in
set_option maxHeartbeats 2000000 in
theorem jt_X5_draughty (G : jl_GC) (q1 : Nat) (v2 : Int) (v3 : Int) (h2 : jl_n3 v2) (h3 : jl_n3 v3) (s0 : jl_Mm) : jC2 G jM_X5_draughty [jl_vr G 190, jl_vr G q1, jl_vi v2, jl_vi v3] s0 (jf_X5_draughty q1 v2 v3 s0) := by
  refine jl_met (plainFor_of_name rfl) (Nat.le_of_ble_eq_true rfl) ?_
  show j2 G jM_X5_draughty 0 [(0, jl_vr G 190), (1, jl_vr G q1), (2, jl_vi v2), (3, jl_vi v3)] [] s0 _
  refine jr_grd (fun gp1 => ?_)
  refine jr_aload_n dX5_draughty_0 0 rfl ?_
  refine jr_getk (i := 2) jc_5 jk_190 (by decide) (Nat.le_of_ble_eq_true rfl) jlk_190_2 jw_324 dX5_draughty_1 ?_
  refine jr_bipush dX5_draughty_4 (by decide) ?_
  refine jr_iload_n dX5_draughty_6 2 rfl ?_
  refine jr_iastore jk_192 (by decide) (jl_nlit rfl) ⟨by decide, by decide⟩ dX5_draughty_7 ?_
  refine jr_lm (fun s1 => ?_)
  refine jr_aload_n dX5_draughty_8 0 rfl ?_
  refine jr_getk (i := 2) jc_5 jk_190 (by decide) (Nat.le_of_ble_eq_true rfl) jlk_190_2 jw_324 dX5_draughty_9 ?_
  refine jr_bipush dX5_draughty_12 (by decide) ?_
  refine jr_iload_n dX5_draughty_14 3 rfl ?_
  refine jr_iastore jk_192 (by decide) (jl_nlit rfl) ⟨by decide, by decide⟩ dX5_draughty_15 ?_
  refine jr_lm (fun s2 => ?_)
  refine jr_aload_n dX5_draughty_16 0 rfl ?_
  refine jr_aload_n dX5_draughty_17 1 rfl ?_
  refine jr_aload_n dX5_draughty_18 0 rfl ?_
  refine jr_grd (fun g3 => ?_)
  refine jr_getr (i := 0) jc_5 jk_190 (by decide) (Nat.le_of_ble_eq_true rfl) jlk_190_0 jft_5_0 g3.1 jw_319 dX5_draughty_19 ?_
  refine jr_getkN (i := 16) jc_8 (jl_kd1 g3.2) (jl_kdlt g3.2 (by decide)) (Nat.le_of_ble_eq_true rfl) (js8_16 g3.2) jw_143 dX5_draughty_22 ?_
  refine jr_iconst dX5_draughty_25 ?_
  refine j2_callVi (As := [jl_vr G q1, jl_vr G ((jl_gr s2 190 0) + 10), jl_vi (0 : Int)]) dX5_draughty_26 (jt_X5_run G q1 ((jl_gr s2 190 0) + 10) (0 : Int) (jl_nlit rfl) s2) jv_X5_run ⟨rfl, rfl, rfl⟩ jw_801 jk_190 (by decide) (by decide) rfl ⟨Nat.le_of_ble_eq_true rfl, Nat.le_of_ble_eq_true rfl⟩ rfl (Nat.le_of_ble_eq_true rfl) (fun r4 s5 hr4 => ?_)
  refine j2_callSi (As := [jl_vi r4]) dX5_draughty_29 (jt_X5_draughtyBy G r4 hr4 s5) jv_X5_draughtyBy ⟨rfl, rfl, rfl⟩ jw_817 ⟨Nat.le_of_ble_eq_true rfl, Nat.le_of_ble_eq_true rfl⟩ rfl (Nat.le_of_ble_eq_true rfl) (fun r6 s7 hr6 => ?_)
  exact jr_ret_i rfl hr6 dX5_draughty_32
def jf_X11_draft_B22 (s0 : jl_Mm) : jl_O :=
  some ((-1 : Int), s0)
set_option maxRecDepth 20000 in
set_option maxHeartbeats 2000000 in
theorem jj_X11_draft_B22 (G : jl_GC) (s0 : jl_Mm) : j2 G jM_X11_draft 22 [] [] s0 (jf_X11_draft_B22 s0) := by
  refine jr_iconst dX11_draft_22 ?_
  exact jr_ret_i rfl (jl_nlit rfl) dX11_draft_23
def jf_X11_draft (v1 : Int) (v2 : Int) (s0 : jl_Mm) : jl_O :=
  jl_bd (jf_X11_isWindow v1 s0) fun r1 s2 => if r1 = (0 : Int) then (jf_X11_draft_B22 s2) else (jl_bd (jf_X1_comes v2 (0 : Int) (60 : Int) s2) fun r4 s5 => if r4 = (0 : Int) then (jf_X11_draft_B22 s5) else (jl_bd (jf_X5_draughty 40 v1 (jl_add (jl_g s5 40 0) v2) s5) fun r7 s8 => some (r7, s8)))
set_option maxRecDepth 20000 in
set_option maxHeartbeats 2000000 in
theorem jt_X11_draft (G : jl_GC) (v1 : Int) (v2 : Int) (h1 : jl_n3 v1) (h2 : jl_n3 v2) (s0 : jl_Mm) : jC2 G jM_X11_draft [jl_vr G 0, jl_vi v1, jl_vi v2] s0 (jf_X11_draft v1 v2 s0) := by
  refine jl_met (plainFor_of_name rfl) (Nat.le_of_ble_eq_true rfl) ?_
  show j2 G jM_X11_draft 0 [(0, jl_vr G 0), (1, jl_vi v1), (2, jl_vi v2)] [] s0 _
  refine jr_aload_n dX11_draft_0 0 rfl ?_
  refine jr_iload_n dX11_draft_1 1 rfl ?_
  refine j2_callVz (As := [jl_vi v1]) dX11_draft_2 (jt_X11_isWindow G v1 h1 s0) jv_X11_isWindow ⟨rfl, rfl, rfl⟩ jw_862 jk_0 (by decide) (by decide) rfl ⟨Nat.le_of_ble_eq_true rfl, Nat.le_of_ble_eq_true rfl⟩ rfl (Nat.le_of_ble_eq_true rfl) (fun r1 s2 hr1 => ?_)
  refine jr_if_eq (t := 22) dX11_draft_5 (by decide) (jl_nz hr1) (fun c3 => ?_) (fun c3 => ?_)
  · refine jr_sub [] rfl ?_
    exact jj_X11_draft_B22 G s2
  · refine jr_aload_n dX11_draft_8 0 rfl ?_
    refine jr_getk (i := 10) jc_11 jk_0 (by decide) (Nat.le_of_ble_eq_true rfl) jlk_0_10 jw_434 dX11_draft_9 ?_
    refine jr_iload_n dX11_draft_12 2 rfl ?_
    refine jr_iconst dX11_draft_13 ?_
    refine jr_bipush dX11_draft_14 (by decide) ?_
    refine j2_callVz (As := [jl_vi v2, jl_vi (0 : Int), jl_vi (60 : Int)]) dX11_draft_16 (jt_X1_comes G v2 (0 : Int) (60 : Int) h2 (jl_nlit rfl) (jl_nlit rfl) s2) jv_X1_comes ⟨rfl, rfl, rfl⟩ jw_866 jk_195 (by decide) (by decide) rfl ⟨Nat.le_of_ble_eq_true rfl, Nat.le_of_ble_eq_true rfl⟩ rfl (Nat.le_of_ble_eq_true rfl) (fun r4 s5 hr4 => ?_)
    refine jr_if_ne (t := 24) dX11_draft_19 (by decide) (jl_nz hr4) (fun c6 => ?_) (fun c6 => ?_)
    · refine jr_sub [] rfl ?_
      exact jj_X11_draft_B22 G s5
    · refine jr_aload_n dX11_draft_24 0 rfl ?_
      refine jr_getk (i := 9) jc_11 jk_0 (by decide) (Nat.le_of_ble_eq_true rfl) jlk_0_9 jw_433 dX11_draft_25 ?_
      refine jr_aload_n dX11_draft_28 0 rfl ?_
      refine jr_getk (i := 6) jc_11 jk_0 (by decide) (Nat.le_of_ble_eq_true rfl) jlk_0_6 jw_430 dX11_draft_29 ?_
      refine jr_iload_n dX11_draft_32 1 rfl ?_
      refine jr_aload_n dX11_draft_33 0 rfl ?_
      refine jr_getk (i := 6) jc_11 jk_0 (by decide) (Nat.le_of_ble_eq_true rfl) jlk_0_6 jw_430 dX11_draft_34 ?_
      refine jr_getiN (i := 0) jc_7 jk_40 (by decide) (Nat.le_of_ble_eq_true rfl) jlk_40_0 jft_7_0 jw_239 dX11_draft_37 ?_
      refine jr_iload_n dX11_draft_40 2 rfl ?_
      refine jr_iadd dX11_draft_41 ?_
      refine j2_callVi (As := [jl_vr G 40, jl_vi v1, jl_vi (jl_add (jl_g s5 40 0) v2)]) dX11_draft_42 (jt_X5_draughty G 40 v1 (jl_add (jl_g s5 40 0) v2) h1 (jl_n3_to _) s5) jv_X5_draughty ⟨rfl, rfl, rfl⟩ jw_875 jk_190 (by decide) (by decide) rfl ⟨Nat.le_of_ble_eq_true rfl, Nat.le_of_ble_eq_true rfl⟩ rfl (Nat.le_of_ble_eq_true rfl) (fun r7 s8 hr7 => ?_)
      exact jr_ret_i rfl hr7 dX11_draft_45
def jf_X11_plan_B15 (s0 : jl_Mm) : jl_O :=
  some ((-1 : Int), s0)
set_option maxRecDepth 20000 in
set_option maxHeartbeats 2000000 in
theorem jj_X11_plan_B15 (G : jl_GC) (s0 : jl_Mm) : j2 G jM_X11_plan 15 [] [] s0 (jf_X11_plan_B15 s0) := by
  refine jr_iconst dX11_plan_15 ?_
  exact jr_ret_i rfl (jl_nlit rfl) dX11_plan_16
def jf_X11_plan (v1 : Int) (v2 : Int) (s0 : jl_Mm) : jl_O :=
  if v1 < (0 : Int) then (jf_X11_plan_B15 s0) else (if 0 ≤ s0 0 2 ∧ (jl_kd (jl_gr s0 0 2)).1 = 8 then if v1 < jl_g s0 (jl_gr s0 0 2) 4 then (if v2 = 0 then (if 0 ≤ s0 0 2 ∧ (jl_kd (jl_gr s0 0 2)).1 = 8 then if 0 ≤ v1 ∧ v1 < ((16 : Nat) : Int) then some (jl_g s0 ((jl_gr s0 0 2) + 7) (v1).toNat, s0) else none else none) else if v2 = 1 then (if 0 ≤ s0 0 2 ∧ (jl_kd (jl_gr s0 0 2)).1 = 8 then if 0 ≤ v1 ∧ v1 < ((16 : Nat) : Int) then some (jl_g s0 ((jl_gr s0 0 2) + 8) (v1).toNat, s0) else none else none) else if v2 = 2 then (if 0 ≤ s0 0 2 ∧ (jl_kd (jl_gr s0 0 2)).1 = 8 then if 0 ≤ v1 ∧ v1 < ((16 : Nat) : Int) then some (jl_g s0 ((jl_gr s0 0 2) + 9) (v1).toNat, s0) else none else none) else (some ((-1 : Int), s0))) else (jf_X11_plan_B15 s0) else none)
set_option maxRecDepth 20000 in
set_option maxHeartbeats 2000000 in
theorem jt_X11_plan (G : jl_GC) (v1 : Int) (v2 : Int) (h1 : jl_n3 v1) (h2 : jl_n3 v2) (s0 : jl_Mm) : jC2 G jM_X11_plan [jl_vr G 0, jl_vi v1, jl_vi v2] s0 (jf_X11_plan v1 v2 s0) := by
  refine jl_met (plainFor_of_name rfl) (Nat.le_of_ble_eq_true rfl) ?_
  show j2 G jM_X11_plan 0 [(0, jl_vr G 0), (1, jl_vi v1), (2, jl_vi v2)] [] s0 _
  refine jr_iload_n dX11_plan_0 1 rfl ?_
  refine jr_if_lt (t := 15) dX11_plan_1 (by decide) h1 (fun c1 => ?_) (fun c1 => ?_)
  · refine jr_sub [] rfl ?_
    exact jj_X11_plan_B15 G s0
  · refine jr_iload_n dX11_plan_4 1 rfl ?_
    refine jr_aload_n dX11_plan_5 0 rfl ?_
    refine jr_grd (fun g2 => ?_)
    refine jr_getr (i := 2) jc_11 jk_0 (by decide) (Nat.le_of_ble_eq_true rfl) jlk_0_2 jft_11_2 g2.1 jw_426 dX11_plan_6 ?_
    refine jr_getiN (i := 4) jc_8 (jl_kd1 g2.2) (jl_kdlt g2.2 (by decide)) (Nat.le_of_ble_eq_true rfl) (js8n_4 g2.2) jft_8_4 jw_107 dX11_plan_9 ?_
    refine jr_icmp_lt (t := 17) dX11_plan_12 (by decide) h1 (jl_n3_to _) (fun c3 => ?_) (fun c3 => ?_)
    · refine jr_iload_n dX11_plan_17 2 rfl ?_
      refine jr_ite (fun c4 => ?_) (fun c4 => ?_)
      · refine jr_tabIn (t := 44) dX11_plan_18 h2 (by omega) (by omega) (by rw [c4]; rfl) (by decide) ?_
        refine jr_aload_n dX11_plan_44 0 rfl ?_
        refine jr_grd (fun g5 => ?_)
        refine jr_getr (i := 2) jc_11 jk_0 (by decide) (Nat.le_of_ble_eq_true rfl) jlk_0_2 jft_11_2 g5.1 jw_426 dX11_plan_45 ?_
        refine jr_getkN (i := 13) jc_8 (jl_kd1 g5.2) (jl_kdlt g5.2 (by decide)) (Nat.le_of_ble_eq_true rfl) (js8_13 g5.2) jw_133 dX11_plan_48 ?_
        refine jr_iload_n dX11_plan_51 1 rfl ?_
        refine jr_grd (fun g6 => ?_)
        refine jr_iaload (js8k_13 g5.2) (jl_kdl (js8k_13 g5.2) (by decide)) h1 g6 dX11_plan_52 ?_
        exact jr_ret_i rfl (jl_n3_to _) dX11_plan_53
      · skip
        refine jr_ite (fun c7 => ?_) (fun c7 => ?_)
        · refine jr_tabIn (t := 54) dX11_plan_18 h2 (by omega) (by omega) (by rw [c7]; rfl) (by decide) ?_
          refine jr_aload_n dX11_plan_54 0 rfl ?_
          refine jr_grd (fun g8 => ?_)
          refine jr_getr (i := 2) jc_11 jk_0 (by decide) (Nat.le_of_ble_eq_true rfl) jlk_0_2 jft_11_2 g8.1 jw_426 dX11_plan_55 ?_
          refine jr_getkN (i := 14) jc_8 (jl_kd1 g8.2) (jl_kdlt g8.2 (by decide)) (Nat.le_of_ble_eq_true rfl) (js8_14 g8.2) jw_136 dX11_plan_58 ?_
          refine jr_iload_n dX11_plan_61 1 rfl ?_
          refine jr_grd (fun g9 => ?_)
          refine jr_iaload (js8k_14 g8.2) (jl_kdl (js8k_14 g8.2) (by decide)) h1 g9 dX11_plan_62 ?_
          exact jr_ret_i rfl (jl_n3_to _) dX11_plan_63
        · skip
          refine jr_ite (fun c10 => ?_) (fun c10 => ?_)
          · refine jr_tabIn (t := 64) dX11_plan_18 h2 (by omega) (by omega) (by rw [c10]; rfl) (by decide) ?_
            refine jr_aload_n dX11_plan_64 0 rfl ?_
            refine jr_grd (fun g11 => ?_)
            refine jr_getr (i := 2) jc_11 jk_0 (by decide) (Nat.le_of_ble_eq_true rfl) jlk_0_2 jft_11_2 g11.1 jw_426 dX11_plan_65 ?_
            refine jr_getkN (i := 15) jc_8 (jl_kd1 g11.2) (jl_kdlt g11.2 (by decide)) (Nat.le_of_ble_eq_true rfl) (js8_15 g11.2) jw_139 dX11_plan_68 ?_
            refine jr_iload_n dX11_plan_71 1 rfl ?_
            refine jr_grd (fun g12 => ?_)
            refine jr_iaload (js8k_15 g11.2) (jl_kdl (js8k_15 g11.2) (by decide)) h1 g12 dX11_plan_72 ?_
            exact jr_ret_i rfl (jl_n3_to _) dX11_plan_73
          · skip
            refine jr_tabOut (t := 74) dX11_plan_18 h2 (by omega) (by decide) ?_
            refine jr_iconst dX11_plan_74 ?_
            exact jr_ret_i rfl (jl_nlit rfl) dX11_plan_75
    · refine jr_sub [] rfl ?_
      exact jj_X11_plan_B15 G s0
def jf_X2_hourOf (q0 : Nat) (v1 : Int) (s0 : jl_Mm) : jl_O :=
  if (jl_kd q0).1 = 2 then if 0 ≤ jl_rem (jl_add (jl_g s0 q0 2) v1) (40 : Int) ∧ jl_rem (jl_add (jl_g s0 q0 2) v1) (40 : Int) < ((40 : Nat) : Int) then some (jl_g s0 (q0 + 1) (jl_rem (jl_add (jl_g s0 q0 2) v1) (40 : Int)).toNat, s0) else none else none
set_option maxRecDepth 20000 in
set_option maxHeartbeats 2000000 in
theorem jt_X2_hourOf (G : jl_GC) (q0 : Nat) (v1 : Int) (h1 : jl_n3 v1) (s0 : jl_Mm) : jC2 G jM_X2_hourOf [jl_vr G q0, jl_vi v1] s0 (jf_X2_hourOf q0 v1 s0) := by
  refine jl_met (plainFor_of_name rfl) (Nat.le_of_ble_eq_true rfl) ?_
  show j2 G jM_X2_hourOf 0 [(0, jl_vr G q0), (1, jl_vi v1)] [] s0 _
  refine jr_grd (fun gp0 => ?_)
  refine jr_aload_n dX2_hourOf_0 0 rfl ?_
  refine jr_getk (i := 0) jc_2 (jl_kd1 gp0) (jl_kdlt gp0 (by decide)) (Nat.le_of_ble_eq_true rfl) (js2_0 gp0) jw_273 dX2_hourOf_1 ?_
  refine jr_aload_n dX2_hourOf_4 0 rfl ?_
  refine jr_geti (i := 2) jc_2 (jl_kd1 gp0) (jl_kdlt gp0 (by decide)) (Nat.le_of_ble_eq_true rfl) (js2n_2 gp0) jft_2_2 jw_275 dX2_hourOf_5 ?_
  refine jr_iload_n dX2_hourOf_8 1 rfl ?_
  refine jr_iadd dX2_hourOf_9 ?_
  refine jr_bipush dX2_hourOf_10 (by decide) ?_
  refine jr_irem dX2_hourOf_12 (jl_nlit rfl) (by decide) ?_
  refine jr_grd (fun g1 => ?_)
  refine jr_iaload (js2k_0 gp0) (jl_kdl (js2k_0 gp0) (by decide)) (jl_n3_to _) g1 dX2_hourOf_13 ?_
  exact jr_ret_i rfl (jl_n3_to _) dX2_hourOf_14
def jf_X2_lieOf (q0 : Nat) (v1 : Int) (s0 : jl_Mm) : jl_O :=
  if (jl_kd q0).1 = 2 then if 0 ≤ jl_rem (jl_add (jl_g s0 q0 2) v1) (40 : Int) ∧ jl_rem (jl_add (jl_g s0 q0 2) v1) (40 : Int) < ((40 : Nat) : Int) then some (jl_g s0 (q0 + 2) (jl_rem (jl_add (jl_g s0 q0 2) v1) (40 : Int)).toNat, s0) else none else none
set_option maxRecDepth 20000 in
set_option maxHeartbeats 2000000 in
theorem jt_X2_lieOf (G : jl_GC) (q0 : Nat) (v1 : Int) (h1 : jl_n3 v1) (s0 : jl_Mm) : jC2 G jM_X2_lieOf [jl_vr G q0, jl_vi v1] s0 (jf_X2_lieOf q0 v1 s0) := by
  refine jl_met (plainFor_of_name rfl) (Nat.le_of_ble_eq_true rfl) ?_
  show j2 G jM_X2_lieOf 0 [(0, jl_vr G q0), (1, jl_vi v1)] [] s0 _
  refine jr_grd (fun gp0 => ?_)
  refine jr_aload_n dX2_lieOf_0 0 rfl ?_
  refine jr_getk (i := 1) jc_2 (jl_kd1 gp0) (jl_kdlt gp0 (by decide)) (Nat.le_of_ble_eq_true rfl) (js2_1 gp0) jw_274 dX2_lieOf_1 ?_
  refine jr_aload_n dX2_lieOf_4 0 rfl ?_
  refine jr_geti (i := 2) jc_2 (jl_kd1 gp0) (jl_kdlt gp0 (by decide)) (Nat.le_of_ble_eq_true rfl) (js2n_2 gp0) jft_2_2 jw_275 dX2_lieOf_5 ?_
  refine jr_iload_n dX2_lieOf_8 1 rfl ?_
  refine jr_iadd dX2_lieOf_9 ?_
  refine jr_bipush dX2_lieOf_10 (by decide) ?_
  refine jr_irem dX2_lieOf_12 (jl_nlit rfl) (by decide) ?_
  refine jr_grd (fun g1 => ?_)
  refine jr_iaload (js2k_1 gp0) (jl_kdl (js2k_1 gp0) (by decide)) (jl_n3_to _) g1 dX2_lieOf_13 ?_
  exact jr_ret_i rfl (jl_n3_to _) dX2_lieOf_14
def jf_X11_kept_B15 (s0 : jl_Mm) : jl_O :=
  some ((-1 : Int), s0)
set_option maxRecDepth 20000 in
set_option maxHeartbeats 2000000 in
theorem jj_X11_kept_B15 (G : jl_GC) (s0 : jl_Mm) : j2 G jM_X11_kept 15 [] [] s0 (jf_X11_kept_B15 s0) := by
  refine jr_iconst dX11_kept_15 ?_
  exact jr_ret_i rfl (jl_nlit rfl) dX11_kept_16
def jf_X11_kept (v1 : Int) (v2 : Int) (s0 : jl_Mm) : jl_O :=
  if v1 < (0 : Int) then (jf_X11_kept_B15 s0) else (if v1 < jl_g s0 44 3 then (if v2 = 0 then (jl_bd (jf_X2_hourOf 44 v1 s0) fun r4 s5 => some (r4, s5)) else if v2 = 1 then (jl_bd (jf_X2_lieOf 44 v1 s0) fun r7 s8 => some (r7, s8)) else (some ((-1 : Int), s0))) else (jf_X11_kept_B15 s0))
set_option maxRecDepth 20000 in
set_option maxHeartbeats 2000000 in
theorem jt_X11_kept (G : jl_GC) (v1 : Int) (v2 : Int) (h1 : jl_n3 v1) (h2 : jl_n3 v2) (s0 : jl_Mm) : jC2 G jM_X11_kept [jl_vr G 0, jl_vi v1, jl_vi v2] s0 (jf_X11_kept v1 v2 s0) := by
  refine jl_met (plainFor_of_name rfl) (Nat.le_of_ble_eq_true rfl) ?_
  show j2 G jM_X11_kept 0 [(0, jl_vr G 0), (1, jl_vi v1), (2, jl_vi v2)] [] s0 _
  refine jr_iload_n dX11_kept_0 1 rfl ?_
  refine jr_if_lt (t := 15) dX11_kept_1 (by decide) h1 (fun c1 => ?_) (fun c1 => ?_)
  · refine jr_sub [] rfl ?_
    exact jj_X11_kept_B15 G s0
  · refine jr_iload_n dX11_kept_4 1 rfl ?_
    refine jr_aload_n dX11_kept_5 0 rfl ?_
    refine jr_getk (i := 7) jc_11 jk_0 (by decide) (Nat.le_of_ble_eq_true rfl) jlk_0_7 jw_431 dX11_kept_6 ?_
    refine jr_getiN (i := 3) jc_2 jk_44 (by decide) (Nat.le_of_ble_eq_true rfl) jlk_44_3 jft_2_3 jw_277 dX11_kept_9 ?_
    refine jr_icmp_lt (t := 17) dX11_kept_12 (by decide) h1 (jl_n3_to _) (fun c2 => ?_) (fun c2 => ?_)
    · refine jr_iload_n dX11_kept_17 2 rfl ?_
      refine jr_ite (fun c3 => ?_) (fun c3 => ?_)
      · refine jr_look (t := 44) (off := 26) dX11_kept_18 h2 (by decide) (by rw [c3] <;> rfl) (by decide) ?_
        refine jr_aload_n dX11_kept_44 0 rfl ?_
        refine jr_getk (i := 7) jc_11 jk_0 (by decide) (Nat.le_of_ble_eq_true rfl) jlk_0_7 jw_431 dX11_kept_45 ?_
        refine jr_iload_n dX11_kept_48 1 rfl ?_
        refine j2_callVi (As := [jl_vi v1]) dX11_kept_49 (jt_X2_hourOf G 44 v1 h1 s0) jv_X2_hourOf ⟨rfl, rfl, rfl⟩ jw_887 jk_44 (by decide) (by decide) rfl ⟨Nat.le_of_ble_eq_true rfl, Nat.le_of_ble_eq_true rfl⟩ rfl (Nat.le_of_ble_eq_true rfl) (fun r4 s5 hr4 => ?_)
        exact jr_ret_i rfl hr4 dX11_kept_52
      · skip
        refine jr_ite (fun c6 => ?_) (fun c6 => ?_)
        · refine jr_look (t := 53) (off := 35) dX11_kept_18 h2 (by decide) (by rw [c6] <;> rfl) (by decide) ?_
          refine jr_aload_n dX11_kept_53 0 rfl ?_
          refine jr_getk (i := 7) jc_11 jk_0 (by decide) (Nat.le_of_ble_eq_true rfl) jlk_0_7 jw_431 dX11_kept_54 ?_
          refine jr_iload_n dX11_kept_57 1 rfl ?_
          refine j2_callVi (As := [jl_vi v1]) dX11_kept_58 (jt_X2_lieOf G 44 v1 h1 s0) jv_X2_lieOf ⟨rfl, rfl, rfl⟩ jw_891 jk_44 (by decide) (by decide) rfl ⟨Nat.le_of_ble_eq_true rfl, Nat.le_of_ble_eq_true rfl⟩ rfl (Nat.le_of_ble_eq_true rfl) (fun r7 s8 hr7 => ?_)
          exact jr_ret_i rfl hr7 dX11_kept_61
        · skip
          refine jr_look (t := 62) (off := 44) dX11_kept_18 h2 (by decide) (by simp [Op.lookupswitch.offset, Ne.symm c3, Ne.symm c6]) (by decide) ?_
          refine jr_iconst dX11_kept_62 ?_
          exact jr_ret_i rfl (jl_nlit rfl) dX11_kept_63
    · refine jr_sub [] rfl ?_
      exact jj_X11_kept_B15 G s0
def jf_X7_copyFrom (q0 : Nat) (q1 : Nat) (s0 : jl_Mm) : jl_O :=
  if (jl_kd q0).1 = 7 then if (jl_kd q1).1 = 7 then jl_lm (jl_up s0 q0 0 (jl_g s0 q1 0)) fun s1 => jl_lm (jl_up s1 q0 1 (jl_g s1 q1 1)) fun s2 => if (0 ≤ (0 : Int) ∧ 0 ≤ (0 : Int) ∧ 0 ≤ (6 : Int)) ∧ (0 : Int) + (6 : Int) ≤ ((6 : Nat) : Int) ∧ (0 : Int) + (6 : Int) ≤ ((6 : Nat) : Int) then jl_lm (jl_cp s2 (q1 + 1) (((0 : Int) : Int).toNat) (q0 + 1) (((0 : Int) : Int).toNat) (((6 : Int) : Int).toNat)) fun s4 => if (0 ≤ (0 : Int) ∧ 0 ≤ (0 : Int) ∧ 0 ≤ (8 : Int)) ∧ (0 : Int) + (8 : Int) ≤ ((8 : Nat) : Int) ∧ (0 : Int) + (8 : Int) ≤ ((8 : Nat) : Int) then jl_lm (jl_cp s4 (q1 + 2) (((0 : Int) : Int).toNat) (q0 + 2) (((0 : Int) : Int).toNat) (((8 : Int) : Int).toNat)) fun s6 => if (0 ≤ (0 : Int) ∧ 0 ≤ (0 : Int) ∧ 0 ≤ (8 : Int)) ∧ (0 : Int) + (8 : Int) ≤ ((8 : Nat) : Int) ∧ (0 : Int) + (8 : Int) ≤ ((8 : Nat) : Int) then jl_lm (jl_cp s6 (q1 + 3) (((0 : Int) : Int).toNat) (q0 + 3) (((0 : Int) : Int).toNat) (((8 : Int) : Int).toNat)) fun s8 => some (0, s8) else none else none else none else none else none
set_option maxRecDepth 20000 in
set_option maxHeartbeats 2000000 in
theorem jt_X7_copyFrom (G : jl_GC) (q0 : Nat) (q1 : Nat) (s0 : jl_Mm) : jC2 G jM_X7_copyFrom [jl_vr G q0, jl_vr G q1] s0 (jf_X7_copyFrom q0 q1 s0) := by
  refine jl_met (plainFor_of_name rfl) (Nat.le_of_ble_eq_true rfl) ?_
  show j2 G jM_X7_copyFrom 0 [(0, jl_vr G q0), (1, jl_vr G q1)] [] s0 _
  refine jr_grd (fun gp0 => ?_)
  refine jr_grd (fun gp1 => ?_)
  refine jr_aload_n dX7_copyFrom_0 0 rfl ?_
  refine jr_aload_n dX7_copyFrom_1 1 rfl ?_
  refine jr_geti (i := 0) jc_7 (jl_kd1 gp1) (jl_kdlt gp1 (by decide)) (Nat.le_of_ble_eq_true rfl) (js7n_0 gp1) jft_7_0 jw_237 dX7_copyFrom_2 ?_
  refine jr_puti (i := 0) jc_7 (jl_kd1 gp0) (jl_kdlt gp0 (by decide)) (Nat.le_of_ble_eq_true rfl) (js7n_0 gp0) jft_7_0 rfl jw_237 rfl dX7_copyFrom_5 ?_
  refine jr_lm (fun s1 => ?_)
  refine jr_aload_n dX7_copyFrom_8 0 rfl ?_
  refine jr_aload_n dX7_copyFrom_9 1 rfl ?_
  refine jr_geti (i := 1) jc_7 (jl_kd1 gp1) (jl_kdlt gp1 (by decide)) (Nat.le_of_ble_eq_true rfl) (js7n_1 gp1) jft_7_1 jw_241 dX7_copyFrom_10 ?_
  refine jr_puti (i := 1) jc_7 (jl_kd1 gp0) (jl_kdlt gp0 (by decide)) (Nat.le_of_ble_eq_true rfl) (js7n_1 gp0) jft_7_1 rfl jw_241 rfl dX7_copyFrom_13 ?_
  refine jr_lm (fun s2 => ?_)
  refine jr_aload_n dX7_copyFrom_16 1 rfl ?_
  refine jr_getk (i := 2) jc_7 (jl_kd1 gp1) (jl_kdlt gp1 (by decide)) (Nat.le_of_ble_eq_true rfl) (js7_2 gp1) jw_244 dX7_copyFrom_17 ?_
  refine jr_iconst dX7_copyFrom_20 ?_
  refine jr_aload_n dX7_copyFrom_21 0 rfl ?_
  refine jr_getk (i := 2) jc_7 (jl_kd1 gp0) (jl_kdlt gp0 (by decide)) (Nat.le_of_ble_eq_true rfl) (js7_2 gp0) jw_244 dX7_copyFrom_22 ?_
  refine jr_iconst dX7_copyFrom_25 ?_
  refine jr_bipush dX7_copyFrom_26 (by decide) ?_
  refine jr_grd (fun g3 => ?_)
  refine jr_copy dX7_copyFrom_28 (js7k_2 gp1) (jl_kdl (js7k_2 gp1) (by decide)) (js7k_2 gp0) (jl_kdl (js7k_2 gp0) (by decide)) (jl_nlit rfl) (jl_nlit rfl) (jl_nlit rfl) g3 jw_755 (Nat.le_of_ble_eq_true rfl) (Nat.le_of_ble_eq_true rfl) ?_
  refine jr_lm (fun s4 => ?_)
  refine jr_aload_n dX7_copyFrom_31 1 rfl ?_
  refine jr_getk (i := 3) jc_7 (jl_kd1 gp1) (jl_kdlt gp1 (by decide)) (Nat.le_of_ble_eq_true rfl) (js7_3 gp1) jw_248 dX7_copyFrom_32 ?_
  refine jr_iconst dX7_copyFrom_35 ?_
  refine jr_aload_n dX7_copyFrom_36 0 rfl ?_
  refine jr_getk (i := 3) jc_7 (jl_kd1 gp0) (jl_kdlt gp0 (by decide)) (Nat.le_of_ble_eq_true rfl) (js7_3 gp0) jw_248 dX7_copyFrom_37 ?_
  refine jr_iconst dX7_copyFrom_40 ?_
  refine jr_bipush dX7_copyFrom_41 (by decide) ?_
  refine jr_grd (fun g5 => ?_)
  refine jr_copy dX7_copyFrom_43 (js7k_3 gp1) (jl_kdl (js7k_3 gp1) (by decide)) (js7k_3 gp0) (jl_kdl (js7k_3 gp0) (by decide)) (jl_nlit rfl) (jl_nlit rfl) (jl_nlit rfl) g5 jw_755 (Nat.le_of_ble_eq_true rfl) (Nat.le_of_ble_eq_true rfl) ?_
  refine jr_lm (fun s6 => ?_)
  refine jr_aload_n dX7_copyFrom_46 1 rfl ?_
  refine jr_getk (i := 4) jc_7 (jl_kd1 gp1) (jl_kdlt gp1 (by decide)) (Nat.le_of_ble_eq_true rfl) (js7_4 gp1) jw_253 dX7_copyFrom_47 ?_
  refine jr_iconst dX7_copyFrom_50 ?_
  refine jr_aload_n dX7_copyFrom_51 0 rfl ?_
  refine jr_getk (i := 4) jc_7 (jl_kd1 gp0) (jl_kdlt gp0 (by decide)) (Nat.le_of_ble_eq_true rfl) (js7_4 gp0) jw_253 dX7_copyFrom_52 ?_
  refine jr_iconst dX7_copyFrom_55 ?_
  refine jr_bipush dX7_copyFrom_56 (by decide) ?_
  refine jr_grd (fun g7 => ?_)
  refine jr_copy dX7_copyFrom_58 (js7k_4 gp1) (jl_kdl (js7k_4 gp1) (by decide)) (js7k_4 gp0) (jl_kdl (js7k_4 gp0) (by decide)) (jl_nlit rfl) (jl_nlit rfl) (jl_nlit rfl) g7 jw_755 (Nat.le_of_ble_eq_true rfl) (Nat.le_of_ble_eq_true rfl) ?_
  refine jr_lm (fun s8 => ?_)
  exact jr_ret_v rfl dX7_copyFrom_61
def jf_X1_restart (s0 : jl_Mm) : jl_O :=
  jl_bd (jf_X7_copyFrom 196 40 s0) fun r1 s2 => some (((196 : Nat) : Int), s2)
set_option maxRecDepth 20000 in
set_option maxHeartbeats 2000000 in
theorem jt_X1_restart (G : jl_GC) (s0 : jl_Mm) : jC2 G jM_X1_restart [jl_vr G 195] s0 (jf_X1_restart s0) := by
  refine jl_met (plainFor_of_name rfl) (Nat.le_of_ble_eq_true rfl) ?_
  show j2 G jM_X1_restart 0 [(0, jl_vr G 195)] [] s0 _
  refine jr_aload_n dX1_restart_0 0 rfl ?_
  refine jr_getk (i := 2) jc_1 jk_195 (by decide) (Nat.le_of_ble_eq_true rfl) jlk_195_2 jw_349 dX1_restart_1 ?_
  refine jr_aload_n dX1_restart_4 0 rfl ?_
  refine jr_getk (i := 1) jc_1 jk_195 (by decide) (Nat.le_of_ble_eq_true rfl) jlk_195_1 jw_348 dX1_restart_5 ?_
  refine j2_callVv (As := [jl_vr G 40]) dX1_restart_8 (jt_X7_copyFrom G 196 40 s0) jv_X7_copyFrom ⟨rfl, rfl, rfl⟩ jw_903 jk_196 (by decide) (by decide) rfl ⟨Nat.le_of_ble_eq_true rfl, Nat.le_of_ble_eq_true rfl⟩ rfl (Nat.le_of_ble_eq_true rfl) (fun r1 s2 hr1 => ?_)
  refine jr_aload_n dX1_restart_11 0 rfl ?_
  refine jr_getk (i := 2) jc_1 jk_195 (by decide) (Nat.le_of_ble_eq_true rfl) jlk_195_2 jw_349 dX1_restart_12 ?_
  exact jr_ret_a rfl dX1_restart_15
def jf_X7_kindle (q0 : Nat) (v1 : Int) (v2 : Int) (s0 : jl_Mm) : jl_O :=
  if (jl_kd q0).1 = 7 then jl_lm (jl_up s0 q0 1 (jl_sub (jl_g s0 q0 1) v2)) fun s1 => jl_bd (jf_X7_setCandle q0 v1 v2 s1) fun r2 s3 => some (0, s3) else none
set_option maxRecDepth 20000 in
set_option maxHeartbeats 2000000 in
theorem jt_X7_kindle (G : jl_GC) (q0 : Nat) (v1 : Int) (v2 : Int) (h1 : jl_n3 v1) (h2 : jl_n3 v2) (s0 : jl_Mm) : jC2 G jM_X7_kindle [jl_vr G q0, jl_vi v1, jl_vi v2] s0 (jf_X7_kindle q0 v1 v2 s0) := by
  refine jl_met (plainFor_of_name rfl) (Nat.le_of_ble_eq_true rfl) ?_
  show j2 G jM_X7_kindle 0 [(0, jl_vr G q0), (1, jl_vi v1), (2, jl_vi v2)] [] s0 _
  refine jr_grd (fun gp0 => ?_)
  refine jr_aload_n dX7_kindle_0 0 rfl ?_
  refine jr_dup dX7_kindle_1 rfl ?_
  refine jr_geti (i := 1) jc_7 (jl_kd1 gp0) (jl_kdlt gp0 (by decide)) (Nat.le_of_ble_eq_true rfl) (js7n_1 gp0) jft_7_1 jw_241 dX7_kindle_2 ?_
  refine jr_iload_n dX7_kindle_5 2 rfl ?_
  refine jr_isub dX7_kindle_6 ?_
  refine jr_puti (i := 1) jc_7 (jl_kd1 gp0) (jl_kdlt gp0 (by decide)) (Nat.le_of_ble_eq_true rfl) (js7n_1 gp0) jft_7_1 rfl jw_241 rfl dX7_kindle_7 ?_
  refine jr_lm (fun s1 => ?_)
  refine jr_aload_n dX7_kindle_10 0 rfl ?_
  refine jr_iload_n dX7_kindle_11 1 rfl ?_
  refine jr_iload_n dX7_kindle_12 2 rfl ?_
  refine j2_callVv (As := [jl_vi v1, jl_vi v2]) dX7_kindle_13 (jt_X7_setCandle G q0 v1 v2 h1 h2 s1) jv_X7_setCandle ⟨rfl, rfl, rfl⟩ jw_762 (jl_kd1 gp0) (by decide) (jl_kdlt gp0 (by decide)) rfl ⟨Nat.le_of_ble_eq_true rfl, Nat.le_of_ble_eq_true rfl⟩ rfl (Nat.le_of_ble_eq_true rfl) (fun r2 s3 hr2 => ?_)
  exact jr_ret_v rfl dX7_kindle_16
def jf_X5_lightPlanned_B75 (R2 : Nat → Int → jl_Mm → jl_O) (l1 : Nat) (l2 : Int) (s0 : jl_Mm) : jl_O :=
  R2 l1 (jl_add l2 1) s0
set_option maxRecDepth 20000 in
set_option maxHeartbeats 2000000 in
theorem jj_X5_lightPlanned_B75 (G : jl_GC) (R2 : Nat → Int → jl_Mm → jl_O) (hR2 : ∀ (l1 : Nat) (l2 : Int) (_hl1 : (jl_kd l1).1 = 7) (_hl2 : jl_n3 l2) (s0 : jl_Mm), j2 G jM_X5_lightPlanned 2 [(0, jl_vr G 190), (1, jl_vr G l1), (2, jl_vi l2)] [] s0 (R2 l1 l2 s0)) (l1 : Nat) (l2 : Int) (hl1 : (jl_kd l1).1 = 7) (hl2 : jl_n3 l2) (s0 : jl_Mm) : j2 G jM_X5_lightPlanned 75 [(0, jl_vr G 190), (1, jl_vr G l1), (2, jl_vi l2)] [] s0 (jf_X5_lightPlanned_B75 R2 l1 l2 s0) := by
  refine jr_iinc (j := 2) (lv := [(2, jl_vi (jl_add l2 1)), (0, jl_vr G 190), (1, jl_vr G l1)]) dX5_lightPlanned_75 rfl (Nat.le_of_ble_eq_true rfl) rfl ?_
  refine jr_goto (t := 2) dX5_lightPlanned_78 (by decide) ?_
  refine jr_sub [1, 2, 0] rfl ?_
  exact hR2 l1 (jl_add l2 1) hl1 (jl_n3_to _) s0
def jf_X5_lightPlanned_L2 : Nat → Nat → Int → jl_Mm → jl_O
  | 0, _, _, _ => none
  | n + 1, l1, l2, s0 =>
    if 0 ≤ s0 190 0 ∧ (jl_kd (jl_gr s0 190 0)).1 = 8 then if jl_g s0 (jl_gr s0 190 0) 4 ≤ l2 then (some (0, s0)) else (if 0 ≤ s0 190 0 ∧ (jl_kd (jl_gr s0 190 0)).1 = 8 then if 0 ≤ l2 ∧ l2 < ((16 : Nat) : Int) then jl_let (jl_g s0 ((jl_gr s0 190 0) + 7) (l2).toNat) fun x5 => if 0 ≤ s0 190 0 ∧ (jl_kd (jl_gr s0 190 0)).1 = 8 then if 0 ≤ l2 ∧ l2 < ((16 : Nat) : Int) then jl_let (jl_g s0 ((jl_gr s0 190 0) + 9) (l2).toNat) fun x8 => if 0 ≤ s0 190 0 ∧ (jl_kd (jl_gr s0 190 0)).1 = 8 then if 0 ≤ l2 ∧ l2 < ((16 : Nat) : Int) then if jl_g s0 ((jl_gr s0 190 0) + 8) (l2).toNat = jl_g s0 l1 0 then (if 0 ≤ x5 ∧ x5 < ((8 : Nat) : Int) then if jl_g s0 (l1 + 2) (x5).toNat = (0 : Int) then (if jl_g s0 l1 1 < x8 then (jf_X5_lightPlanned_B75 (jf_X5_lightPlanned_L2 n) l1 l2 s0) else (jl_bd (jf_X7_kindle l1 x5 x8 s0) fun r15 s16 => jf_X5_lightPlanned_B75 (jf_X5_lightPlanned_L2 n) l1 l2 s16)) else (jf_X5_lightPlanned_B75 (jf_X5_lightPlanned_L2 n) l1 l2 s0) else none) else (jf_X5_lightPlanned_B75 (jf_X5_lightPlanned_L2 n) l1 l2 s0) else none else none else none else none else none else none) else none
set_option maxRecDepth 20000 in
set_option maxHeartbeats 2000000 in
theorem jj_X5_lightPlanned_L2 (G : jl_GC) : ∀ (n : Nat) (l1 : Nat) (l2 : Int) (hl1 : (jl_kd l1).1 = 7) (hl2 : jl_n3 l2) (s0 : jl_Mm), j2 G jM_X5_lightPlanned 2 [(0, jl_vr G 190), (1, jl_vr G l1), (2, jl_vi l2)] [] s0 (jf_X5_lightPlanned_L2 n l1 l2 s0) := by
  intro n
  induction n with
  | zero =>
    intros
    exact jr_none
  | succ n ih =>
    intro l1 l2 hl1 hl2 s0
    refine jr_iload_n dX5_lightPlanned_2 2 rfl ?_
    refine jr_aload_n dX5_lightPlanned_3 0 rfl ?_
    refine jr_grd (fun g1 => ?_)
    refine jr_getr (i := 0) jc_5 jk_190 (by decide) (Nat.le_of_ble_eq_true rfl) jlk_190_0 jft_5_0 g1.1 jw_319 dX5_lightPlanned_4 ?_
    refine jr_getiN (i := 4) jc_8 (jl_kd1 g1.2) (jl_kdlt g1.2 (by decide)) (Nat.le_of_ble_eq_true rfl) (js8n_4 g1.2) jft_8_4 jw_108 dX5_lightPlanned_7 ?_
    refine jr_icmp_ge (t := 81) dX5_lightPlanned_10 (by decide) hl2 (jl_n3_to _) (fun c2 => ?_) (fun c2 => ?_)
    · exact jr_ret_v rfl dX5_lightPlanned_81
    · refine jr_aload_n dX5_lightPlanned_13 0 rfl ?_
      refine jr_grd (fun g3 => ?_)
      refine jr_getr (i := 0) jc_5 jk_190 (by decide) (Nat.le_of_ble_eq_true rfl) jlk_190_0 jft_5_0 g3.1 jw_319 dX5_lightPlanned_14 ?_
      refine jr_getkN (i := 13) jc_8 (jl_kd1 g3.2) (jl_kdlt g3.2 (by decide)) (Nat.le_of_ble_eq_true rfl) (js8_13 g3.2) jw_134 dX5_lightPlanned_17 ?_
      refine jr_iload_n dX5_lightPlanned_20 2 rfl ?_
      refine jr_grd (fun g4 => ?_)
      refine jr_iaload (js8k_13 g3.2) (jl_kdl (js8k_13 g3.2) (by decide)) hl2 g4 dX5_lightPlanned_21 ?_
      refine jr_let (jl_n3_to _) (fun x5 hx5 => ?_)
      refine jr_istore_n (lv := [(3, jl_vi x5), (0, jl_vr G 190), (1, jl_vr G l1), (2, jl_vi l2)]) dX5_lightPlanned_22 rfl (Nat.le_of_ble_eq_true rfl) rfl ?_
      refine jr_aload_n dX5_lightPlanned_23 1 rfl ?_
      refine jr_grd (fun g6 => ?_)
      refine jr_getr (i := 0) jc_5 jk_190 (by decide) (Nat.le_of_ble_eq_true rfl) jlk_190_0 jft_5_0 g6.1 jw_319 dX5_lightPlanned_24 ?_
      refine jr_getkN (i := 15) jc_8 (jl_kd1 g6.2) (jl_kdlt g6.2 (by decide)) (Nat.le_of_ble_eq_true rfl) (js8_15 g6.2) jw_140 dX5_lightPlanned_27 ?_
      refine jr_iload_n dX5_lightPlanned_30 3 rfl ?_
      refine jr_grd (fun g7 => ?_)
      refine jr_iaload (js8k_15 g6.2) (jl_kdl (js8k_15 g6.2) (by decide)) hl2 g7 dX5_lightPlanned_31 ?_
      refine jr_let (jl_n3_to _) (fun x8 hx8 => ?_)
      refine jr_istore (lv := [(4, jl_vi x8), (3, jl_vi x5), (0, jl_vr G 190), (1, jl_vr G l1), (2, jl_vi l2)]) dX5_lightPlanned_32 (Nat.le_of_ble_eq_true rfl) rfl ?_
      refine jr_aload_n dX5_lightPlanned_34 2 rfl ?_
      refine jr_grd (fun g9 => ?_)
      refine jr_getr (i := 0) jc_5 jk_190 (by decide) (Nat.le_of_ble_eq_true rfl) jlk_190_0 jft_5_0 g9.1 jw_319 dX5_lightPlanned_35 ?_
      refine jr_getkN (i := 14) jc_8 (jl_kd1 g9.2) (jl_kdlt g9.2 (by decide)) (Nat.le_of_ble_eq_true rfl) (js8_14 g9.2) jw_137 dX5_lightPlanned_38 ?_
      refine jr_iload_n dX5_lightPlanned_41 4 rfl ?_
      refine jr_grd (fun g10 => ?_)
      refine jr_iaload (js8k_14 g9.2) (jl_kdl (js8k_14 g9.2) (by decide)) hl2 g10 dX5_lightPlanned_42 ?_
      refine jr_aload_n dX5_lightPlanned_43 3 rfl ?_
      refine jr_getiN (i := 0) jc_7 (jl_kd1 hl1) (jl_kdlt hl1 (by decide)) (Nat.le_of_ble_eq_true rfl) (js7n_0 hl1) jft_7_0 jw_240 dX5_lightPlanned_44 ?_
      refine jr_icmp_ne (t := 75) dX5_lightPlanned_47 (by decide) (jl_n3_to _) (jl_n3_to _) (fun c11 => ?_) (fun c11 => ?_)
      · refine jr_aload_n dX5_lightPlanned_50 3 rfl ?_
        refine jr_getkN (i := 3) jc_7 (jl_kd1 hl1) (jl_kdlt hl1 (by decide)) (Nat.le_of_ble_eq_true rfl) (js7_3 hl1) jw_249 dX5_lightPlanned_51 ?_
        refine jr_iload_n dX5_lightPlanned_54 1 rfl ?_
        refine jr_grd (fun g12 => ?_)
        refine jr_iaload (js7k_3 hl1) (jl_kdl (js7k_3 hl1) (by decide)) hx5 g12 dX5_lightPlanned_55 ?_
        refine jr_if_ne (t := 75) dX5_lightPlanned_56 (by decide) (jl_n3_to _) (fun c13 => ?_) (fun c13 => ?_)
        · refine jr_iload dX5_lightPlanned_59 0 rfl ?_
          refine jr_aload_n dX5_lightPlanned_61 3 rfl ?_
          refine jr_getiN (i := 1) jc_7 (jl_kd1 hl1) (jl_kdlt hl1 (by decide)) (Nat.le_of_ble_eq_true rfl) (js7n_1 hl1) jft_7_1 jw_243 dX5_lightPlanned_62 ?_
          refine jr_icmp_gt (t := 75) dX5_lightPlanned_65 (by decide) hx8 (jl_n3_to _) (fun c14 => ?_) (fun c14 => ?_)
          · refine jr_sub [2, 3, 4] rfl ?_
            exact jj_X5_lightPlanned_B75 G (jf_X5_lightPlanned_L2 n) (ih) l1 l2 hl1 hl2 s0
          · refine jr_aload_n dX5_lightPlanned_68 3 rfl ?_
            refine jr_iload_n dX5_lightPlanned_69 1 rfl ?_
            refine jr_iload dX5_lightPlanned_70 0 rfl ?_
            refine j2_callVv (As := [jl_vi x5, jl_vi x8]) dX5_lightPlanned_72 (jt_X7_kindle G l1 x5 x8 hx5 hx8 s0) jv_X7_kindle ⟨rfl, rfl, rfl⟩ jw_915 (jl_kd1 hl1) (by decide) (jl_kdlt hl1 (by decide)) rfl ⟨Nat.le_of_ble_eq_true rfl, Nat.le_of_ble_eq_true rfl⟩ rfl (Nat.le_of_ble_eq_true rfl) (fun r15 s16 hr15 => ?_)
            refine jr_sub [2, 3, 4] rfl ?_
            exact jj_X5_lightPlanned_B75 G (jf_X5_lightPlanned_L2 n) (ih) l1 l2 hl1 hl2 s16
        · refine jr_sub [2, 3, 4] rfl ?_
          exact jj_X5_lightPlanned_B75 G (jf_X5_lightPlanned_L2 n) (ih) l1 l2 hl1 hl2 s0
      · refine jr_sub [2, 3, 4] rfl ?_
        exact jj_X5_lightPlanned_B75 G (jf_X5_lightPlanned_L2 n) (ih) l1 l2 hl1 hl2 s0
def jf_X5_lightPlanned (q1 : Nat) (s0 : jl_Mm) : jl_O :=
  if (jl_kd q1).1 = 7 then jf_X5_lightPlanned_L2 jl_fu q1 (0 : Int) s0 else none
set_option maxRecDepth 20000 in
set_option maxHeartbeats 2000000 in
theorem jt_X5_lightPlanned (G : jl_GC) (q1 : Nat) (s0 : jl_Mm) : jC2 G jM_X5_lightPlanned [jl_vr G 190, jl_vr G q1] s0 (jf_X5_lightPlanned q1 s0) := by
  refine jl_met (plainFor_of_name rfl) (Nat.le_of_ble_eq_true rfl) ?_
  show j2 G jM_X5_lightPlanned 0 [(0, jl_vr G 190), (1, jl_vr G q1)] [] s0 _
  refine jr_grd (fun gp1 => ?_)
  refine jr_iconst dX5_lightPlanned_0 ?_
  refine jr_istore_n (lv := [(2, jl_vi (0 : Int)), (0, jl_vr G 190), (1, jl_vr G q1)]) dX5_lightPlanned_1 rfl (Nat.le_of_ble_eq_true rfl) rfl ?_
  refine jr_sub [1, 2, 0] rfl ?_
  exact jj_X5_lightPlanned_L2 G jl_fu q1 (0 : Int) gp1 (jl_nlit rfl) s0
def jf_X7_burn (q0 : Nat) (v1 : Int) (v2 : Int) (s0 : jl_Mm) : jl_O :=
  if (jl_kd q0).1 = 7 then if 0 ≤ v1 ∧ v1 < ((8 : Nat) : Int) then if 0 ≤ v1 ∧ v1 < ((8 : Nat) : Int) then jl_bd (jf_J9_min_7cf53 (jl_g s0 (q0 + 2) (v1).toNat) v2 s0) fun r3 s4 => jl_bd (jf_J9_max_7cf53 (0 : Int) r3 s4) fun r5 s6 => if 0 ≤ v1 ∧ v1 < ((8 : Nat) : Int) then jl_lm (jl_up s6 (q0 + 2) (v1).toNat (jl_sub (jl_g s0 (q0 + 2) (v1).toNat) r5)) fun s8 => if 0 ≤ v1 ∧ v1 < ((8 : Nat) : Int) then jl_bd (jf_J9_min_7cf53 (99 : Int) (jl_add (jl_g s8 (q0 + 3) (v1).toNat) (1 : Int)) s8) fun r10 s11 => if 0 ≤ v1 ∧ v1 < ((8 : Nat) : Int) then jl_lm (jl_up s11 (q0 + 3) (v1).toNat r10) fun s13 => some (0, s13) else none else none else none else none else none else none
set_option maxRecDepth 20000 in
set_option maxHeartbeats 2000000 in
theorem jt_X7_burn (G : jl_GC) (q0 : Nat) (v1 : Int) (v2 : Int) (h1 : jl_n3 v1) (h2 : jl_n3 v2) (s0 : jl_Mm) : jC2 G jM_X7_burn [jl_vr G q0, jl_vi v1, jl_vi v2] s0 (jf_X7_burn q0 v1 v2 s0) := by
  refine jl_met (plainFor_of_name rfl) (Nat.le_of_ble_eq_true rfl) ?_
  show j2 G jM_X7_burn 0 [(0, jl_vr G q0), (1, jl_vi v1), (2, jl_vi v2)] [] s0 _
  refine jr_grd (fun gp0 => ?_)
  refine jr_aload_n dX7_burn_0 0 rfl ?_
  refine jr_getk (i := 3) jc_7 (jl_kd1 gp0) (jl_kdlt gp0 (by decide)) (Nat.le_of_ble_eq_true rfl) (js7_3 gp0) jw_248 dX7_burn_1 ?_
  refine jr_iload_n dX7_burn_4 1 rfl ?_
  refine jr_dup2_11 dX7_burn_5 rfl rfl ?_
  refine jr_grd (fun g1 => ?_)
  refine jr_iaload (js7k_3 gp0) (jl_kdl (js7k_3 gp0) (by decide)) h1 g1 dX7_burn_6 ?_
  refine jr_iconst dX7_burn_7 ?_
  refine jr_aload_n dX7_burn_8 0 rfl ?_
  refine jr_getk (i := 3) jc_7 (jl_kd1 gp0) (jl_kdlt gp0 (by decide)) (Nat.le_of_ble_eq_true rfl) (js7_3 gp0) jw_248 dX7_burn_9 ?_
  refine jr_iload_n dX7_burn_12 1 rfl ?_
  refine jr_grd (fun g2 => ?_)
  refine jr_iaload (js7k_3 gp0) (jl_kdl (js7k_3 gp0) (by decide)) h1 g2 dX7_burn_13 ?_
  refine jr_iload_n dX7_burn_14 2 rfl ?_
  refine j2_callSi (As := [jl_vi (jl_g s0 (q0 + 2) (v1).toNat), jl_vi v2]) dX7_burn_15 (jt_J9_min_7cf53 G (jl_g s0 (q0 + 2) (v1).toNat) v2 (jl_n3_to _) h2 s0) jv_J9_min_7cf53 ⟨rfl, rfl, rfl⟩ jw_923 ⟨Nat.le_of_ble_eq_true rfl, Nat.le_of_ble_eq_true rfl⟩ rfl (Nat.le_of_ble_eq_true rfl) (fun r3 s4 hr3 => ?_)
  refine j2_callSi (As := [jl_vi (0 : Int), jl_vi r3]) dX7_burn_18 (jt_J9_max_7cf53 G (0 : Int) r3 (jl_nlit rfl) hr3 s4) jv_J9_max_7cf53 ⟨rfl, rfl, rfl⟩ jw_924 ⟨Nat.le_of_ble_eq_true rfl, Nat.le_of_ble_eq_true rfl⟩ rfl (Nat.le_of_ble_eq_true rfl) (fun r5 s6 hr5 => ?_)
  refine jr_isub dX7_burn_21 ?_
  refine jr_grd (fun g7 => ?_)
  refine jr_iastore (js7k_3 gp0) (jl_kdl (js7k_3 gp0) (by decide)) h1 g7 dX7_burn_22 ?_
  refine jr_lm (fun s8 => ?_)
  refine jr_aload_n dX7_burn_23 0 rfl ?_
  refine jr_getk (i := 4) jc_7 (jl_kd1 gp0) (jl_kdlt gp0 (by decide)) (Nat.le_of_ble_eq_true rfl) (js7_4 gp0) jw_253 dX7_burn_24 ?_
  refine jr_iload_n dX7_burn_27 1 rfl ?_
  refine jr_bipush dX7_burn_28 (by decide) ?_
  refine jr_aload_n dX7_burn_30 0 rfl ?_
  refine jr_getk (i := 4) jc_7 (jl_kd1 gp0) (jl_kdlt gp0 (by decide)) (Nat.le_of_ble_eq_true rfl) (js7_4 gp0) jw_253 dX7_burn_31 ?_
  refine jr_iload_n dX7_burn_34 1 rfl ?_
  refine jr_grd (fun g9 => ?_)
  refine jr_iaload (js7k_4 gp0) (jl_kdl (js7k_4 gp0) (by decide)) h1 g9 dX7_burn_35 ?_
  refine jr_iconst dX7_burn_36 ?_
  refine jr_iadd dX7_burn_37 ?_
  refine j2_callSi (As := [jl_vi (99 : Int), jl_vi (jl_add (jl_g s8 (q0 + 3) (v1).toNat) (1 : Int))]) dX7_burn_38 (jt_J9_min_7cf53 G (99 : Int) (jl_add (jl_g s8 (q0 + 3) (v1).toNat) (1 : Int)) (jl_nlit rfl) (jl_n3_to _) s8) jv_J9_min_7cf53 ⟨rfl, rfl, rfl⟩ jw_923 ⟨Nat.le_of_ble_eq_true rfl, Nat.le_of_ble_eq_true rfl⟩ rfl (Nat.le_of_ble_eq_true rfl) (fun r10 s11 hr10 => ?_)
  refine jr_grd (fun g12 => ?_)
  refine jr_iastore (js7k_4 gp0) (jl_kdl (js7k_4 gp0) (by decide)) h1 g12 dX7_burn_41 ?_
  refine jr_lm (fun s13 => ?_)
  exact jr_ret_v rfl dX7_burn_42
def jf_X5_pass_B108 (R57 : Nat → Int → Int → jl_Mm → jl_O) (l1 : Nat) (l2 : Int) (l3 : Int) (s0 : jl_Mm) : jl_O :=
  R57 l1 l2 (jl_add l3 1) s0
set_option maxRecDepth 20000 in
set_option maxHeartbeats 2000000 in
theorem jj_X5_pass_B108 (G : jl_GC) (R57 : Nat → Int → Int → jl_Mm → jl_O) (hR57 : ∀ (l1 : Nat) (l2 : Int) (l3 : Int) (_hl1 : (jl_kd l1).1 = 7) (_hl2 : jl_n3 l2) (_hl3 : jl_n3 l3) (s0 : jl_Mm), j2 G jM_X5_pass 57 [(0, jl_vr G 190), (1, jl_vr G l1), (2, jl_vi l2), (3, jl_vi l3)] [] s0 (R57 l1 l2 l3 s0)) (l1 : Nat) (l2 : Int) (l3 : Int) (hl1 : (jl_kd l1).1 = 7) (hl2 : jl_n3 l2) (hl3 : jl_n3 l3) (s0 : jl_Mm) : j2 G jM_X5_pass 108 [(0, jl_vr G 190), (1, jl_vr G l1), (2, jl_vi l2), (3, jl_vi l3)] [] s0 (jf_X5_pass_B108 R57 l1 l2 l3 s0) := by
  refine jr_iinc (j := 3) (lv := [(3, jl_vi (jl_add l3 1)), (0, jl_vr G 190), (1, jl_vr G l1), (2, jl_vi l2)]) dX5_pass_108 rfl (Nat.le_of_ble_eq_true rfl) rfl ?_
  refine jr_goto (t := 57) dX5_pass_111 (by decide) ?_
  refine jr_sub [1, 2, 3, 0] rfl ?_
  exact hR57 l1 l2 (jl_add l3 1) hl1 hl2 (jl_n3_to _) s0
def jf_X5_pass_L57 : Nat → Nat → Int → Int → jl_Mm → jl_O
  | 0, _, _, _, _ => none
  | n + 1, l1, l2, l3, s0 =>
    if 0 ≤ s0 190 0 ∧ (jl_kd (jl_gr s0 190 0)).1 = 8 then if jl_g s0 (jl_gr s0 190 0) 3 ≤ l3 then (jl_bd (jf_J9_min_7cf53 (999 : Int) (jl_add (jl_g s0 l1 0) (1 : Int)) s0) fun r7 s8 => jl_lm (jl_up s8 l1 0 r7) fun s9 => some (l2, s9)) else (if 0 ≤ l3 ∧ l3 < ((8 : Nat) : Int) then if jl_g s0 (l1 + 2) (l3).toNat ≤ (0 : Int) then (jf_X5_pass_B108 (jf_X5_pass_L57 n) l1 l2 l3 s0) else (if 0 ≤ l3 ∧ l3 < ((8 : Nat) : Int) then jl_bd (jf_X7_burn l1 l3 (jl_g s0 193 (l3).toNat) s0) fun r13 s14 => if 0 ≤ l3 ∧ l3 < ((8 : Nat) : Int) then if jl_g s14 (l1 + 2) (l3).toNat = (0 : Int) then (jl_bd (jf_X7_putOut l1 l3 s14) fun r17 s18 => jl_let (jl_or l2 (jl_shl (1 : Int) l3)) fun x19 => jf_X5_pass_B108 (jf_X5_pass_L57 n) l1 x19 l3 s18) else (jf_X5_pass_B108 (jf_X5_pass_L57 n) l1 l2 l3 s14) else none else none) else none) else none
set_option maxRecDepth 20000 in
set_option maxHeartbeats 2000000 in
theorem jj_X5_pass_L57 (G : jl_GC) : ∀ (n : Nat) (l1 : Nat) (l2 : Int) (l3 : Int) (hl1 : (jl_kd l1).1 = 7) (hl2 : jl_n3 l2) (hl3 : jl_n3 l3) (s0 : jl_Mm), j2 G jM_X5_pass 57 [(0, jl_vr G 190), (1, jl_vr G l1), (2, jl_vi l2), (3, jl_vi l3)] [] s0 (jf_X5_pass_L57 n l1 l2 l3 s0) := by
  intro n
  induction n with
  | zero =>
    intros
    exact jr_none
  | succ n ih =>
    intro l1 l2 l3 hl1 hl2 hl3 s0
    refine jr_iload_n dX5_pass_57 3 rfl ?_
    refine jr_aload_n dX5_pass_58 0 rfl ?_
    refine jr_grd (fun g5 => ?_)
    refine jr_getr (i := 0) jc_5 jk_190 (by decide) (Nat.le_of_ble_eq_true rfl) jlk_190_0 jft_5_0 g5.1 jw_319 dX5_pass_59 ?_
    refine jr_getiN (i := 3) jc_8 (jl_kd1 g5.2) (jl_kdlt g5.2 (by decide)) (Nat.le_of_ble_eq_true rfl) (js8n_3 g5.2) jft_8_3 jw_101 dX5_pass_62 ?_
    refine jr_icmp_ge (t := 114) dX5_pass_65 (by decide) hl3 (jl_n3_to _) (fun c6 => ?_) (fun c6 => ?_)
    · refine jr_aload_n dX5_pass_114 1 rfl ?_
      refine jr_sipush dX5_pass_115 (by decide) ?_
      refine jr_aload_n dX5_pass_118 1 rfl ?_
      refine jr_getiN (i := 0) jc_7 (jl_kd1 hl1) (jl_kdlt hl1 (by decide)) (Nat.le_of_ble_eq_true rfl) (js7n_0 hl1) jft_7_0 jw_240 dX5_pass_119 ?_
      refine jr_iconst dX5_pass_122 ?_
      refine jr_iadd dX5_pass_123 ?_
      refine j2_callSi (As := [jl_vi (999 : Int), jl_vi (jl_add (jl_g s0 l1 0) (1 : Int))]) dX5_pass_124 (jt_J9_min_7cf53 G (999 : Int) (jl_add (jl_g s0 l1 0) (1 : Int)) (jl_nlit rfl) (jl_n3_to _) s0) jv_J9_min_7cf53 ⟨rfl, rfl, rfl⟩ jw_820 ⟨Nat.le_of_ble_eq_true rfl, Nat.le_of_ble_eq_true rfl⟩ rfl (Nat.le_of_ble_eq_true rfl) (fun r7 s8 hr7 => ?_)
      refine jr_putiN (i := 0) jc_7 (jl_kd1 hl1) (jl_kdlt hl1 (by decide)) (Nat.le_of_ble_eq_true rfl) (js7n_0 hl1) jft_7_0 rfl jw_240 rfl dX5_pass_127 ?_
      refine jr_lm (fun s9 => ?_)
      refine jr_iload_n dX5_pass_130 2 rfl ?_
      exact jr_ret_i rfl hl2 dX5_pass_131
    · refine jr_aload_n dX5_pass_68 1 rfl ?_
      refine jr_getkN (i := 3) jc_7 (jl_kd1 hl1) (jl_kdlt hl1 (by decide)) (Nat.le_of_ble_eq_true rfl) (js7_3 hl1) jw_249 dX5_pass_69 ?_
      refine jr_iload_n dX5_pass_72 3 rfl ?_
      refine jr_grd (fun g10 => ?_)
      refine jr_iaload (js7k_3 hl1) (jl_kdl (js7k_3 hl1) (by decide)) hl3 g10 dX5_pass_73 ?_
      refine jr_if_le (t := 108) dX5_pass_74 (by decide) (jl_n3_to _) (fun c11 => ?_) (fun c11 => ?_)
      · exact jj_X5_pass_B108 G (jf_X5_pass_L57 n) (ih) l1 l2 l3 hl1 hl2 hl3 s0
      · refine jr_aload_n dX5_pass_77 1 rfl ?_
        refine jr_iload_n dX5_pass_78 3 rfl ?_
        refine jr_aload_n dX5_pass_79 0 rfl ?_
        refine jr_getk (i := 3) jc_5 jk_190 (by decide) (Nat.le_of_ble_eq_true rfl) jlk_190_3 jw_325 dX5_pass_80 ?_
        refine jr_iload_n dX5_pass_83 3 rfl ?_
        refine jr_grd (fun g12 => ?_)
        refine jr_iaload jk_193 (by decide) hl3 g12 dX5_pass_84 ?_
        refine j2_callVv (As := [jl_vi l3, jl_vi (jl_g s0 193 (l3).toNat)]) dX5_pass_85 (jt_X7_burn G l1 l3 (jl_g s0 193 (l3).toNat) hl3 (jl_n3_to _) s0) jv_X7_burn ⟨rfl, rfl, rfl⟩ jw_919 (jl_kd1 hl1) (by decide) (jl_kdlt hl1 (by decide)) rfl ⟨Nat.le_of_ble_eq_true rfl, Nat.le_of_ble_eq_true rfl⟩ rfl (Nat.le_of_ble_eq_true rfl) (fun r13 s14 hr13 => ?_)
        refine jr_aload_n dX5_pass_88 1 rfl ?_
        refine jr_getkN (i := 3) jc_7 (jl_kd1 hl1) (jl_kdlt hl1 (by decide)) (Nat.le_of_ble_eq_true rfl) (js7_3 hl1) jw_249 dX5_pass_89 ?_
        refine jr_iload_n dX5_pass_92 3 rfl ?_
        refine jr_grd (fun g15 => ?_)
        refine jr_iaload (js7k_3 hl1) (jl_kdl (js7k_3 hl1) (by decide)) hl3 g15 dX5_pass_93 ?_
        refine jr_if_ne (t := 108) dX5_pass_94 (by decide) (jl_n3_to _) (fun c16 => ?_) (fun c16 => ?_)
        · refine jr_aload_n dX5_pass_97 1 rfl ?_
          refine jr_iload_n dX5_pass_98 3 rfl ?_
          refine j2_callVv (As := [jl_vi l3]) dX5_pass_99 (jt_X7_putOut G l1 l3 hl3 s14) jv_X7_putOut ⟨rfl, rfl, rfl⟩ jw_925 (jl_kd1 hl1) (by decide) (jl_kdlt hl1 (by decide)) rfl ⟨Nat.le_of_ble_eq_true rfl, Nat.le_of_ble_eq_true rfl⟩ rfl (Nat.le_of_ble_eq_true rfl) (fun r17 s18 hr17 => ?_)
          refine jr_iload_n dX5_pass_102 2 rfl ?_
          refine jr_iconst dX5_pass_103 ?_
          refine jr_iload_n dX5_pass_104 3 rfl ?_
          refine jr_ishl dX5_pass_105 ?_
          refine jr_ior dX5_pass_106 ?_
          refine jr_let (jl_n3_to _) (fun x19 hx19 => ?_)
          refine jr_istore_n (lv := [(2, jl_vi x19), (0, jl_vr G 190), (1, jl_vr G l1), (3, jl_vi l3)]) dX5_pass_107 rfl (Nat.le_of_ble_eq_true rfl) rfl ?_
          refine jr_sub [1, 2, 0, 3] rfl ?_
          exact jj_X5_pass_B108 G (jf_X5_pass_L57 n) (ih) l1 x19 l3 hl1 hx19 hl3 s18
        · exact jj_X5_pass_B108 G (jf_X5_pass_L57 n) (ih) l1 l2 l3 hl1 hl2 hl3 s14
def jf_X5_pass_B47 (R7 : Nat → Int → jl_Mm → jl_O) (l1 : Nat) (l2 : Int) (s0 : jl_Mm) : jl_O :=
  R7 l1 (jl_add l2 1) s0
set_option maxRecDepth 20000 in
set_option maxHeartbeats 2000000 in
theorem jj_X5_pass_B47 (G : jl_GC) (R7 : Nat → Int → jl_Mm → jl_O) (hR7 : ∀ (l1 : Nat) (l2 : Int) (_hl1 : (jl_kd l1).1 = 7) (_hl2 : jl_n3 l2) (s0 : jl_Mm), j2 G jM_X5_pass 7 [(0, jl_vr G 190), (1, jl_vr G l1), (2, jl_vi l2)] [] s0 (R7 l1 l2 s0)) (l1 : Nat) (l2 : Int) (hl1 : (jl_kd l1).1 = 7) (hl2 : jl_n3 l2) (s0 : jl_Mm) : j2 G jM_X5_pass 47 [(0, jl_vr G 190), (1, jl_vr G l1), (2, jl_vi l2)] [] s0 (jf_X5_pass_B47 R7 l1 l2 s0) := by
  refine jr_iinc (j := 2) (lv := [(2, jl_vi (jl_add l2 1)), (0, jl_vr G 190), (1, jl_vr G l1)]) dX5_pass_47 rfl (Nat.le_of_ble_eq_true rfl) rfl ?_
  refine jr_goto (t := 7) dX5_pass_50 (by decide) ?_
  refine jr_sub [1, 2, 0] rfl ?_
  exact hR7 l1 (jl_add l2 1) hl1 (jl_n3_to _) s0
def jf_X5_pass_L7 : Nat → Nat → Int → jl_Mm → jl_O
  | 0, _, _, _ => none
  | n + 1, l1, l2, s0 =>
    if 0 ≤ s0 190 0 ∧ (jl_kd (jl_gr s0 190 0)).1 = 8 then if jl_g s0 (jl_gr s0 190 0) 3 ≤ l2 then (jf_X5_pass_L57 jl_fu l1 (0 : Int) (0 : Int) s0) else (if 0 ≤ l2 ∧ l2 < ((8 : Nat) : Int) then if jl_g s0 (l1 + 2) (l2).toNat ≤ (0 : Int) then (jf_X5_pass_B47 (jf_X5_pass_L7 n) l1 l2 s0) else (if 0 ≤ s0 190 0 ∧ (jl_kd (jl_gr s0 190 0)).1 = 8 then jl_bd (jf_X5_reckon l1 l2 ((jl_gr s0 190 0) + 10) (1 : Int) s0) fun r23 s24 => if 0 ≤ l2 ∧ l2 < ((8 : Nat) : Int) then jl_lm (jl_up s24 193 (l2).toNat r23) fun s26 => jf_X5_pass_B47 (jf_X5_pass_L7 n) l1 l2 s26 else none else none) else none) else none
set_option maxRecDepth 20000 in
set_option maxHeartbeats 2000000 in
theorem jj_X5_pass_L7 (G : jl_GC) : ∀ (n : Nat) (l1 : Nat) (l2 : Int) (hl1 : (jl_kd l1).1 = 7) (hl2 : jl_n3 l2) (s0 : jl_Mm), j2 G jM_X5_pass 7 [(0, jl_vr G 190), (1, jl_vr G l1), (2, jl_vi l2)] [] s0 (jf_X5_pass_L7 n l1 l2 s0) := by
  intro n
  induction n with
  | zero =>
    intros
    exact jr_none
  | succ n ih =>
    intro l1 l2 hl1 hl2 s0
    refine jr_iload_n dX5_pass_7 2 rfl ?_
    refine jr_aload_n dX5_pass_8 0 rfl ?_
    refine jr_grd (fun g3 => ?_)
    refine jr_getr (i := 0) jc_5 jk_190 (by decide) (Nat.le_of_ble_eq_true rfl) jlk_190_0 jft_5_0 g3.1 jw_319 dX5_pass_9 ?_
    refine jr_getiN (i := 3) jc_8 (jl_kd1 g3.2) (jl_kdlt g3.2 (by decide)) (Nat.le_of_ble_eq_true rfl) (js8n_3 g3.2) jft_8_3 jw_101 dX5_pass_12 ?_
    refine jr_icmp_ge (t := 53) dX5_pass_15 (by decide) hl2 (jl_n3_to _) (fun c4 => ?_) (fun c4 => ?_)
    · refine jr_iconst dX5_pass_53 ?_
      refine jr_istore_n (lv := [(2, jl_vi (0 : Int)), (0, jl_vr G 190), (1, jl_vr G l1)]) dX5_pass_54 rfl (Nat.le_of_ble_eq_true rfl) rfl ?_
      refine jr_iconst dX5_pass_55 ?_
      refine jr_istore_n (lv := [(3, jl_vi (0 : Int)), (2, jl_vi (0 : Int)), (0, jl_vr G 190), (1, jl_vr G l1)]) dX5_pass_56 rfl (Nat.le_of_ble_eq_true rfl) rfl ?_
      refine jr_sub [2, 3, 1, 0] rfl ?_
      exact jj_X5_pass_L57 G jl_fu l1 (0 : Int) (0 : Int) hl1 (jl_nlit rfl) (jl_nlit rfl) s0
    · refine jr_aload_n dX5_pass_18 1 rfl ?_
      refine jr_getkN (i := 3) jc_7 (jl_kd1 hl1) (jl_kdlt hl1 (by decide)) (Nat.le_of_ble_eq_true rfl) (js7_3 hl1) jw_249 dX5_pass_19 ?_
      refine jr_iload_n dX5_pass_22 2 rfl ?_
      refine jr_grd (fun g20 => ?_)
      refine jr_iaload (js7k_3 hl1) (jl_kdl (js7k_3 hl1) (by decide)) hl2 g20 dX5_pass_23 ?_
      refine jr_if_le (t := 47) dX5_pass_24 (by decide) (jl_n3_to _) (fun c21 => ?_) (fun c21 => ?_)
      · exact jj_X5_pass_B47 G (jf_X5_pass_L7 n) (ih) l1 l2 hl1 hl2 s0
      · refine jr_aload_n dX5_pass_27 0 rfl ?_
        refine jr_getk (i := 3) jc_5 jk_190 (by decide) (Nat.le_of_ble_eq_true rfl) jlk_190_3 jw_325 dX5_pass_28 ?_
        refine jr_iload_n dX5_pass_31 2 rfl ?_
        refine jr_aload_n dX5_pass_32 0 rfl ?_
        refine jr_aload_n dX5_pass_33 1 rfl ?_
        refine jr_iload_n dX5_pass_34 2 rfl ?_
        refine jr_aload_n dX5_pass_35 0 rfl ?_
        refine jr_grd (fun g22 => ?_)
        refine jr_getr (i := 0) jc_5 jk_190 (by decide) (Nat.le_of_ble_eq_true rfl) jlk_190_0 jft_5_0 g22.1 jw_319 dX5_pass_36 ?_
        refine jr_getkN (i := 16) jc_8 (jl_kd1 g22.2) (jl_kdlt g22.2 (by decide)) (Nat.le_of_ble_eq_true rfl) (js8_16 g22.2) jw_143 dX5_pass_39 ?_
        refine jr_iconst dX5_pass_42 ?_
        refine j2_callVi (As := [jl_vr G l1, jl_vi l2, jl_vr G ((jl_gr s0 190 0) + 10), jl_vi (1 : Int)]) dX5_pass_43 (jt_X5_reckon G l1 l2 ((jl_gr s0 190 0) + 10) (1 : Int) hl2 (jl_nlit rfl) s0) jv_X5_reckon ⟨rfl, rfl, rfl⟩ jw_793 jk_190 (by decide) (by decide) rfl ⟨Nat.le_of_ble_eq_true rfl, Nat.le_of_ble_eq_true rfl⟩ rfl (Nat.le_of_ble_eq_true rfl) (fun r23 s24 hr23 => ?_)
        refine jr_grd (fun g25 => ?_)
        refine jr_iastore jk_193 (by decide) hl2 g25 dX5_pass_46 ?_
        refine jr_lm (fun s26 => ?_)
        exact jj_X5_pass_B47 G (jf_X5_pass_L7 n) (ih) l1 l2 hl1 hl2 s26
def jf_X5_pass (q1 : Nat) (s0 : jl_Mm) : jl_O :=
  if (jl_kd q1).1 = 7 then jl_bd (jf_X5_lightPlanned q1 s0) fun r1 s2 => jf_X5_pass_L7 jl_fu q1 (0 : Int) s2 else none
set_option maxRecDepth 20000 in
set_option maxHeartbeats 2000000 in
theorem jt_X5_pass (G : jl_GC) (q1 : Nat) (s0 : jl_Mm) : jC2 G jM_X5_pass [jl_vr G 190, jl_vr G q1] s0 (jf_X5_pass q1 s0) := by
  refine jl_met (plainFor_of_name rfl) (Nat.le_of_ble_eq_true rfl) ?_
  show j2 G jM_X5_pass 0 [(0, jl_vr G 190), (1, jl_vr G q1)] [] s0 _
  refine jr_grd (fun gp1 => ?_)
  refine jr_aload_n dX5_pass_0 0 rfl ?_
  refine jr_aload_n dX5_pass_1 1 rfl ?_
  refine j2_callVv (As := [jl_vr G q1]) dX5_pass_2 (jt_X5_lightPlanned G q1 s0) jv_X5_lightPlanned ⟨rfl, rfl, rfl⟩ jw_911 jk_190 (by decide) (by decide) rfl ⟨Nat.le_of_ble_eq_true rfl, Nat.le_of_ble_eq_true rfl⟩ rfl (Nat.le_of_ble_eq_true rfl) (fun r1 s2 hr1 => ?_)
  refine jr_iconst dX5_pass_5 ?_
  refine jr_istore_n (lv := [(2, jl_vi (0 : Int)), (0, jl_vr G 190), (1, jl_vr G q1)]) dX5_pass_6 rfl (Nat.le_of_ble_eq_true rfl) rfl ?_
  refine jr_sub [1, 2, 0] rfl ?_
  exact jj_X5_pass_L7 G jl_fu q1 (0 : Int) gp1 (jl_nlit rfl) s2
def jf_X11_later_B22 (s0 : jl_Mm) : jl_O :=
  some ((-1 : Int), s0)
set_option maxRecDepth 20000 in
set_option maxHeartbeats 2000000 in
theorem jj_X11_later_B22 (G : jl_GC) (s0 : jl_Mm) : j2 G jM_X11_later 22 [] [] s0 (jf_X11_later_B22 s0) := by
  refine jr_iconst dX11_later_22 ?_
  exact jr_ret_i rfl (jl_nlit rfl) dX11_later_23
def jf_X11_later_L35 : Nat → Int → Int → Nat → Int → jl_Mm → jl_O
  | 0, _, _, _, _, _ => none
  | n + 1, l1, l2, l3, l4, s0 =>
    if l2 ≤ l4 then (if 0 ≤ l1 ∧ l1 < ((8 : Nat) : Int) then some (jl_g s0 (l3 + 2) (l1).toNat, s0) else none) else (jl_bd (jf_X5_pass l3 s0) fun r12 s13 => jf_X11_later_L35 n l1 l2 l3 (jl_add l4 1) s13)
set_option maxRecDepth 20000 in
set_option maxHeartbeats 2000000 in
theorem jj_X11_later_L35 (G : jl_GC) : ∀ (n : Nat) (l1 : Int) (l2 : Int) (l3 : Nat) (l4 : Int) (hl1 : jl_n3 l1) (hl2 : jl_n3 l2) (hl3 : (jl_kd l3).1 = 7) (hl4 : jl_n3 l4) (s0 : jl_Mm), j2 G jM_X11_later 35 [(0, jl_vr G 0), (1, jl_vi l1), (2, jl_vi l2), (3, jl_vr G l3), (4, jl_vi l4)] [] s0 (jf_X11_later_L35 n l1 l2 l3 l4 s0) := by
  intro n
  induction n with
  | zero =>
    intros
    exact jr_none
  | succ n ih =>
    intro l1 l2 l3 l4 hl1 hl2 hl3 hl4 s0
    refine jr_iload dX11_later_35 4 rfl ?_
    refine jr_iload_n dX11_later_37 2 rfl ?_
    refine jr_icmp_ge (t := 56) dX11_later_38 (by decide) hl4 hl2 (fun c10 => ?_) (fun c10 => ?_)
    · refine jr_aload_n dX11_later_56 3 rfl ?_
      refine jr_getkN (i := 3) jc_7 (jl_kd1 hl3) (jl_kdlt hl3 (by decide)) (Nat.le_of_ble_eq_true rfl) (js7_3 hl3) jw_252 dX11_later_57 ?_
      refine jr_iload_n dX11_later_60 1 rfl ?_
      refine jr_grd (fun g11 => ?_)
      refine jr_iaload (js7k_3 hl3) (jl_kdl (js7k_3 hl3) (by decide)) hl1 g11 dX11_later_61 ?_
      exact jr_ret_i rfl (jl_n3_to _) dX11_later_62
    · refine jr_aload_n dX11_later_41 0 rfl ?_
      refine jr_getk (i := 9) jc_11 jk_0 (by decide) (Nat.le_of_ble_eq_true rfl) jlk_0_9 jw_433 dX11_later_42 ?_
      refine jr_aload_n dX11_later_45 3 rfl ?_
      refine j2_callVi (As := [jl_vr G l3]) dX11_later_46 (jt_X5_pass G l3 s0) jv_X5_pass ⟨rfl, rfl, rfl⟩ jw_907 jk_190 (by decide) (by decide) rfl ⟨Nat.le_of_ble_eq_true rfl, Nat.le_of_ble_eq_true rfl⟩ rfl (Nat.le_of_ble_eq_true rfl) (fun r12 s13 hr12 => ?_)
      refine jr_pop dX11_later_49 rfl ?_
      refine jr_iinc (j := 4) (lv := [(4, jl_vi (jl_add l4 1)), (0, jl_vr G 0), (1, jl_vi l1), (2, jl_vi l2), (3, jl_vr G l3)]) dX11_later_50 rfl (Nat.le_of_ble_eq_true rfl) rfl ?_
      refine jr_goto (t := 35) dX11_later_53 (by decide) ?_
      refine jr_sub [1, 2, 3, 4, 0] rfl ?_
      exact ih l1 l2 l3 (jl_add l4 1) hl1 hl2 hl3 (jl_n3_to _) s13
def jf_X11_later (v1 : Int) (v2 : Int) (s0 : jl_Mm) : jl_O :=
  jl_bd (jf_X11_isLie v1 s0) fun r1 s2 => if r1 = (0 : Int) then (jf_X11_later_B22 s2) else (jl_bd (jf_X1_comes v2 (0 : Int) (60 : Int) s2) fun r4 s5 => if r4 = (0 : Int) then (jf_X11_later_B22 s5) else (jl_bd (jf_X1_restart s5) fun r7 s8 => if (jl_kd (r7).toNat).1 = 7 then jf_X11_later_L35 jl_fu v1 v2 r7.toNat (0 : Int) s8 else none))
set_option maxRecDepth 20000 in
set_option maxHeartbeats 2000000 in
theorem jt_X11_later (G : jl_GC) (v1 : Int) (v2 : Int) (h1 : jl_n3 v1) (h2 : jl_n3 v2) (s0 : jl_Mm) : jC2 G jM_X11_later [jl_vr G 0, jl_vi v1, jl_vi v2] s0 (jf_X11_later v1 v2 s0) := by
  refine jl_met (plainFor_of_name rfl) (Nat.le_of_ble_eq_true rfl) ?_
  show j2 G jM_X11_later 0 [(0, jl_vr G 0), (1, jl_vi v1), (2, jl_vi v2)] [] s0 _
  refine jr_aload_n dX11_later_0 0 rfl ?_
  refine jr_iload_n dX11_later_1 1 rfl ?_
  refine j2_callVz (As := [jl_vi v1]) dX11_later_2 (jt_X11_isLie G v1 h1 s0) jv_X11_isLie ⟨rfl, rfl, rfl⟩ jw_837 jk_0 (by decide) (by decide) rfl ⟨Nat.le_of_ble_eq_true rfl, Nat.le_of_ble_eq_true rfl⟩ rfl (Nat.le_of_ble_eq_true rfl) (fun r1 s2 hr1 => ?_)
  refine jr_if_eq (t := 22) dX11_later_5 (by decide) (jl_nz hr1) (fun c3 => ?_) (fun c3 => ?_)
  · refine jr_sub [] rfl ?_
    exact jj_X11_later_B22 G s2
  · refine jr_aload_n dX11_later_8 0 rfl ?_
    refine jr_getk (i := 10) jc_11 jk_0 (by decide) (Nat.le_of_ble_eq_true rfl) jlk_0_10 jw_434 dX11_later_9 ?_
    refine jr_iload_n dX11_later_12 2 rfl ?_
    refine jr_iconst dX11_later_13 ?_
    refine jr_bipush dX11_later_14 (by decide) ?_
    refine j2_callVz (As := [jl_vi v2, jl_vi (0 : Int), jl_vi (60 : Int)]) dX11_later_16 (jt_X1_comes G v2 (0 : Int) (60 : Int) h2 (jl_nlit rfl) (jl_nlit rfl) s2) jv_X1_comes ⟨rfl, rfl, rfl⟩ jw_866 jk_195 (by decide) (by decide) rfl ⟨Nat.le_of_ble_eq_true rfl, Nat.le_of_ble_eq_true rfl⟩ rfl (Nat.le_of_ble_eq_true rfl) (fun r4 s5 hr4 => ?_)
    refine jr_if_ne (t := 24) dX11_later_19 (by decide) (jl_nz hr4) (fun c6 => ?_) (fun c6 => ?_)
    · refine jr_sub [] rfl ?_
      exact jj_X11_later_B22 G s5
    · refine jr_aload_n dX11_later_24 0 rfl ?_
      refine jr_getk (i := 10) jc_11 jk_0 (by decide) (Nat.le_of_ble_eq_true rfl) jlk_0_10 jw_434 dX11_later_25 ?_
      refine j2_callVa (As := []) dX11_later_28 (jt_X1_restart G s5) jv_X1_restart ⟨rfl, rfl, rfl⟩ jw_899 jk_195 (by decide) (by decide) rfl ⟨Nat.le_of_ble_eq_true rfl, Nat.le_of_ble_eq_true rfl⟩ rfl (Nat.le_of_ble_eq_true rfl) (fun r7 s8 hr7 => ?_)
      refine jr_grd (fun g9 => ?_)
      refine jr_astore_n (lv := [(3, jl_vr G r7.toNat), (0, jl_vr G 0), (1, jl_vi v1), (2, jl_vi v2)]) dX11_later_31 rfl (Nat.le_of_ble_eq_true rfl) rfl ?_
      refine jr_iconst dX11_later_32 ?_
      refine jr_istore (lv := [(4, jl_vi (0 : Int)), (3, jl_vr G r7.toNat), (0, jl_vr G 0), (1, jl_vi v1), (2, jl_vi v2)]) dX11_later_33 (Nat.le_of_ble_eq_true rfl) rfl ?_
      refine jr_sub [2, 3, 4, 1, 0] rfl ?_
      exact jj_X11_later_L35 G jl_fu v1 v2 r7.toNat (0 : Int) h1 h2 g9 (jl_nlit rfl) s8
def jf_X1_believedBehind_L2 : Nat → Int → Int → jl_Mm → jl_O
  | 0, _, _, _ => none
  | n + 1, l1, l2, s0 =>
    if l1 ≤ l2 then (jl_bd (jf_X5_believed 196 s0) fun r2 s3 => some (r2, s3)) else (jl_bd (jf_X5_pass 196 s0) fun r4 s5 => jf_X1_believedBehind_L2 n l1 (jl_add l2 1) s5)
set_option maxRecDepth 20000 in
set_option maxHeartbeats 2000000 in
theorem jj_X1_believedBehind_L2 (G : jl_GC) : ∀ (n : Nat) (l1 : Int) (l2 : Int) (hl1 : jl_n3 l1) (hl2 : jl_n3 l2) (s0 : jl_Mm), j2 G jM_X1_believedBehind 2 [(0, jl_vr G 195), (1, jl_vi l1), (2, jl_vi l2)] [] s0 (jf_X1_believedBehind_L2 n l1 l2 s0) := by
  intro n
  induction n with
  | zero =>
    intros
    exact jr_none
  | succ n ih =>
    intro l1 l2 hl1 hl2 s0
    refine jr_iload_n dX1_believedBehind_2 2 rfl ?_
    refine jr_iload_n dX1_believedBehind_3 1 rfl ?_
    refine jr_icmp_ge (t := 25) dX1_believedBehind_4 (by decide) hl2 hl1 (fun c1 => ?_) (fun c1 => ?_)
    · refine jr_aload_n dX1_believedBehind_25 0 rfl ?_
      refine jr_getk (i := 0) jc_1 jk_195 (by decide) (Nat.le_of_ble_eq_true rfl) jlk_195_0 jw_346 dX1_believedBehind_26 ?_
      refine jr_aload_n dX1_believedBehind_29 0 rfl ?_
      refine jr_getk (i := 2) jc_1 jk_195 (by decide) (Nat.le_of_ble_eq_true rfl) jlk_195_2 jw_349 dX1_believedBehind_30 ?_
      refine j2_callVi (As := [jl_vr G 196]) dX1_believedBehind_33 (jt_X5_believed G 196 s0) jv_X5_believed ⟨rfl, rfl, rfl⟩ jw_935 jk_190 (by decide) (by decide) rfl ⟨Nat.le_of_ble_eq_true rfl, Nat.le_of_ble_eq_true rfl⟩ rfl (Nat.le_of_ble_eq_true rfl) (fun r2 s3 hr2 => ?_)
      exact jr_ret_i rfl hr2 dX1_believedBehind_36
    · refine jr_aload_n dX1_believedBehind_7 0 rfl ?_
      refine jr_getk (i := 0) jc_1 jk_195 (by decide) (Nat.le_of_ble_eq_true rfl) jlk_195_0 jw_346 dX1_believedBehind_8 ?_
      refine jr_aload_n dX1_believedBehind_11 0 rfl ?_
      refine jr_getk (i := 2) jc_1 jk_195 (by decide) (Nat.le_of_ble_eq_true rfl) jlk_195_2 jw_349 dX1_believedBehind_12 ?_
      refine j2_callVi (As := [jl_vr G 196]) dX1_believedBehind_15 (jt_X5_pass G 196 s0) jv_X5_pass ⟨rfl, rfl, rfl⟩ jw_934 jk_190 (by decide) (by decide) rfl ⟨Nat.le_of_ble_eq_true rfl, Nat.le_of_ble_eq_true rfl⟩ rfl (Nat.le_of_ble_eq_true rfl) (fun r4 s5 hr4 => ?_)
      refine jr_pop dX1_believedBehind_18 rfl ?_
      refine jr_iinc (j := 2) (lv := [(2, jl_vi (jl_add l2 1)), (0, jl_vr G 195), (1, jl_vi l1)]) dX1_believedBehind_19 rfl (Nat.le_of_ble_eq_true rfl) rfl ?_
      refine jr_goto (t := 2) dX1_believedBehind_22 (by decide) ?_
      refine jr_sub [1, 2, 0] rfl ?_
      exact ih l1 (jl_add l2 1) hl1 (jl_n3_to _) s5
def jf_X1_believedBehind (v1 : Int) (s0 : jl_Mm) : jl_O :=
  jf_X1_believedBehind_L2 jl_fu v1 (0 : Int) s0
set_option maxRecDepth 20000 in
set_option maxHeartbeats 2000000 in
theorem jt_X1_believedBehind (G : jl_GC) (v1 : Int) (h1 : jl_n3 v1) (s0 : jl_Mm) : jC2 G jM_X1_believedBehind [jl_vr G 195, jl_vi v1] s0 (jf_X1_believedBehind v1 s0) := by
  refine jl_met (plainFor_of_name rfl) (Nat.le_of_ble_eq_true rfl) ?_
  show j2 G jM_X1_believedBehind 0 [(0, jl_vr G 195), (1, jl_vi v1)] [] s0 _
  refine jr_iconst dX1_believedBehind_0 ?_
  refine jr_istore_n (lv := [(2, jl_vi (0 : Int)), (0, jl_vr G 195), (1, jl_vi v1)]) dX1_believedBehind_1 rfl (Nat.le_of_ble_eq_true rfl) rfl ?_
  refine jr_sub [1, 2, 0] rfl ?_
  exact jj_X1_believedBehind_L2 G jl_fu v1 (0 : Int) h1 (jl_nlit rfl) s0
def jf_X11_held_B22 (s0 : jl_Mm) : jl_O :=
  some ((-1 : Int), s0)
set_option maxRecDepth 20000 in
set_option maxHeartbeats 2000000 in
theorem jj_X11_held_B22 (G : jl_GC) (s0 : jl_Mm) : j2 G jM_X11_held 22 [] [] s0 (jf_X11_held_B22 s0) := by
  refine jr_iconst dX11_held_22 ?_
  exact jr_ret_i rfl (jl_nlit rfl) dX11_held_23
def jf_X11_held (v1 : Int) (v2 : Int) (s0 : jl_Mm) : jl_O :=
  jl_bd (jf_X11_isLie v1 s0) fun r1 s2 => if r1 = (0 : Int) then (jf_X11_held_B22 s2) else (jl_bd (jf_X1_comes v2 (0 : Int) (60 : Int) s2) fun r4 s5 => if r4 = (0 : Int) then (jf_X11_held_B22 s5) else (jl_bd (jf_X1_restart s5) fun r7 s8 => if (jl_kd (r7).toNat).1 = 7 then jl_bd (jf_X1_believedBehind v2 s8) fun r10 s11 => some (jl_and (jl_shr r10 v1) (1 : Int), s11) else none))
set_option maxRecDepth 20000 in
set_option maxHeartbeats 2000000 in
theorem jt_X11_held (G : jl_GC) (v1 : Int) (v2 : Int) (h1 : jl_n3 v1) (h2 : jl_n3 v2) (s0 : jl_Mm) : jC2 G jM_X11_held [jl_vr G 0, jl_vi v1, jl_vi v2] s0 (jf_X11_held v1 v2 s0) := by
  refine jl_met (plainFor_of_name rfl) (Nat.le_of_ble_eq_true rfl) ?_
  show j2 G jM_X11_held 0 [(0, jl_vr G 0), (1, jl_vi v1), (2, jl_vi v2)] [] s0 _
  refine jr_aload_n dX11_held_0 0 rfl ?_
  refine jr_iload_n dX11_held_1 1 rfl ?_
  refine j2_callVz (As := [jl_vi v1]) dX11_held_2 (jt_X11_isLie G v1 h1 s0) jv_X11_isLie ⟨rfl, rfl, rfl⟩ jw_837 jk_0 (by decide) (by decide) rfl ⟨Nat.le_of_ble_eq_true rfl, Nat.le_of_ble_eq_true rfl⟩ rfl (Nat.le_of_ble_eq_true rfl) (fun r1 s2 hr1 => ?_)
  refine jr_if_eq (t := 22) dX11_held_5 (by decide) (jl_nz hr1) (fun c3 => ?_) (fun c3 => ?_)
  · refine jr_sub [] rfl ?_
    exact jj_X11_held_B22 G s2
  · refine jr_aload_n dX11_held_8 0 rfl ?_
    refine jr_getk (i := 10) jc_11 jk_0 (by decide) (Nat.le_of_ble_eq_true rfl) jlk_0_10 jw_434 dX11_held_9 ?_
    refine jr_iload_n dX11_held_12 2 rfl ?_
    refine jr_iconst dX11_held_13 ?_
    refine jr_bipush dX11_held_14 (by decide) ?_
    refine j2_callVz (As := [jl_vi v2, jl_vi (0 : Int), jl_vi (60 : Int)]) dX11_held_16 (jt_X1_comes G v2 (0 : Int) (60 : Int) h2 (jl_nlit rfl) (jl_nlit rfl) s2) jv_X1_comes ⟨rfl, rfl, rfl⟩ jw_866 jk_195 (by decide) (by decide) rfl ⟨Nat.le_of_ble_eq_true rfl, Nat.le_of_ble_eq_true rfl⟩ rfl (Nat.le_of_ble_eq_true rfl) (fun r4 s5 hr4 => ?_)
    refine jr_if_ne (t := 24) dX11_held_19 (by decide) (jl_nz hr4) (fun c6 => ?_) (fun c6 => ?_)
    · refine jr_sub [] rfl ?_
      exact jj_X11_held_B22 G s5
    · refine jr_aload_n dX11_held_24 0 rfl ?_
      refine jr_getk (i := 10) jc_11 jk_0 (by decide) (Nat.le_of_ble_eq_true rfl) jlk_0_10 jw_434 dX11_held_25 ?_
      refine j2_callVa (As := []) dX11_held_28 (jt_X1_restart G s5) jv_X1_restart ⟨rfl, rfl, rfl⟩ jw_899 jk_195 (by decide) (by decide) rfl ⟨Nat.le_of_ble_eq_true rfl, Nat.le_of_ble_eq_true rfl⟩ rfl (Nat.le_of_ble_eq_true rfl) (fun r7 s8 hr7 => ?_)
      refine jr_grd (fun g9 => ?_)
      refine jr_pop dX11_held_31 rfl ?_
      refine jr_aload_n dX11_held_32 0 rfl ?_
      refine jr_getk (i := 10) jc_11 jk_0 (by decide) (Nat.le_of_ble_eq_true rfl) jlk_0_10 jw_434 dX11_held_33 ?_
      refine jr_iload_n dX11_held_36 2 rfl ?_
      refine j2_callVi (As := [jl_vi v2]) dX11_held_37 (jt_X1_believedBehind G v2 h2 s8) jv_X1_believedBehind ⟨rfl, rfl, rfl⟩ jw_930 jk_195 (by decide) (by decide) rfl ⟨Nat.le_of_ble_eq_true rfl, Nat.le_of_ble_eq_true rfl⟩ rfl (Nat.le_of_ble_eq_true rfl) (fun r10 s11 hr10 => ?_)
      refine jr_iload_n dX11_held_40 1 rfl ?_
      refine jr_ishr dX11_held_41 ?_
      refine jr_iconst dX11_held_42 ?_
      refine jr_iand dX11_held_43 ?_
      exact jr_ret_i rfl (jl_n3_to _) dX11_held_44
