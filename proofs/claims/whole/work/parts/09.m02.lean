def jf_X4_wordPart_B125 (rc : Nat → Int → jl_Mm → jl_O) (s0 : jl_Mm) : jl_O :=
  some (0, s0)
set_option maxRecDepth 20000 in
set_option maxHeartbeats 2000000 in
theorem jj_X4_wordPart_B125 (G : jl_GC) (d : Nat) (rc : Nat → Int → jl_Mm → jl_O) (hrc : jl_grp G d rc) (s0 : jl_Mm) : j2 G (jM_X4_wordPart (d + 1)) 125 [] [] s0 (jf_X4_wordPart_B125 rc s0) := by
  exact jr_ret_v rfl dX4_wordPart_125
def jf_X4_wordPart_B12 (rc : Nat → Int → jl_Mm → jl_O) (l1 : Int) (s0 : jl_Mm) : jl_O :=
  jl_lm (jl_up s0 38 4 (jl_g s0 38 5)) fun s2 => jl_bd (rc 7 l1 s2) fun r3 s4 => jf_X4_wordPart_B125 rc s4
set_option maxRecDepth 20000 in
set_option maxHeartbeats 2000000 in
theorem jj_X4_wordPart_B12 (G : jl_GC) (d : Nat) (rc : Nat → Int → jl_Mm → jl_O) (hrc : jl_grp G d rc) (l1 : Int) (hl1 : jl_n3 l1) (s0 : jl_Mm) : j2 G (jM_X4_wordPart (d + 1)) 12 [(0, jl_vr G 38), (1, jl_vi l1)] [] s0 (jf_X4_wordPart_B12 rc l1 s0) := by
  refine jr_aload_n dX4_wordPart_12 0 rfl ?_
  refine jr_aload_n dX4_wordPart_13 0 rfl ?_
  refine jr_geti (i := 5) jc_4 jk_38 (by decide) (Nat.le_of_ble_eq_true rfl) jlk_38_5 jft_4_5 jw_191 dX4_wordPart_14 ?_
  refine jr_puti (i := 4) jc_4 jk_38 (by decide) (Nat.le_of_ble_eq_true rfl) jlk_38_4 jft_4_4 rfl jw_189 rfl dX4_wordPart_17 ?_
  refine jr_lm (fun s2 => ?_)
  refine jr_aload_n dX4_wordPart_20 0 rfl ?_
  refine jr_iload_n dX4_wordPart_21 1 rfl ?_
  refine j2_callVv (As := [jl_vi l1]) dX4_wordPart_22 (hrc.2.2.2.2.2.2.2 l1 hl1 s2) (jv_X4_pairPart d) ⟨rfl, rfl, rfl⟩ jw_711 jk_38 (by decide) (by decide) rfl ⟨by simp only [jM_X4_wordPart, jM_X4_pairPart]; omega, by simp only [jM_X4_wordPart, jM_X4_pairPart]; omega⟩ rfl (Nat.le_of_ble_eq_true rfl) (fun r3 s4 hr3 => ?_)
  refine jr_goto (t := 125) dX4_wordPart_25 (by decide) ?_
  refine jr_sub [] rfl ?_
  exact jj_X4_wordPart_B125 G d rc hrc s4
def jf_X4_wordPart_B49 (rc : Nat → Int → jl_Mm → jl_O) (s0 : jl_Mm) : jl_O :=
  jl_bd (jf_X4_fail (1 : Int) (jl_g s0 38 4) s0) fun r7 s8 => jf_X4_wordPart_B125 rc s8
set_option maxRecDepth 20000 in
set_option maxHeartbeats 2000000 in
theorem jj_X4_wordPart_B49 (G : jl_GC) (d : Nat) (rc : Nat → Int → jl_Mm → jl_O) (hrc : jl_grp G d rc) (s0 : jl_Mm) : j2 G (jM_X4_wordPart (d + 1)) 49 [(0, jl_vr G 38)] [] s0 (jf_X4_wordPart_B49 rc s0) := by
  refine jr_aload_n dX4_wordPart_49 0 rfl ?_
  refine jr_iconst dX4_wordPart_50 ?_
  refine jr_aload_n dX4_wordPart_51 0 rfl ?_
  refine jr_geti (i := 4) jc_4 jk_38 (by decide) (Nat.le_of_ble_eq_true rfl) jlk_38_4 jft_4_4 jw_189 dX4_wordPart_52 ?_
  refine j2_callVv (As := [jl_vi (1 : Int), jl_vi (jl_g s0 38 4)]) dX4_wordPart_55 (jt_X4_fail G (1 : Int) (jl_g s0 38 4) (jl_nlit rfl) (jl_n3_to _) s0) jv_X4_fail ⟨rfl, rfl, rfl⟩ jw_618 jk_38 (by decide) (by decide) rfl ⟨by simp only [jM_X4_wordPart, jM_X4_fail]; omega, by simp only [jM_X4_wordPart, jM_X4_fail]; omega⟩ rfl (Nat.le_of_ble_eq_true rfl) (fun r7 s8 hr7 => ?_)
  refine jr_goto (t := 125) dX4_wordPart_58 (by decide) ?_
  refine jr_sub [] rfl ?_
  exact jj_X4_wordPart_B125 G d rc hrc s8
def jf_X4_wordPart_B73 (rc : Nat → Int → jl_Mm → jl_O) (l1 : Int) (s0 : jl_Mm) : jl_O :=
  jl_bd (jf_X4_open (jl_g s0 38 5) s0) fun r12 s13 => if r12 = (0 : Int) then (jf_X4_wordPart_B125 rc s13) else (jl_bd (rc 5 0 s13) fun r15 s16 => if 0 ≤ s16 38 1 ∧ (jl_kd (jl_gr s16 38 1)).1 = 0 then jl_bd (jf_X0_putWord (jl_gr s16 38 1) l1 s16) fun r18 s19 => jl_lm (jl_up s19 38 3 (jl_sub (jl_g s19 38 3) (1 : Int))) fun s20 => jf_X4_wordPart_B125 rc s20 else none)
set_option maxRecDepth 20000 in
set_option maxHeartbeats 2000000 in
theorem jj_X4_wordPart_B73 (G : jl_GC) (d : Nat) (rc : Nat → Int → jl_Mm → jl_O) (hrc : jl_grp G d rc) (l1 : Int) (hl1 : jl_n3 l1) (s0 : jl_Mm) : j2 G (jM_X4_wordPart (d + 1)) 73 [(0, jl_vr G 38), (1, jl_vi l1)] [] s0 (jf_X4_wordPart_B73 rc l1 s0) := by
  refine jr_aload_n dX4_wordPart_73 0 rfl ?_
  refine jr_aload_n dX4_wordPart_74 0 rfl ?_
  refine jr_geti (i := 5) jc_4 jk_38 (by decide) (Nat.le_of_ble_eq_true rfl) jlk_38_5 jft_4_5 jw_191 dX4_wordPart_75 ?_
  refine j2_callVz (As := [jl_vi (jl_g s0 38 5)]) dX4_wordPart_78 (jt_X4_open G (jl_g s0 38 5) (jl_n3_to _) s0) jv_X4_open ⟨rfl, rfl, rfl⟩ jw_698 jk_38 (by decide) (by decide) rfl ⟨by simp only [jM_X4_wordPart, jM_X4_open]; omega, by simp only [jM_X4_wordPart, jM_X4_open]; omega⟩ rfl (Nat.le_of_ble_eq_true rfl) (fun r12 s13 hr12 => ?_)
  refine jr_if_eq (t := 125) dX4_wordPart_81 (by decide) (jl_nz hr12) (fun c14 => ?_) (fun c14 => ?_)
  · refine jr_sub [] rfl ?_
    exact jj_X4_wordPart_B125 G d rc hrc s13
  · refine jr_aload_n dX4_wordPart_84 0 rfl ?_
    refine j2_callVv (As := []) dX4_wordPart_85 (hrc.2.2.2.2.2.1 s13) (jv_X4_part d) ⟨rfl, rfl, rfl⟩ jw_689 jk_38 (by decide) (by decide) rfl ⟨by simp only [jM_X4_wordPart, jM_X4_part]; omega, by simp only [jM_X4_wordPart, jM_X4_part]; omega⟩ rfl (Nat.le_of_ble_eq_true rfl) (fun r15 s16 hr15 => ?_)
    refine jr_aload_n dX4_wordPart_88 0 rfl ?_
    refine jr_grd (fun g17 => ?_)
    refine jr_getr (i := 1) jc_4 jk_38 (by decide) (Nat.le_of_ble_eq_true rfl) jlk_38_1 jft_4_1 g17.1 jw_186 dX4_wordPart_89 ?_
    refine jr_iload_n dX4_wordPart_92 1 rfl ?_
    refine j2_callVv (As := [jl_vi l1]) dX4_wordPart_93 (jt_X0_putWord G (jl_gr s16 38 1) l1 hl1 s16) jv_X0_putWord ⟨rfl, rfl, rfl⟩ jw_715 (jl_kd1 g17.2) (by decide) (jl_kdlt g17.2 (by decide)) rfl ⟨by simp only [jM_X4_wordPart, jM_X0_putWord]; omega, by simp only [jM_X4_wordPart, jM_X0_putWord]; omega⟩ rfl (Nat.le_of_ble_eq_true rfl) (fun r18 s19 hr18 => ?_)
    refine jr_aload_n dX4_wordPart_96 0 rfl ?_
    refine jr_dup dX4_wordPart_97 rfl ?_
    refine jr_geti (i := 3) jc_4 jk_38 (by decide) (Nat.le_of_ble_eq_true rfl) jlk_38_3 jft_4_3 jw_188 dX4_wordPart_98 ?_
    refine jr_iconst dX4_wordPart_101 ?_
    refine jr_isub dX4_wordPart_102 ?_
    refine jr_puti (i := 3) jc_4 jk_38 (by decide) (Nat.le_of_ble_eq_true rfl) jlk_38_3 jft_4_3 rfl jw_188 rfl dX4_wordPart_103 ?_
    refine jr_lm (fun s20 => ?_)
    refine jr_goto (t := 125) dX4_wordPart_106 (by decide) ?_
    refine jr_sub [] rfl ?_
    exact jj_X4_wordPart_B125 G d rc hrc s20
def jf_X4_wordPart (rc : Nat → Int → jl_Mm → jl_O) (v1 : Int) (s0 : jl_Mm) : jl_O :=
  if v1 = (30 : Int) then (jf_X4_wordPart_B12 rc v1 s0) else (if v1 = (31 : Int) then (jf_X4_wordPart_B12 rc v1 s0) else (if v1 < (0 : Int) then (jf_X4_wordPart_B49 rc s0) else (if (31 : Int) < v1 then (jf_X4_wordPart_B49 rc s0) else (if jl_and (jl_shr (jl_g s0 38 2) v1) (1 : Int) = (0 : Int) then (jf_X4_wordPart_B49 rc s0) else (if v1 = (24 : Int) then (jf_X4_wordPart_B73 rc v1 s0) else (if v1 = (25 : Int) then (jf_X4_wordPart_B73 rc v1 s0) else (jl_lm (jl_up s0 38 4 (jl_g s0 38 5)) fun s22 => if 0 ≤ s22 38 1 ∧ (jl_kd (jl_gr s22 38 1)).1 = 0 then jl_bd (jf_X0_putWord (jl_gr s22 38 1) v1 s22) fun r24 s25 => jf_X4_wordPart_B125 rc s25 else none)))))))
set_option maxRecDepth 20000 in
set_option maxHeartbeats 2000000 in
theorem jt_X4_wordPart (G : jl_GC) (d : Nat) (rc : Nat → Int → jl_Mm → jl_O) (hrc : jl_grp G d rc) (v1 : Int) (h1 : jl_n3 v1) (s0 : jl_Mm) : jC2 G (jM_X4_wordPart (d + 1)) [jl_vr G 38, jl_vi v1] s0 (jf_X4_wordPart rc v1 s0) := by
  refine jl_met (plainFor_of_name rfl) (Nat.le_of_ble_eq_true rfl) ?_
  show j2 G (jM_X4_wordPart (d + 1)) 0 [(0, jl_vr G 38), (1, jl_vi v1)] [] s0 _
  refine jr_iload_n dX4_wordPart_0 1 rfl ?_
  refine jr_bipush dX4_wordPart_1 (by decide) ?_
  refine jr_icmp_eq (t := 12) dX4_wordPart_3 (by decide) h1 (jl_nlit rfl) (fun c1 => ?_) (fun c1 => ?_)
  · exact jj_X4_wordPart_B12 G d rc hrc v1 h1 s0
  · refine jr_iload_n dX4_wordPart_6 1 rfl ?_
    refine jr_bipush dX4_wordPart_7 (by decide) ?_
    refine jr_icmp_ne (t := 28) dX4_wordPart_9 (by decide) h1 (jl_nlit rfl) (fun c5 => ?_) (fun c5 => ?_)
    · exact jj_X4_wordPart_B12 G d rc hrc v1 h1 s0
    · refine jr_iload_n dX4_wordPart_28 1 rfl ?_
      refine jr_if_lt (t := 49) dX4_wordPart_29 (by decide) h1 (fun c6 => ?_) (fun c6 => ?_)
      · refine jr_sub [0] rfl ?_
        exact jj_X4_wordPart_B49 G d rc hrc s0
      · refine jr_iload_n dX4_wordPart_32 1 rfl ?_
        refine jr_bipush dX4_wordPart_33 (by decide) ?_
        refine jr_icmp_gt (t := 49) dX4_wordPart_35 (by decide) h1 (jl_nlit rfl) (fun c9 => ?_) (fun c9 => ?_)
        · refine jr_sub [0] rfl ?_
          exact jj_X4_wordPart_B49 G d rc hrc s0
        · refine jr_aload_n dX4_wordPart_38 0 rfl ?_
          refine jr_geti (i := 2) jc_4 jk_38 (by decide) (Nat.le_of_ble_eq_true rfl) jlk_38_2 jft_4_2 jw_187 dX4_wordPart_39 ?_
          refine jr_iload_n dX4_wordPart_42 1 rfl ?_
          refine jr_ishr dX4_wordPart_43 ?_
          refine jr_iconst dX4_wordPart_44 ?_
          refine jr_iand dX4_wordPart_45 ?_
          refine jr_if_ne (t := 61) dX4_wordPart_46 (by decide) (jl_n3_to _) (fun c10 => ?_) (fun c10 => ?_)
          · refine jr_sub [0] rfl ?_
            exact jj_X4_wordPart_B49 G d rc hrc s0
          · refine jr_iload_n dX4_wordPart_61 1 rfl ?_
            refine jr_bipush dX4_wordPart_62 (by decide) ?_
            refine jr_icmp_eq (t := 73) dX4_wordPart_64 (by decide) h1 (jl_nlit rfl) (fun c11 => ?_) (fun c11 => ?_)
            · exact jj_X4_wordPart_B73 G d rc hrc v1 h1 s0
            · refine jr_iload_n dX4_wordPart_67 1 rfl ?_
              refine jr_bipush dX4_wordPart_68 (by decide) ?_
              refine jr_icmp_ne (t := 109) dX4_wordPart_70 (by decide) h1 (jl_nlit rfl) (fun c21 => ?_) (fun c21 => ?_)
              · exact jj_X4_wordPart_B73 G d rc hrc v1 h1 s0
              · refine jr_aload_n dX4_wordPart_109 0 rfl ?_
                refine jr_aload_n dX4_wordPart_110 0 rfl ?_
                refine jr_geti (i := 5) jc_4 jk_38 (by decide) (Nat.le_of_ble_eq_true rfl) jlk_38_5 jft_4_5 jw_191 dX4_wordPart_111 ?_
                refine jr_puti (i := 4) jc_4 jk_38 (by decide) (Nat.le_of_ble_eq_true rfl) jlk_38_4 jft_4_4 rfl jw_189 rfl dX4_wordPart_114 ?_
                refine jr_lm (fun s22 => ?_)
                refine jr_aload_n dX4_wordPart_117 0 rfl ?_
                refine jr_grd (fun g23 => ?_)
                refine jr_getr (i := 1) jc_4 jk_38 (by decide) (Nat.le_of_ble_eq_true rfl) jlk_38_1 jft_4_1 g23.1 jw_186 dX4_wordPart_118 ?_
                refine jr_iload_n dX4_wordPart_121 1 rfl ?_
                refine j2_callVv (As := [jl_vi v1]) dX4_wordPart_122 (jt_X0_putWord G (jl_gr s22 38 1) v1 h1 s22) jv_X0_putWord ⟨rfl, rfl, rfl⟩ jw_715 (jl_kd1 g23.2) (by decide) (jl_kdlt g23.2 (by decide)) rfl ⟨by simp only [jM_X4_wordPart, jM_X0_putWord]; omega, by simp only [jM_X4_wordPart, jM_X0_putWord]; omega⟩ rfl (Nat.le_of_ble_eq_true rfl) (fun r24 s25 hr24 => ?_)
                refine jr_sub [] rfl ?_
                exact jj_X4_wordPart_B125 G d rc hrc s25
def jf_X4_pairPart_B72 (rc : Nat → Int → jl_Mm → jl_O) (s0 : jl_Mm) : jl_O :=
  some (0, s0)
set_option maxRecDepth 20000 in
set_option maxHeartbeats 2000000 in
theorem jj_X4_pairPart_B72 (G : jl_GC) (d : Nat) (rc : Nat → Int → jl_Mm → jl_O) (hrc : jl_grp G d rc) (s0 : jl_Mm) : j2 G (jM_X4_pairPart (d + 1)) 72 [] [] s0 (jf_X4_pairPart_B72 rc s0) := by
  exact jr_ret_v rfl dX4_pairPart_72
def jf_X4_pairPart (rc : Nat → Int → jl_Mm → jl_O) (v1 : Int) (s0 : jl_Mm) : jl_O :=
  jl_bd (jf_X4_peek s0) fun r1 s2 => if r1 = (40 : Int) then (jl_bd (jf_X4_open (jl_add (jl_g s2 38 4) (1 : Int)) s2) fun r4 s5 => if r4 = (0 : Int) then (jf_X4_pairPart_B72 rc s5) else (jl_bd (rc 3 0 s5) fun r7 s8 => jl_bd (jf_X4_expectSign (44 : Int) s8) fun r9 s10 => jl_bd (rc 3 0 s10) fun r11 s12 => jl_bd (jf_X4_expectSign (41 : Int) s12) fun r13 s14 => if 0 ≤ s14 38 1 ∧ (jl_kd (jl_gr s14 38 1)).1 = 0 then jl_bd (jf_X0_putWord (jl_gr s14 38 1) v1 s14) fun r16 s17 => jl_lm (jl_up s17 38 3 (jl_sub (jl_g s17 38 3) (1 : Int))) fun s18 => jf_X4_pairPart_B72 rc s18 else none)) else (jl_bd (jf_X4_fail (1 : Int) (jl_g s2 38 4) s2) fun r19 s20 => jf_X4_pairPart_B72 rc s20)
set_option maxRecDepth 20000 in
set_option maxHeartbeats 2000000 in
theorem jt_X4_pairPart (G : jl_GC) (d : Nat) (rc : Nat → Int → jl_Mm → jl_O) (hrc : jl_grp G d rc) (v1 : Int) (h1 : jl_n3 v1) (s0 : jl_Mm) : jC2 G (jM_X4_pairPart (d + 1)) [jl_vr G 38, jl_vi v1] s0 (jf_X4_pairPart rc v1 s0) := by
  refine jl_met (plainFor_of_name rfl) (Nat.le_of_ble_eq_true rfl) ?_
  show j2 G (jM_X4_pairPart (d + 1)) 0 [(0, jl_vr G 38), (1, jl_vi v1)] [] s0 _
  refine jr_aload_n dX4_pairPart_0 0 rfl ?_
  refine j2_callVi (As := []) dX4_pairPart_1 (jt_X4_peek G s0) jv_X4_peek ⟨rfl, rfl, rfl⟩ jw_531 jk_38 (by decide) (by decide) rfl ⟨by simp only [jM_X4_pairPart, jM_X4_peek]; omega, by simp only [jM_X4_pairPart, jM_X4_peek]; omega⟩ rfl (Nat.le_of_ble_eq_true rfl) (fun r1 s2 hr1 => ?_)
  refine jr_bipush dX4_pairPart_4 (by decide) ?_
  refine jr_icmp_eq (t := 21) dX4_pairPart_6 (by decide) hr1 (jl_nlit rfl) (fun c3 => ?_) (fun c3 => ?_)
  · refine jr_aload_n dX4_pairPart_21 0 rfl ?_
    refine jr_aload_n dX4_pairPart_22 0 rfl ?_
    refine jr_geti (i := 4) jc_4 jk_38 (by decide) (Nat.le_of_ble_eq_true rfl) jlk_38_4 jft_4_4 jw_189 dX4_pairPart_23 ?_
    refine jr_iconst dX4_pairPart_26 ?_
    refine jr_iadd dX4_pairPart_27 ?_
    refine j2_callVz (As := [jl_vi (jl_add (jl_g s2 38 4) (1 : Int))]) dX4_pairPart_28 (jt_X4_open G (jl_add (jl_g s2 38 4) (1 : Int)) (jl_n3_to _) s2) jv_X4_open ⟨rfl, rfl, rfl⟩ jw_698 jk_38 (by decide) (by decide) rfl ⟨by simp only [jM_X4_pairPart, jM_X4_open]; omega, by simp only [jM_X4_pairPart, jM_X4_open]; omega⟩ rfl (Nat.le_of_ble_eq_true rfl) (fun r4 s5 hr4 => ?_)
    refine jr_if_eq (t := 72) dX4_pairPart_31 (by decide) (jl_nz hr4) (fun c6 => ?_) (fun c6 => ?_)
    · refine jr_sub [] rfl ?_
      exact jj_X4_pairPart_B72 G d rc hrc s5
    · refine jr_aload_n dX4_pairPart_34 0 rfl ?_
      refine j2_callVv (As := []) dX4_pairPart_35 (hrc.2.2.2.1 s5) (jv_X4_sum d) ⟨rfl, rfl, rfl⟩ jw_702 jk_38 (by decide) (by decide) rfl ⟨by simp only [jM_X4_pairPart, jM_X4_sum]; omega, by simp only [jM_X4_pairPart, jM_X4_sum]; omega⟩ rfl (Nat.le_of_ble_eq_true rfl) (fun r7 s8 hr7 => ?_)
      refine jr_aload_n dX4_pairPart_38 0 rfl ?_
      refine jr_bipush dX4_pairPart_39 (by decide) ?_
      refine j2_callVv (As := [jl_vi (44 : Int)]) dX4_pairPart_41 (jt_X4_expectSign G (44 : Int) (jl_nlit rfl) s8) jv_X4_expectSign ⟨rfl, rfl, rfl⟩ jw_703 jk_38 (by decide) (by decide) rfl ⟨by simp only [jM_X4_pairPart, jM_X4_expectSign]; omega, by simp only [jM_X4_pairPart, jM_X4_expectSign]; omega⟩ rfl (Nat.le_of_ble_eq_true rfl) (fun r9 s10 hr9 => ?_)
      refine jr_aload_n dX4_pairPart_44 0 rfl ?_
      refine j2_callVv (As := []) dX4_pairPart_45 (hrc.2.2.2.1 s10) (jv_X4_sum d) ⟨rfl, rfl, rfl⟩ jw_702 jk_38 (by decide) (by decide) rfl ⟨by simp only [jM_X4_pairPart, jM_X4_sum]; omega, by simp only [jM_X4_pairPart, jM_X4_sum]; omega⟩ rfl (Nat.le_of_ble_eq_true rfl) (fun r11 s12 hr11 => ?_)
      refine jr_aload_n dX4_pairPart_48 0 rfl ?_
      refine jr_bipush dX4_pairPart_49 (by decide) ?_
      refine j2_callVv (As := [jl_vi (41 : Int)]) dX4_pairPart_51 (jt_X4_expectSign G (41 : Int) (jl_nlit rfl) s12) jv_X4_expectSign ⟨rfl, rfl, rfl⟩ jw_703 jk_38 (by decide) (by decide) rfl ⟨by simp only [jM_X4_pairPart, jM_X4_expectSign]; omega, by simp only [jM_X4_pairPart, jM_X4_expectSign]; omega⟩ rfl (Nat.le_of_ble_eq_true rfl) (fun r13 s14 hr13 => ?_)
      refine jr_aload_n dX4_pairPart_54 0 rfl ?_
      refine jr_grd (fun g15 => ?_)
      refine jr_getr (i := 1) jc_4 jk_38 (by decide) (Nat.le_of_ble_eq_true rfl) jlk_38_1 jft_4_1 g15.1 jw_186 dX4_pairPart_55 ?_
      refine jr_iload_n dX4_pairPart_58 1 rfl ?_
      refine j2_callVv (As := [jl_vi v1]) dX4_pairPart_59 (jt_X0_putWord G (jl_gr s14 38 1) v1 h1 s14) jv_X0_putWord ⟨rfl, rfl, rfl⟩ jw_715 (jl_kd1 g15.2) (by decide) (jl_kdlt g15.2 (by decide)) rfl ⟨by simp only [jM_X4_pairPart, jM_X0_putWord]; omega, by simp only [jM_X4_pairPart, jM_X0_putWord]; omega⟩ rfl (Nat.le_of_ble_eq_true rfl) (fun r16 s17 hr16 => ?_)
      refine jr_aload_n dX4_pairPart_62 0 rfl ?_
      refine jr_dup dX4_pairPart_63 rfl ?_
      refine jr_geti (i := 3) jc_4 jk_38 (by decide) (Nat.le_of_ble_eq_true rfl) jlk_38_3 jft_4_3 jw_188 dX4_pairPart_64 ?_
      refine jr_iconst dX4_pairPart_67 ?_
      refine jr_isub dX4_pairPart_68 ?_
      refine jr_puti (i := 3) jc_4 jk_38 (by decide) (Nat.le_of_ble_eq_true rfl) jlk_38_3 jft_4_3 rfl jw_188 rfl dX4_pairPart_69 ?_
      refine jr_lm (fun s18 => ?_)
      refine jr_sub [] rfl ?_
      exact jj_X4_pairPart_B72 G d rc hrc s18
  · refine jr_aload_n dX4_pairPart_9 0 rfl ?_
    refine jr_iconst dX4_pairPart_10 ?_
    refine jr_aload_n dX4_pairPart_11 0 rfl ?_
    refine jr_geti (i := 4) jc_4 jk_38 (by decide) (Nat.le_of_ble_eq_true rfl) jlk_38_4 jft_4_4 jw_189 dX4_pairPart_12 ?_
    refine j2_callVv (As := [jl_vi (1 : Int), jl_vi (jl_g s2 38 4)]) dX4_pairPart_15 (jt_X4_fail G (1 : Int) (jl_g s2 38 4) (jl_nlit rfl) (jl_n3_to _) s2) jv_X4_fail ⟨rfl, rfl, rfl⟩ jw_618 jk_38 (by decide) (by decide) rfl ⟨by simp only [jM_X4_pairPart, jM_X4_fail]; omega, by simp only [jM_X4_pairPart, jM_X4_fail]; omega⟩ rfl (Nat.le_of_ble_eq_true rfl) (fun r19 s20 hr19 => ?_)
    refine jr_goto (t := 72) dX4_pairPart_18 (by decide) ?_
    refine jr_sub [] rfl ?_
    exact jj_X4_pairPart_B72 G d rc hrc s20
def jf_X4_grp : Nat → Nat → Int → jl_Mm → jl_O
  | 0, _, _, _ => none
  | d + 1, t, a, s => if t = 0 then jf_X4_test (jf_X4_grp d) s else if t = 1 then jf_X4_both (jf_X4_grp d) s else if t = 2 then jf_X4_fact (jf_X4_grp d) s else if t = 3 then jf_X4_sum (jf_X4_grp d) s else if t = 4 then jf_X4_product (jf_X4_grp d) s else if t = 5 then jf_X4_part (jf_X4_grp d) s else if t = 6 then jf_X4_wordPart (jf_X4_grp d) a s else if t = 7 then jf_X4_pairPart (jf_X4_grp d) a s else none
theorem jl_ct_none {lk : jl_LK} {G : jl_GC} {M : jl_MC} {av : List Value} {nx nf : Nat} {σ : jl_Mm} : jl_Ct lk G M av nx nf σ none := fun _ _ h => by cases h
theorem jt_X4_grp (G : jl_GC) : ∀ d : Nat, jl_grp G d (jf_X4_grp d) := by
  intro d
  induction d with
  | zero => exact ⟨fun _ => jl_ct_none, fun _ => jl_ct_none, fun _ => jl_ct_none, fun _ => jl_ct_none, fun _ => jl_ct_none, fun _ => jl_ct_none, fun _ _ _ => jl_ct_none, fun _ _ _ => jl_ct_none⟩
  | succ d ih => exact ⟨fun s => jt_X4_test G d _ ih s, fun s => jt_X4_both G d _ ih s, fun s => jt_X4_fact G d _ ih s, fun s => jt_X4_sum G d _ ih s, fun s => jt_X4_product G d _ ih s, fun s => jt_X4_part G d _ ih s, fun a ha s => jt_X4_wordPart G d _ ih a ha s, fun a ha s => jt_X4_pairPart G d _ ih a ha s⟩
def jf_X4_expectWord_B28 (s0 : jl_Mm) : jl_O :=
  some (0, s0)
set_option maxRecDepth 20000 in
set_option maxHeartbeats 2000000 in
theorem jj_X4_expectWord_B28 (G : jl_GC) (s0 : jl_Mm) : j2 G jM_X4_expectWord 28 [] [] s0 (jf_X4_expectWord_B28 s0) := by
  exact jr_ret_v rfl dX4_expectWord_28
def jf_X4_expectWord (v1 : Int) (s0 : jl_Mm) : jl_O :=
  jl_bd (jf_X4_peekWord s0) fun r1 s2 => if r1 = v1 then (jl_lm (jl_up s2 38 4 (jl_g s2 38 5)) fun s6 => jf_X4_expectWord_B28 s6) else (jl_bd (jf_X4_fail (1 : Int) (jl_g s2 38 4) s2) fun r4 s5 => jf_X4_expectWord_B28 s5)
set_option maxRecDepth 20000 in
set_option maxHeartbeats 2000000 in
theorem jt_X4_expectWord (G : jl_GC) (v1 : Int) (h1 : jl_n3 v1) (s0 : jl_Mm) : jC2 G jM_X4_expectWord [jl_vr G 38, jl_vi v1] s0 (jf_X4_expectWord v1 s0) := by
  refine jl_met (plainFor_of_name rfl) (Nat.le_of_ble_eq_true rfl) ?_
  show j2 G jM_X4_expectWord 0 [(0, jl_vr G 38), (1, jl_vi v1)] [] s0 _
  refine jr_aload_n dX4_expectWord_0 0 rfl ?_
  refine j2_callVi (As := []) dX4_expectWord_1 (jt_X4_peekWord G s0) jv_X4_peekWord ⟨rfl, rfl, rfl⟩ jw_627 jk_38 (by decide) (by decide) rfl ⟨Nat.le_of_ble_eq_true rfl, Nat.le_of_ble_eq_true rfl⟩ rfl (Nat.le_of_ble_eq_true rfl) (fun r1 s2 hr1 => ?_)
  refine jr_iload_n dX4_expectWord_4 1 rfl ?_
  refine jr_icmp_ne (t := 19) dX4_expectWord_5 (by decide) hr1 h1 (fun c3 => ?_) (fun c3 => ?_)
  · refine jr_aload_n dX4_expectWord_8 0 rfl ?_
    refine jr_aload_n dX4_expectWord_9 0 rfl ?_
    refine jr_geti (i := 5) jc_4 jk_38 (by decide) (Nat.le_of_ble_eq_true rfl) jlk_38_5 jft_4_5 jw_191 dX4_expectWord_10 ?_
    refine jr_puti (i := 4) jc_4 jk_38 (by decide) (Nat.le_of_ble_eq_true rfl) jlk_38_4 jft_4_4 rfl jw_189 rfl dX4_expectWord_13 ?_
    refine jr_lm (fun s6 => ?_)
    refine jr_goto (t := 28) dX4_expectWord_16 (by decide) ?_
    refine jr_sub [] rfl ?_
    exact jj_X4_expectWord_B28 G s6
  · refine jr_aload_n dX4_expectWord_19 0 rfl ?_
    refine jr_iconst dX4_expectWord_20 ?_
    refine jr_aload_n dX4_expectWord_21 0 rfl ?_
    refine jr_geti (i := 4) jc_4 jk_38 (by decide) (Nat.le_of_ble_eq_true rfl) jlk_38_4 jft_4_4 jw_189 dX4_expectWord_22 ?_
    refine j2_callVv (As := [jl_vi (1 : Int), jl_vi (jl_g s2 38 4)]) dX4_expectWord_25 (jt_X4_fail G (1 : Int) (jl_g s2 38 4) (jl_nlit rfl) (jl_n3_to _) s2) jv_X4_fail ⟨rfl, rfl, rfl⟩ jw_618 jk_38 (by decide) (by decide) rfl ⟨Nat.le_of_ble_eq_true rfl, Nat.le_of_ble_eq_true rfl⟩ rfl (Nat.le_of_ble_eq_true rfl) (fun r4 s5 hr4 => ?_)
    refine jr_sub [] rfl ?_
    exact jj_X4_expectWord_B28 G s5
def jf_X4_takeName_B34 (s0 : jl_Mm) : jl_O :=
  jl_bd (jf_X4_fail (1 : Int) (jl_g s0 38 4) s0) fun r5 s6 => some ((-1 : Int), s6)
set_option maxRecDepth 20000 in
set_option maxHeartbeats 2000000 in
theorem jj_X4_takeName_B34 (G : jl_GC) (s0 : jl_Mm) : j2 G jM_X4_takeName 34 [(0, jl_vr G 38)] [] s0 (jf_X4_takeName_B34 s0) := by
  refine jr_aload_n dX4_takeName_34 0 rfl ?_
  refine jr_iconst dX4_takeName_35 ?_
  refine jr_aload_n dX4_takeName_36 0 rfl ?_
  refine jr_geti (i := 4) jc_4 jk_38 (by decide) (Nat.le_of_ble_eq_true rfl) jlk_38_4 jft_4_4 jw_189 dX4_takeName_37 ?_
  refine j2_callVv (As := [jl_vi (1 : Int), jl_vi (jl_g s0 38 4)]) dX4_takeName_40 (jt_X4_fail G (1 : Int) (jl_g s0 38 4) (jl_nlit rfl) (jl_n3_to _) s0) jv_X4_fail ⟨rfl, rfl, rfl⟩ jw_618 jk_38 (by decide) (by decide) rfl ⟨Nat.le_of_ble_eq_true rfl, Nat.le_of_ble_eq_true rfl⟩ rfl (Nat.le_of_ble_eq_true rfl) (fun r5 s6 hr5 => ?_)
  refine jr_iconst dX4_takeName_43 ?_
  exact jr_ret_i rfl (jl_nlit rfl) dX4_takeName_44
def jf_X4_takeName_B119 (R80 : Int → Int → jl_Mm → jl_O) (l3 : Int) (k0 : Int) (k1 : Int) (s0 : jl_Mm) : jl_O :=
  jl_let (jl_or k0 k1) fun x13 => R80 x13 (jl_add l3 1) s0
set_option maxRecDepth 20000 in
set_option maxHeartbeats 2000000 in
theorem jj_X4_takeName_B119 (G : jl_GC) (R80 : Int → Int → jl_Mm → jl_O) (hR80 : ∀ (l2 : Int) (l3 : Int) (_hl2 : jl_n3 l2) (_hl3 : jl_n3 l3) (s0 : jl_Mm), j2 G jM_X4_takeName 80 [(0, jl_vr G 38), (2, jl_vi l2), (3, jl_vi l3)] [] s0 (R80 l2 l3 s0)) (l3 : Int) (k0 : Int) (k1 : Int) (hl3 : jl_n3 l3) (hk0 : jl_n3 k0) (hk1 : jl_n3 k1) (s0 : jl_Mm) : j2 G jM_X4_takeName 119 [(0, jl_vr G 38), (3, jl_vi l3)] [jl_vi k1, jl_vi k0] s0 (jf_X4_takeName_B119 R80 l3 k0 k1 s0) := by
  refine jr_ior dX4_takeName_119 ?_
  refine jr_let (jl_n3_to _) (fun x13 hx13 => ?_)
  refine jr_istore_n (lv := [(2, jl_vi x13), (0, jl_vr G 38), (3, jl_vi l3)]) dX4_takeName_120 rfl (Nat.le_of_ble_eq_true rfl) rfl ?_
  refine jr_iinc (j := 2) (lv := [(3, jl_vi (jl_add l3 1)), (2, jl_vi x13), (0, jl_vr G 38)]) dX4_takeName_121 rfl (Nat.le_of_ble_eq_true rfl) rfl ?_
  refine jr_goto (t := 80) dX4_takeName_124 (by decide) ?_
  refine jr_sub [2, 1, 0] rfl ?_
  exact hR80 x13 (jl_add l3 1) hx13 (jl_n3_to _) s0
def jf_X4_takeName_L80 : Nat → Int → Int → jl_Mm → jl_O
  | 0, _, _, _ => none
  | n + 1, l2, l3, s0 =>
    if jl_add (jl_g s0 38 4) (6 : Int) ≤ l3 then (jl_lm (jl_up s0 38 4 (jl_g s0 38 5)) fun s11 => some (l2, s11)) else (if jl_g s0 38 5 ≤ l3 then (jf_X4_takeName_B119 (jf_X4_takeName_L80 n) l3 (jl_shl l2 (5 : Int)) (0 : Int) s0) else (jl_bd (jf_X10_byteAt l3 s0) fun r14 s15 => jf_X4_takeName_B119 (jf_X4_takeName_L80 n) l3 (jl_shl l2 (5 : Int)) (jl_add (jl_sub r14 (97 : Int)) (1 : Int)) s15))
set_option maxRecDepth 20000 in
set_option maxHeartbeats 2000000 in
theorem jj_X4_takeName_L80 (G : jl_GC) : ∀ (n : Nat) (l2 : Int) (l3 : Int) (hl2 : jl_n3 l2) (hl3 : jl_n3 l3) (s0 : jl_Mm), j2 G jM_X4_takeName 80 [(0, jl_vr G 38), (2, jl_vi l2), (3, jl_vi l3)] [] s0 (jf_X4_takeName_L80 n l2 l3 s0) := by
  intro n
  induction n with
  | zero =>
    intros
    exact jr_none
  | succ n ih =>
    intro l2 l3 hl2 hl3 s0
    refine jr_iload_n dX4_takeName_80 2 rfl ?_
    refine jr_aload_n dX4_takeName_81 0 rfl ?_
    refine jr_geti (i := 4) jc_4 jk_38 (by decide) (Nat.le_of_ble_eq_true rfl) jlk_38_4 jft_4_4 jw_189 dX4_takeName_82 ?_
    refine jr_bipush dX4_takeName_85 (by decide) ?_
    refine jr_iadd dX4_takeName_87 ?_
    refine jr_icmp_ge (t := 127) dX4_takeName_88 (by decide) hl3 (jl_n3_to _) (fun c10 => ?_) (fun c10 => ?_)
    · refine jr_aload_n dX4_takeName_127 0 rfl ?_
      refine jr_aload_n dX4_takeName_128 0 rfl ?_
      refine jr_geti (i := 5) jc_4 jk_38 (by decide) (Nat.le_of_ble_eq_true rfl) jlk_38_5 jft_4_5 jw_191 dX4_takeName_129 ?_
      refine jr_puti (i := 4) jc_4 jk_38 (by decide) (Nat.le_of_ble_eq_true rfl) jlk_38_4 jft_4_4 rfl jw_189 rfl dX4_takeName_132 ?_
      refine jr_lm (fun s11 => ?_)
      refine jr_iload_n dX4_takeName_135 1 rfl ?_
      exact jr_ret_i rfl hl2 dX4_takeName_136
    · refine jr_iload_n dX4_takeName_91 1 rfl ?_
      refine jr_iconst dX4_takeName_92 ?_
      refine jr_ishl dX4_takeName_93 ?_
      refine jr_iload_n dX4_takeName_94 2 rfl ?_
      refine jr_aload_n dX4_takeName_95 0 rfl ?_
      refine jr_geti (i := 5) jc_4 jk_38 (by decide) (Nat.le_of_ble_eq_true rfl) jlk_38_5 jft_4_5 jw_191 dX4_takeName_96 ?_
      refine jr_icmp_ge (t := 118) dX4_takeName_99 (by decide) hl3 (jl_n3_to _) (fun c12 => ?_) (fun c12 => ?_)
      · refine jr_iconst dX4_takeName_118 ?_
        refine jr_sub [0, 2] rfl ?_
        exact jj_X4_takeName_B119 G (jf_X4_takeName_L80 n) (ih) l3 (jl_shl l2 (5 : Int)) (0 : Int) hl3 (jl_n3_to _) (jl_nlit rfl) s0
      · refine jr_aload_n dX4_takeName_102 0 rfl ?_
        refine jr_getk (i := 0) jc_4 jk_38 (by decide) (Nat.le_of_ble_eq_true rfl) jlk_38_0 jw_185 dX4_takeName_103 ?_
        refine jr_iload_n dX4_takeName_106 2 rfl ?_
        refine j2_callVi (As := [jl_vi l3]) dX4_takeName_107 (jt_X10_byteAt G l3 hl3 s0) jv_X10_byteAt ⟨rfl, rfl, rfl⟩ jw_535 jk_1 (by decide) (by decide) rfl ⟨Nat.le_of_ble_eq_true rfl, Nat.le_of_ble_eq_true rfl⟩ rfl (Nat.le_of_ble_eq_true rfl) (fun r14 s15 hr14 => ?_)
        refine jr_bipush dX4_takeName_110 (by decide) ?_
        refine jr_isub dX4_takeName_112 ?_
        refine jr_iconst dX4_takeName_113 ?_
        refine jr_iadd dX4_takeName_114 ?_
        refine jr_goto (t := 119) dX4_takeName_115 (by decide) ?_
        refine jr_sub [0, 2] rfl ?_
        exact jj_X4_takeName_B119 G (jf_X4_takeName_L80 n) (ih) l3 (jl_shl l2 (5 : Int)) (jl_add (jl_sub r14 (97 : Int)) (1 : Int)) hl3 (jl_n3_to _) (jl_n3_to _) s15
def jf_X4_takeName_B45 (s0 : jl_Mm) : jl_O :=
  if jl_sub (jl_g s0 38 5) (jl_g s0 38 4) ≤ (6 : Int) then (jl_let (jl_g s0 38 4) fun x9 => jf_X4_takeName_L80 jl_fu (0 : Int) x9 s0) else (jl_bd (jf_X4_fail (1 : Int) (jl_add (jl_g s0 38 4) (6 : Int)) s0) fun r16 s17 => some ((-1 : Int), s17))
set_option maxRecDepth 20000 in
set_option maxHeartbeats 2000000 in
theorem jj_X4_takeName_B45 (G : jl_GC) (s0 : jl_Mm) : j2 G jM_X4_takeName 45 [(0, jl_vr G 38)] [] s0 (jf_X4_takeName_B45 s0) := by
  refine jr_aload_n dX4_takeName_45 0 rfl ?_
  refine jr_geti (i := 5) jc_4 jk_38 (by decide) (Nat.le_of_ble_eq_true rfl) jlk_38_5 jft_4_5 jw_191 dX4_takeName_46 ?_
  refine jr_aload_n dX4_takeName_49 0 rfl ?_
  refine jr_geti (i := 4) jc_4 jk_38 (by decide) (Nat.le_of_ble_eq_true rfl) jlk_38_4 jft_4_4 jw_189 dX4_takeName_50 ?_
  refine jr_isub dX4_takeName_53 ?_
  refine jr_bipush dX4_takeName_54 (by decide) ?_
  refine jr_icmp_le (t := 73) dX4_takeName_56 (by decide) (jl_n3_to _) (jl_nlit rfl) (fun c8 => ?_) (fun c8 => ?_)
  · refine jr_iconst dX4_takeName_73 ?_
    refine jr_istore_n (lv := [(2, jl_vi (0 : Int)), (0, jl_vr G 38)]) dX4_takeName_74 rfl (Nat.le_of_ble_eq_true rfl) rfl ?_
    refine jr_aload_n dX4_takeName_75 1 rfl ?_
    refine jr_geti (i := 4) jc_4 jk_38 (by decide) (Nat.le_of_ble_eq_true rfl) jlk_38_4 jft_4_4 jw_189 dX4_takeName_76 ?_
    refine jr_let (jl_n3_to _) (fun x9 hx9 => ?_)
    refine jr_istore_n (lv := [(3, jl_vi x9), (2, jl_vi (0 : Int)), (0, jl_vr G 38)]) dX4_takeName_79 rfl (Nat.le_of_ble_eq_true rfl) rfl ?_
    refine jr_sub [2, 1, 0] rfl ?_
    exact jj_X4_takeName_L80 G jl_fu (0 : Int) x9 (jl_nlit rfl) hx9 s0
  · refine jr_aload_n dX4_takeName_59 0 rfl ?_
    refine jr_iconst dX4_takeName_60 ?_
    refine jr_aload_n dX4_takeName_61 0 rfl ?_
    refine jr_geti (i := 4) jc_4 jk_38 (by decide) (Nat.le_of_ble_eq_true rfl) jlk_38_4 jft_4_4 jw_189 dX4_takeName_62 ?_
    refine jr_bipush dX4_takeName_65 (by decide) ?_
    refine jr_iadd dX4_takeName_67 ?_
    refine j2_callVv (As := [jl_vi (1 : Int), jl_vi (jl_add (jl_g s0 38 4) (6 : Int))]) dX4_takeName_68 (jt_X4_fail G (1 : Int) (jl_add (jl_g s0 38 4) (6 : Int)) (jl_nlit rfl) (jl_n3_to _) s0) jv_X4_fail ⟨rfl, rfl, rfl⟩ jw_618 jk_38 (by decide) (by decide) rfl ⟨Nat.le_of_ble_eq_true rfl, Nat.le_of_ble_eq_true rfl⟩ rfl (Nat.le_of_ble_eq_true rfl) (fun r16 s17 hr16 => ?_)
    refine jr_iconst dX4_takeName_71 ?_
    exact jr_ret_i rfl (jl_nlit rfl) dX4_takeName_72
def jf_X4_takeName (s0 : jl_Mm) : jl_O :=
  jl_bd (jf_X4_peekWord s0) fun r1 s2 => jl_lm (jl_up s2 38 6 (jl_g s2 38 4)) fun s3 => if jl_g s3 38 5 = jl_g s3 38 4 then (jf_X4_takeName_B34 s3) else (if r1 < (0 : Int) then (jf_X4_takeName_B45 s3) else (if (31 : Int) < r1 then (jf_X4_takeName_B45 s3) else (jf_X4_takeName_B34 s3)))
set_option maxRecDepth 20000 in
set_option maxHeartbeats 2000000 in
theorem jt_X4_takeName (G : jl_GC) (s0 : jl_Mm) : jC2 G jM_X4_takeName [jl_vr G 38] s0 (jf_X4_takeName s0) := by
  refine jl_met (plainFor_of_name rfl) (Nat.le_of_ble_eq_true rfl) ?_
  show j2 G jM_X4_takeName 0 [(0, jl_vr G 38)] [] s0 _
  refine jr_aload_n dX4_takeName_0 0 rfl ?_
  refine j2_callVi (As := []) dX4_takeName_1 (jt_X4_peekWord G s0) jv_X4_peekWord ⟨rfl, rfl, rfl⟩ jw_627 jk_38 (by decide) (by decide) rfl ⟨Nat.le_of_ble_eq_true rfl, Nat.le_of_ble_eq_true rfl⟩ rfl (Nat.le_of_ble_eq_true rfl) (fun r1 s2 hr1 => ?_)
  refine jr_istore_n (lv := [(1, jl_vi r1), (0, jl_vr G 38)]) dX4_takeName_4 rfl (Nat.le_of_ble_eq_true rfl) rfl ?_
  refine jr_aload_n dX4_takeName_5 1 rfl ?_
  refine jr_aload_n dX4_takeName_6 1 rfl ?_
  refine jr_geti (i := 4) jc_4 jk_38 (by decide) (Nat.le_of_ble_eq_true rfl) jlk_38_4 jft_4_4 jw_189 dX4_takeName_7 ?_
  refine jr_puti (i := 6) jc_4 jk_38 (by decide) (Nat.le_of_ble_eq_true rfl) jlk_38_6 jft_4_6 rfl jw_193 rfl dX4_takeName_10 ?_
  refine jr_lm (fun s3 => ?_)
  refine jr_aload_n dX4_takeName_13 1 rfl ?_
  refine jr_geti (i := 5) jc_4 jk_38 (by decide) (Nat.le_of_ble_eq_true rfl) jlk_38_5 jft_4_5 jw_191 dX4_takeName_14 ?_
  refine jr_aload_n dX4_takeName_17 1 rfl ?_
  refine jr_geti (i := 4) jc_4 jk_38 (by decide) (Nat.le_of_ble_eq_true rfl) jlk_38_4 jft_4_4 jw_189 dX4_takeName_18 ?_
  refine jr_icmp_eq (t := 34) dX4_takeName_21 (by decide) (jl_n3_to _) (jl_n3_to _) (fun c4 => ?_) (fun c4 => ?_)
  · refine jr_sub [1] rfl ?_
    exact jj_X4_takeName_B34 G s3
  · refine jr_iload_n dX4_takeName_24 0 rfl ?_
    refine jr_if_lt (t := 45) dX4_takeName_25 (by decide) hr1 (fun c7 => ?_) (fun c7 => ?_)
    · refine jr_sub [1] rfl ?_
      exact jj_X4_takeName_B45 G s3
    · refine jr_iload_n dX4_takeName_28 0 rfl ?_
      refine jr_bipush dX4_takeName_29 (by decide) ?_
      refine jr_icmp_gt (t := 45) dX4_takeName_31 (by decide) hr1 (jl_nlit rfl) (fun c18 => ?_) (fun c18 => ?_)
      · refine jr_sub [1] rfl ?_
        exact jj_X4_takeName_B45 G s3
      · refine jr_sub [1] rfl ?_
        exact jj_X4_takeName_B34 G s3
def jf_X8_lieNamed_L2 : Nat → Nat → Int → Int → jl_Mm → jl_O
  | 0, _, _, _, _ => none
  | n + 1, l0, l1, l2, s0 =>
    if jl_g s0 l0 3 ≤ l2 then (some ((-1 : Int), s0)) else (if 0 ≤ l2 ∧ l2 < ((8 : Nat) : Int) then if jl_g s0 (l0 + 4) (l2).toNat = l1 then (some (l2, s0)) else (jf_X8_lieNamed_L2 n l0 l1 (jl_add l2 1) s0) else none)
set_option maxRecDepth 20000 in
set_option maxHeartbeats 2000000 in
theorem jj_X8_lieNamed_L2 (G : jl_GC) : ∀ (n : Nat) (l0 : Nat) (l1 : Int) (l2 : Int) (hl0 : (jl_kd l0).1 = 8) (hl1 : jl_n3 l1) (hl2 : jl_n3 l2) (s0 : jl_Mm), j2 G jM_X8_lieNamed 2 [(0, jl_vr G l0), (1, jl_vi l1), (2, jl_vi l2)] [] s0 (jf_X8_lieNamed_L2 n l0 l1 l2 s0) := by
  intro n
  induction n with
  | zero =>
    intros
    exact jr_none
  | succ n ih =>
    intro l0 l1 l2 hl0 hl1 hl2 s0
    refine jr_iload_n dX8_lieNamed_2 2 rfl ?_
    refine jr_aload_n dX8_lieNamed_3 0 rfl ?_
    refine jr_geti (i := 3) jc_8 (jl_kd1 hl0) (jl_kdlt hl0 (by decide)) (Nat.le_of_ble_eq_true rfl) (js8n_3 hl0) jft_8_3 jw_100 dX8_lieNamed_4 ?_
    refine jr_icmp_ge (t := 28) dX8_lieNamed_7 (by decide) hl2 (jl_n3_to _) (fun c1 => ?_) (fun c1 => ?_)
    · refine jr_iconst dX8_lieNamed_28 ?_
      exact jr_ret_i rfl (jl_nlit rfl) dX8_lieNamed_29
    · refine jr_aload_n dX8_lieNamed_10 0 rfl ?_
      refine jr_getk (i := 10) jc_8 (jl_kd1 hl0) (jl_kdlt hl0 (by decide)) (Nat.le_of_ble_eq_true rfl) (js8_10 hl0) jw_123 dX8_lieNamed_11 ?_
      refine jr_iload_n dX8_lieNamed_14 2 rfl ?_
      refine jr_grd (fun g2 => ?_)
      refine jr_iaload (js8k_10 hl0) (jl_kdl (js8k_10 hl0) (by decide)) hl2 g2 dX8_lieNamed_15 ?_
      refine jr_iload_n dX8_lieNamed_16 1 rfl ?_
      refine jr_icmp_ne (t := 22) dX8_lieNamed_17 (by decide) (jl_n3_to _) hl1 (fun c3 => ?_) (fun c3 => ?_)
      · refine jr_iload_n dX8_lieNamed_20 2 rfl ?_
        exact jr_ret_i rfl hl2 dX8_lieNamed_21
      · refine jr_iinc (j := 2) (lv := [(2, jl_vi (jl_add l2 1)), (0, jl_vr G l0), (1, jl_vi l1)]) dX8_lieNamed_22 rfl (Nat.le_of_ble_eq_true rfl) rfl ?_
        refine jr_goto (t := 2) dX8_lieNamed_25 (by decide) ?_
        refine jr_sub [1, 2, 0] rfl ?_
        exact ih l0 l1 (jl_add l2 1) hl0 hl1 (jl_n3_to _) s0
def jf_X8_lieNamed (q0 : Nat) (v1 : Int) (s0 : jl_Mm) : jl_O :=
  if (jl_kd q0).1 = 8 then jf_X8_lieNamed_L2 jl_fu q0 v1 (0 : Int) s0 else none
set_option maxRecDepth 20000 in
set_option maxHeartbeats 2000000 in
theorem jt_X8_lieNamed (G : jl_GC) (q0 : Nat) (v1 : Int) (h1 : jl_n3 v1) (s0 : jl_Mm) : jC2 G jM_X8_lieNamed [jl_vr G q0, jl_vi v1] s0 (jf_X8_lieNamed q0 v1 s0) := by
  refine jl_met (plainFor_of_name rfl) (Nat.le_of_ble_eq_true rfl) ?_
  show j2 G jM_X8_lieNamed 0 [(0, jl_vr G q0), (1, jl_vi v1)] [] s0 _
  refine jr_grd (fun gp0 => ?_)
  refine jr_iconst dX8_lieNamed_0 ?_
  refine jr_istore_n (lv := [(2, jl_vi (0 : Int)), (0, jl_vr G q0), (1, jl_vi v1)]) dX8_lieNamed_1 rfl (Nat.le_of_ble_eq_true rfl) rfl ?_
  refine jr_sub [1, 2, 0] rfl ?_
  exact jj_X8_lieNamed_L2 G jl_fu q0 v1 (0 : Int) gp0 h1 (jl_nlit rfl) s0
def jf_X9_refuseNone_B20 (s0 : jl_Mm) : jl_O :=
  some (0, s0)
set_option maxRecDepth 20000 in
set_option maxHeartbeats 2000000 in
theorem jj_X9_refuseNone_B20 (G : jl_GC) (s0 : jl_Mm) : j2 G jM_X9_refuseNone 20 [] [] s0 (jf_X9_refuseNone_B20 s0) := by
  exact jr_ret_v rfl dX9_refuseNone_20
def jf_X9_refuseNone (v1 : Int) (s0 : jl_Mm) : jl_O :=
  if v1 = (-1 : Int) then (jl_bd (jf_X4_fail (3 : Int) (jl_g s0 38 6) s0) fun r2 s3 => jf_X9_refuseNone_B20 s3) else (jf_X9_refuseNone_B20 s0)
set_option maxRecDepth 20000 in
set_option maxHeartbeats 2000000 in
theorem jt_X9_refuseNone (G : jl_GC) (v1 : Int) (h1 : jl_n3 v1) (s0 : jl_Mm) : jC2 G jM_X9_refuseNone [jl_vr G 39, jl_vi v1] s0 (jf_X9_refuseNone v1 s0) := by
  refine jl_met (plainFor_of_name rfl) (Nat.le_of_ble_eq_true rfl) ?_
  show j2 G jM_X9_refuseNone 0 [(0, jl_vr G 39), (1, jl_vi v1)] [] s0 _
  refine jr_iload_n dX9_refuseNone_0 1 rfl ?_
  refine jr_iconst dX9_refuseNone_1 ?_
  refine jr_icmp_ne (t := 20) dX9_refuseNone_2 (by decide) h1 (jl_nlit rfl) (fun c1 => ?_) (fun c1 => ?_)
  · refine jr_aload_n dX9_refuseNone_5 0 rfl ?_
    refine jr_getk (i := 0) jc_9 jk_39 (by decide) (Nat.le_of_ble_eq_true rfl) jlk_39_0 jw_224 dX9_refuseNone_6 ?_
    refine jr_iconst dX9_refuseNone_9 ?_
    refine jr_aload_n dX9_refuseNone_10 0 rfl ?_
    refine jr_getk (i := 0) jc_9 jk_39 (by decide) (Nat.le_of_ble_eq_true rfl) jlk_39_0 jw_224 dX9_refuseNone_11 ?_
    refine jr_getiN (i := 6) jc_4 jk_38 (by decide) (Nat.le_of_ble_eq_true rfl) jlk_38_6 jft_4_6 jw_194 dX9_refuseNone_14 ?_
    refine j2_callVv (As := [jl_vi (3 : Int), jl_vi (jl_g s0 38 6)]) dX9_refuseNone_17 (jt_X4_fail G (3 : Int) (jl_g s0 38 6) (jl_nlit rfl) (jl_n3_to _) s0) jv_X4_fail ⟨rfl, rfl, rfl⟩ jw_523 jk_38 (by decide) (by decide) rfl ⟨Nat.le_of_ble_eq_true rfl, Nat.le_of_ble_eq_true rfl⟩ rfl (Nat.le_of_ble_eq_true rfl) (fun r2 s3 hr2 => ?_)
    refine jr_sub [] rfl ?_
    exact jj_X9_refuseNone_B20 G s3
  · refine jr_sub [] rfl ?_
    exact jj_X9_refuseNone_B20 G s0
def jf_X9_readHangs_B118 (s0 : jl_Mm) : jl_O :=
  some (0, s0)
set_option maxRecDepth 20000 in
set_option maxHeartbeats 2000000 in
theorem jj_X9_readHangs_B118 (G : jl_GC) (s0 : jl_Mm) : j2 G jM_X9_readHangs 118 [] [] s0 (jf_X9_readHangs_B118 s0) := by
  exact jr_ret_v rfl dX9_readHangs_118
def jf_X9_readHangs_B52 (l1 : Int) (s0 : jl_Mm) : jl_O :=
  jl_bd (jf_X4_expectWord (7 : Int) s0) fun r9 s10 => if 0 ≤ s10 39 1 ∧ (jl_kd (jl_gr s10 39 1)).1 = 8 then jl_bd (jf_X4_takeName s10) fun r12 s13 => jl_bd (jf_X8_lieNamed (jl_gr s10 39 1) r12 s13) fun r14 s15 => jl_bd (jf_X9_refuseNone r14 s15) fun r16 s17 => if r14 < l1 then (if l1 < (0 : Int) then (jf_X9_readHangs_B118 s17) else (if 0 ≤ s17 39 1 ∧ (jl_kd (jl_gr s17 39 1)).1 = 8 then if 0 ≤ l1 ∧ l1 < ((8 : Nat) : Int) then jl_lm (jl_up s17 ((jl_gr s17 39 1) + 6) (l1).toNat r14) fun s22 => jf_X9_readHangs_B118 s22 else none else none)) else (jl_bd (jf_X4_fail (3 : Int) (jl_g s17 38 6) s17) fun r23 s24 => jf_X9_readHangs_B118 s24) else none
set_option maxRecDepth 20000 in
set_option maxHeartbeats 2000000 in
theorem jj_X9_readHangs_B52 (G : jl_GC) (l1 : Int) (hl1 : jl_n3 l1) (s0 : jl_Mm) : j2 G jM_X9_readHangs 52 [(0, jl_vr G 39), (1, jl_vi l1)] [] s0 (jf_X9_readHangs_B52 l1 s0) := by
  refine jr_aload_n dX9_readHangs_52 0 rfl ?_
  refine jr_getk (i := 0) jc_9 jk_39 (by decide) (Nat.le_of_ble_eq_true rfl) jlk_39_0 jw_224 dX9_readHangs_53 ?_
  refine jr_bipush dX9_readHangs_56 (by decide) ?_
  refine j2_callVv (As := [jl_vi (7 : Int)]) dX9_readHangs_58 (jt_X4_expectWord G (7 : Int) (jl_nlit rfl) s0) jv_X4_expectWord ⟨rfl, rfl, rfl⟩ jw_640 jk_38 (by decide) (by decide) rfl ⟨Nat.le_of_ble_eq_true rfl, Nat.le_of_ble_eq_true rfl⟩ rfl (Nat.le_of_ble_eq_true rfl) (fun r9 s10 hr9 => ?_)
  refine jr_aload_n dX9_readHangs_61 0 rfl ?_
  refine jr_grd (fun g11 => ?_)
  refine jr_getr (i := 1) jc_9 jk_39 (by decide) (Nat.le_of_ble_eq_true rfl) jlk_39_1 jft_9_1 g11.1 jw_225 dX9_readHangs_62 ?_
  refine jr_aload_n dX9_readHangs_65 0 rfl ?_
  refine jr_getk (i := 0) jc_9 jk_39 (by decide) (Nat.le_of_ble_eq_true rfl) jlk_39_0 jw_224 dX9_readHangs_66 ?_
  refine j2_callVi (As := []) dX9_readHangs_69 (jt_X4_takeName G s10) jv_X4_takeName ⟨rfl, rfl, rfl⟩ jw_623 jk_38 (by decide) (by decide) rfl ⟨Nat.le_of_ble_eq_true rfl, Nat.le_of_ble_eq_true rfl⟩ rfl (Nat.le_of_ble_eq_true rfl) (fun r12 s13 hr12 => ?_)
  refine j2_callVi (As := [jl_vi r12]) dX9_readHangs_72 (jt_X8_lieNamed G (jl_gr s10 39 1) r12 hr12 s13) jv_X8_lieNamed ⟨rfl, rfl, rfl⟩ jw_636 (jl_kd1 g11.2) (by decide) (jl_kdlt g11.2 (by decide)) rfl ⟨Nat.le_of_ble_eq_true rfl, Nat.le_of_ble_eq_true rfl⟩ rfl (Nat.le_of_ble_eq_true rfl) (fun r14 s15 hr14 => ?_)
  refine jr_istore_n (lv := [(2, jl_vi r14), (0, jl_vr G 39), (1, jl_vi l1)]) dX9_readHangs_75 rfl (Nat.le_of_ble_eq_true rfl) rfl ?_
  refine jr_aload_n dX9_readHangs_76 1 rfl ?_
  refine jr_iload_n dX9_readHangs_77 0 rfl ?_
  refine j2_callVv (As := [jl_vi r14]) dX9_readHangs_78 (jt_X9_refuseNone G r14 hr14 s15) jv_X9_refuseNone ⟨rfl, rfl, rfl⟩ jw_652 jk_39 (by decide) (by decide) rfl ⟨Nat.le_of_ble_eq_true rfl, Nat.le_of_ble_eq_true rfl⟩ rfl (Nat.le_of_ble_eq_true rfl) (fun r16 s17 hr16 => ?_)
  refine jr_iload_n dX9_readHangs_81 0 rfl ?_
  refine jr_iload_n dX9_readHangs_82 2 rfl ?_
  refine jr_icmp_lt (t := 104) dX9_readHangs_83 (by decide) hr14 hl1 (fun c18 => ?_) (fun c18 => ?_)
  · refine jr_iload_n dX9_readHangs_104 2 rfl ?_
    refine jr_if_lt (t := 118) dX9_readHangs_105 (by decide) hl1 (fun c19 => ?_) (fun c19 => ?_)
    · refine jr_sub [] rfl ?_
      exact jj_X9_readHangs_B118 G s17
    · refine jr_aload_n dX9_readHangs_108 1 rfl ?_
      refine jr_grd (fun g20 => ?_)
      refine jr_getr (i := 1) jc_9 jk_39 (by decide) (Nat.le_of_ble_eq_true rfl) jlk_39_1 jft_9_1 g20.1 jw_225 dX9_readHangs_109 ?_
      refine jr_getkN (i := 12) jc_8 (jl_kd1 g20.2) (jl_kdlt g20.2 (by decide)) (Nat.le_of_ble_eq_true rfl) (js8_12 g20.2) jw_130 dX9_readHangs_112 ?_
      refine jr_iload_n dX9_readHangs_115 2 rfl ?_
      refine jr_iload_n dX9_readHangs_116 0 rfl ?_
      refine jr_grd (fun g21 => ?_)
      refine jr_iastore (js8k_12 g20.2) (jl_kdl (js8k_12 g20.2) (by decide)) hl1 g21 dX9_readHangs_117 ?_
      refine jr_lm (fun s22 => ?_)
      refine jr_sub [] rfl ?_
      exact jj_X9_readHangs_B118 G s22
  · refine jr_aload_n dX9_readHangs_86 1 rfl ?_
    refine jr_getk (i := 0) jc_9 jk_39 (by decide) (Nat.le_of_ble_eq_true rfl) jlk_39_0 jw_224 dX9_readHangs_87 ?_
    refine jr_iconst dX9_readHangs_90 ?_
    refine jr_aload_n dX9_readHangs_91 1 rfl ?_
    refine jr_getk (i := 0) jc_9 jk_39 (by decide) (Nat.le_of_ble_eq_true rfl) jlk_39_0 jw_224 dX9_readHangs_92 ?_
    refine jr_getiN (i := 6) jc_4 jk_38 (by decide) (Nat.le_of_ble_eq_true rfl) jlk_38_6 jft_4_6 jw_194 dX9_readHangs_95 ?_
    refine j2_callVv (As := [jl_vi (3 : Int), jl_vi (jl_g s17 38 6)]) dX9_readHangs_98 (jt_X4_fail G (3 : Int) (jl_g s17 38 6) (jl_nlit rfl) (jl_n3_to _) s17) jv_X4_fail ⟨rfl, rfl, rfl⟩ jw_523 jk_38 (by decide) (by decide) rfl ⟨Nat.le_of_ble_eq_true rfl, Nat.le_of_ble_eq_true rfl⟩ rfl (Nat.le_of_ble_eq_true rfl) (fun r23 s24 hr23 => ?_)
    refine jr_goto (t := 118) dX9_readHangs_101 (by decide) ?_
    refine jr_sub [] rfl ?_
    exact jj_X9_readHangs_B118 G s24
def jf_X9_readHangs (s0 : jl_Mm) : jl_O :=
  if 0 ≤ s0 39 1 ∧ (jl_kd (jl_gr s0 39 1)).1 = 8 then jl_bd (jf_X4_takeName s0) fun r2 s3 => jl_bd (jf_X8_lieNamed (jl_gr s0 39 1) r2 s3) fun r4 s5 => jl_bd (jf_X9_refuseNone r4 s5) fun r6 s7 => if r4 < (0 : Int) then (jf_X9_readHangs_B52 r4 s7) else (if 0 ≤ s7 39 1 ∧ (jl_kd (jl_gr s7 39 1)).1 = 8 then if 0 ≤ r4 ∧ r4 < ((8 : Nat) : Int) then if jl_g s7 ((jl_gr s7 39 1) + 6) (r4).toNat = (-1 : Int) then (jf_X9_readHangs_B52 r4 s7) else (jl_bd (jf_X4_fail (3 : Int) (jl_g s7 38 6) s7) fun r28 s29 => jf_X9_readHangs_B52 r4 s29) else none else none) else none
set_option maxRecDepth 20000 in
set_option maxHeartbeats 2000000 in
theorem jt_X9_readHangs (G : jl_GC) (s0 : jl_Mm) : jC2 G jM_X9_readHangs [jl_vr G 39] s0 (jf_X9_readHangs s0) := by
  refine jl_met (plainFor_of_name rfl) (Nat.le_of_ble_eq_true rfl) ?_
  show j2 G jM_X9_readHangs 0 [(0, jl_vr G 39)] [] s0 _
  refine jr_aload_n dX9_readHangs_0 0 rfl ?_
  refine jr_grd (fun g1 => ?_)
  refine jr_getr (i := 1) jc_9 jk_39 (by decide) (Nat.le_of_ble_eq_true rfl) jlk_39_1 jft_9_1 g1.1 jw_225 dX9_readHangs_1 ?_
  refine jr_aload_n dX9_readHangs_4 0 rfl ?_
  refine jr_getk (i := 0) jc_9 jk_39 (by decide) (Nat.le_of_ble_eq_true rfl) jlk_39_0 jw_224 dX9_readHangs_5 ?_
  refine j2_callVi (As := []) dX9_readHangs_8 (jt_X4_takeName G s0) jv_X4_takeName ⟨rfl, rfl, rfl⟩ jw_623 jk_38 (by decide) (by decide) rfl ⟨Nat.le_of_ble_eq_true rfl, Nat.le_of_ble_eq_true rfl⟩ rfl (Nat.le_of_ble_eq_true rfl) (fun r2 s3 hr2 => ?_)
  refine j2_callVi (As := [jl_vi r2]) dX9_readHangs_11 (jt_X8_lieNamed G (jl_gr s0 39 1) r2 hr2 s3) jv_X8_lieNamed ⟨rfl, rfl, rfl⟩ jw_636 (jl_kd1 g1.2) (by decide) (jl_kdlt g1.2 (by decide)) rfl ⟨Nat.le_of_ble_eq_true rfl, Nat.le_of_ble_eq_true rfl⟩ rfl (Nat.le_of_ble_eq_true rfl) (fun r4 s5 hr4 => ?_)
  refine jr_istore_n (lv := [(1, jl_vi r4), (0, jl_vr G 39)]) dX9_readHangs_14 rfl (Nat.le_of_ble_eq_true rfl) rfl ?_
  refine jr_aload_n dX9_readHangs_15 1 rfl ?_
  refine jr_iload_n dX9_readHangs_16 0 rfl ?_
  refine j2_callVv (As := [jl_vi r4]) dX9_readHangs_17 (jt_X9_refuseNone G r4 hr4 s5) jv_X9_refuseNone ⟨rfl, rfl, rfl⟩ jw_652 jk_39 (by decide) (by decide) rfl ⟨Nat.le_of_ble_eq_true rfl, Nat.le_of_ble_eq_true rfl⟩ rfl (Nat.le_of_ble_eq_true rfl) (fun r6 s7 hr6 => ?_)
  refine jr_iload_n dX9_readHangs_20 0 rfl ?_
  refine jr_if_lt (t := 52) dX9_readHangs_21 (by decide) hr4 (fun c8 => ?_) (fun c8 => ?_)
  · refine jr_sub [1, 0] rfl ?_
    exact jj_X9_readHangs_B52 G r4 hr4 s7
  · refine jr_aload_n dX9_readHangs_24 1 rfl ?_
    refine jr_grd (fun g25 => ?_)
    refine jr_getr (i := 1) jc_9 jk_39 (by decide) (Nat.le_of_ble_eq_true rfl) jlk_39_1 jft_9_1 g25.1 jw_225 dX9_readHangs_25 ?_
    refine jr_getkN (i := 12) jc_8 (jl_kd1 g25.2) (jl_kdlt g25.2 (by decide)) (Nat.le_of_ble_eq_true rfl) (js8_12 g25.2) jw_130 dX9_readHangs_28 ?_
    refine jr_iload_n dX9_readHangs_31 0 rfl ?_
    refine jr_grd (fun g26 => ?_)
    refine jr_iaload (js8k_12 g25.2) (jl_kdl (js8k_12 g25.2) (by decide)) hr4 g26 dX9_readHangs_32 ?_
    refine jr_iconst dX9_readHangs_33 ?_
    refine jr_icmp_eq (t := 52) dX9_readHangs_34 (by decide) (jl_n3_to _) (jl_nlit rfl) (fun c27 => ?_) (fun c27 => ?_)
    · refine jr_sub [1, 0] rfl ?_
      exact jj_X9_readHangs_B52 G r4 hr4 s7
    · refine jr_aload_n dX9_readHangs_37 1 rfl ?_
      refine jr_getk (i := 0) jc_9 jk_39 (by decide) (Nat.le_of_ble_eq_true rfl) jlk_39_0 jw_224 dX9_readHangs_38 ?_
      refine jr_iconst dX9_readHangs_41 ?_
      refine jr_aload_n dX9_readHangs_42 1 rfl ?_
      refine jr_getk (i := 0) jc_9 jk_39 (by decide) (Nat.le_of_ble_eq_true rfl) jlk_39_0 jw_224 dX9_readHangs_43 ?_
      refine jr_getiN (i := 6) jc_4 jk_38 (by decide) (Nat.le_of_ble_eq_true rfl) jlk_38_6 jft_4_6 jw_194 dX9_readHangs_46 ?_
      refine j2_callVv (As := [jl_vi (3 : Int), jl_vi (jl_g s7 38 6)]) dX9_readHangs_49 (jt_X4_fail G (3 : Int) (jl_g s7 38 6) (jl_nlit rfl) (jl_n3_to _) s7) jv_X4_fail ⟨rfl, rfl, rfl⟩ jw_523 jk_38 (by decide) (by decide) rfl ⟨Nat.le_of_ble_eq_true rfl, Nat.le_of_ble_eq_true rfl⟩ rfl (Nat.le_of_ble_eq_true rfl) (fun r28 s29 hr28 => ?_)
      refine jr_sub [1, 0] rfl ?_
      exact jj_X9_readHangs_B52 G r4 hr4 s29
def jf_X8_addLie_B53 (s0 : jl_Mm) : jl_O :=
  some (0, s0)
set_option maxRecDepth 20000 in
set_option maxHeartbeats 2000000 in
theorem jj_X8_addLie_B53 (G : jl_GC) (s0 : jl_Mm) : j2 G jM_X8_addLie 53 [] [] s0 (jf_X8_addLie_B53 s0) := by
  exact jr_ret_v rfl dX8_addLie_53
def jf_X8_addLie (q0 : Nat) (v1 : Int) (v2 : Int) (s0 : jl_Mm) : jl_O :=
  if (jl_kd q0).1 = 8 then if v2 < (0 : Int) then (jf_X8_addLie_B53 s0) else (if (8 : Int) ≤ jl_g s0 q0 3 then (jf_X8_addLie_B53 s0) else (if 0 ≤ jl_g s0 q0 3 ∧ jl_g s0 q0 3 < ((8 : Nat) : Int) then jl_lm (jl_up s0 (q0 + 4) (jl_g s0 q0 3).toNat v1) fun s4 => if 0 ≤ jl_g s4 q0 3 ∧ jl_g s4 q0 3 < ((8 : Nat) : Int) then jl_lm (jl_up s4 (q0 + 5) (jl_g s4 q0 3).toNat v2) fun s6 => if 0 ≤ jl_g s6 q0 3 ∧ jl_g s6 q0 3 < ((8 : Nat) : Int) then jl_lm (jl_up s6 (q0 + 6) (jl_g s6 q0 3).toNat (-1 : Int)) fun s8 => jl_lm (jl_up s8 q0 3 (jl_add (jl_g s8 q0 3) (1 : Int))) fun s9 => jf_X8_addLie_B53 s9 else none else none else none)) else none
set_option maxRecDepth 20000 in
set_option maxHeartbeats 2000000 in
theorem jt_X8_addLie (G : jl_GC) (q0 : Nat) (v1 : Int) (v2 : Int) (h1 : jl_n3 v1) (h2 : jl_n3 v2) (s0 : jl_Mm) : jC2 G jM_X8_addLie [jl_vr G q0, jl_vi v1, jl_vi v2] s0 (jf_X8_addLie q0 v1 v2 s0) := by
  refine jl_met (plainFor_of_name rfl) (Nat.le_of_ble_eq_true rfl) ?_
  show j2 G jM_X8_addLie 0 [(0, jl_vr G q0), (1, jl_vi v1), (2, jl_vi v2)] [] s0 _
  refine jr_grd (fun gp0 => ?_)
  refine jr_iload_n dX8_addLie_0 2 rfl ?_
  refine jr_if_lt (t := 53) dX8_addLie_1 (by decide) h2 (fun c1 => ?_) (fun c1 => ?_)
  · refine jr_sub [] rfl ?_
    exact jj_X8_addLie_B53 G s0
  · refine jr_aload_n dX8_addLie_4 0 rfl ?_
    refine jr_geti (i := 3) jc_8 (jl_kd1 gp0) (jl_kdlt gp0 (by decide)) (Nat.le_of_ble_eq_true rfl) (js8n_3 gp0) jft_8_3 jw_100 dX8_addLie_5 ?_
    refine jr_bipush dX8_addLie_8 (by decide) ?_
    refine jr_icmp_ge (t := 53) dX8_addLie_10 (by decide) (jl_n3_to _) (jl_nlit rfl) (fun c2 => ?_) (fun c2 => ?_)
    · refine jr_sub [] rfl ?_
      exact jj_X8_addLie_B53 G s0
    · refine jr_aload_n dX8_addLie_13 0 rfl ?_
      refine jr_getk (i := 10) jc_8 (jl_kd1 gp0) (jl_kdlt gp0 (by decide)) (Nat.le_of_ble_eq_true rfl) (js8_10 gp0) jw_123 dX8_addLie_14 ?_
      refine jr_aload_n dX8_addLie_17 0 rfl ?_
      refine jr_geti (i := 3) jc_8 (jl_kd1 gp0) (jl_kdlt gp0 (by decide)) (Nat.le_of_ble_eq_true rfl) (js8n_3 gp0) jft_8_3 jw_100 dX8_addLie_18 ?_
      refine jr_iload_n dX8_addLie_21 1 rfl ?_
      refine jr_grd (fun g3 => ?_)
      refine jr_iastore (js8k_10 gp0) (jl_kdl (js8k_10 gp0) (by decide)) (jl_n3_to _) g3 dX8_addLie_22 ?_
      refine jr_lm (fun s4 => ?_)
      refine jr_aload_n dX8_addLie_23 0 rfl ?_
      refine jr_getk (i := 11) jc_8 (jl_kd1 gp0) (jl_kdlt gp0 (by decide)) (Nat.le_of_ble_eq_true rfl) (js8_11 gp0) jw_125 dX8_addLie_24 ?_
      refine jr_aload_n dX8_addLie_27 0 rfl ?_
      refine jr_geti (i := 3) jc_8 (jl_kd1 gp0) (jl_kdlt gp0 (by decide)) (Nat.le_of_ble_eq_true rfl) (js8n_3 gp0) jft_8_3 jw_100 dX8_addLie_28 ?_
      refine jr_iload_n dX8_addLie_31 2 rfl ?_
      refine jr_grd (fun g5 => ?_)
      refine jr_iastore (js8k_11 gp0) (jl_kdl (js8k_11 gp0) (by decide)) (jl_n3_to _) g5 dX8_addLie_32 ?_
      refine jr_lm (fun s6 => ?_)
      refine jr_aload_n dX8_addLie_33 0 rfl ?_
      refine jr_getk (i := 12) jc_8 (jl_kd1 gp0) (jl_kdlt gp0 (by decide)) (Nat.le_of_ble_eq_true rfl) (js8_12 gp0) jw_128 dX8_addLie_34 ?_
      refine jr_aload_n dX8_addLie_37 0 rfl ?_
      refine jr_geti (i := 3) jc_8 (jl_kd1 gp0) (jl_kdlt gp0 (by decide)) (Nat.le_of_ble_eq_true rfl) (js8n_3 gp0) jft_8_3 jw_100 dX8_addLie_38 ?_
      refine jr_iconst dX8_addLie_41 ?_
      refine jr_grd (fun g7 => ?_)
      refine jr_iastore (js8k_12 gp0) (jl_kdl (js8k_12 gp0) (by decide)) (jl_n3_to _) g7 dX8_addLie_42 ?_
      refine jr_lm (fun s8 => ?_)
      refine jr_aload_n dX8_addLie_43 0 rfl ?_
      refine jr_dup dX8_addLie_44 rfl ?_
      refine jr_geti (i := 3) jc_8 (jl_kd1 gp0) (jl_kdlt gp0 (by decide)) (Nat.le_of_ble_eq_true rfl) (js8n_3 gp0) jft_8_3 jw_100 dX8_addLie_45 ?_
      refine jr_iconst dX8_addLie_48 ?_
      refine jr_iadd dX8_addLie_49 ?_
      refine jr_puti (i := 3) jc_8 (jl_kd1 gp0) (jl_kdlt gp0 (by decide)) (Nat.le_of_ble_eq_true rfl) (js8n_3 gp0) jft_8_3 rfl jw_100 rfl dX8_addLie_50 ?_
      refine jr_lm (fun s9 => ?_)
      refine jr_sub [] rfl ?_
      exact jj_X8_addLie_B53 G s9
def jf_X8_personNamed_L2 : Nat → Nat → Int → Int → jl_Mm → jl_O
  | 0, _, _, _, _ => none
  | n + 1, l0, l1, l2, s0 =>
    if jl_g s0 l0 2 ≤ l2 then (some ((-1 : Int), s0)) else (if 0 ≤ l2 ∧ l2 < ((6 : Nat) : Int) then if jl_g s0 (l0 + 1) (l2).toNat = l1 then (some (l2, s0)) else (jf_X8_personNamed_L2 n l0 l1 (jl_add l2 1) s0) else none)
set_option maxRecDepth 20000 in
set_option maxHeartbeats 2000000 in
theorem jj_X8_personNamed_L2 (G : jl_GC) : ∀ (n : Nat) (l0 : Nat) (l1 : Int) (l2 : Int) (hl0 : (jl_kd l0).1 = 8) (hl1 : jl_n3 l1) (hl2 : jl_n3 l2) (s0 : jl_Mm), j2 G jM_X8_personNamed 2 [(0, jl_vr G l0), (1, jl_vi l1), (2, jl_vi l2)] [] s0 (jf_X8_personNamed_L2 n l0 l1 l2 s0) := by
  intro n
  induction n with
  | zero =>
    intros
    exact jr_none
  | succ n ih =>
    intro l0 l1 l2 hl0 hl1 hl2 s0
    refine jr_iload_n dX8_personNamed_2 2 rfl ?_
    refine jr_aload_n dX8_personNamed_3 0 rfl ?_
    refine jr_geti (i := 2) jc_8 (jl_kd1 hl0) (jl_kdlt hl0 (by decide)) (Nat.le_of_ble_eq_true rfl) (js8n_2 hl0) jft_8_2 jw_94 dX8_personNamed_4 ?_
    refine jr_icmp_ge (t := 28) dX8_personNamed_7 (by decide) hl2 (jl_n3_to _) (fun c1 => ?_) (fun c1 => ?_)
    · refine jr_iconst dX8_personNamed_28 ?_
      exact jr_ret_i rfl (jl_nlit rfl) dX8_personNamed_29
    · refine jr_aload_n dX8_personNamed_10 0 rfl ?_
      refine jr_getk (i := 7) jc_8 (jl_kd1 hl0) (jl_kdlt hl0 (by decide)) (Nat.le_of_ble_eq_true rfl) (js8_7 hl0) jw_116 dX8_personNamed_11 ?_
      refine jr_iload_n dX8_personNamed_14 2 rfl ?_
      refine jr_grd (fun g2 => ?_)
      refine jr_iaload (js8k_7 hl0) (jl_kdl (js8k_7 hl0) (by decide)) hl2 g2 dX8_personNamed_15 ?_
      refine jr_iload_n dX8_personNamed_16 1 rfl ?_
      refine jr_icmp_ne (t := 22) dX8_personNamed_17 (by decide) (jl_n3_to _) hl1 (fun c3 => ?_) (fun c3 => ?_)
      · refine jr_iload_n dX8_personNamed_20 2 rfl ?_
        exact jr_ret_i rfl hl2 dX8_personNamed_21
      · refine jr_iinc (j := 2) (lv := [(2, jl_vi (jl_add l2 1)), (0, jl_vr G l0), (1, jl_vi l1)]) dX8_personNamed_22 rfl (Nat.le_of_ble_eq_true rfl) rfl ?_
        refine jr_goto (t := 2) dX8_personNamed_25 (by decide) ?_
        refine jr_sub [1, 2, 0] rfl ?_
        exact ih l0 l1 (jl_add l2 1) hl0 hl1 (jl_n3_to _) s0
def jf_X8_personNamed (q0 : Nat) (v1 : Int) (s0 : jl_Mm) : jl_O :=
  if (jl_kd q0).1 = 8 then jf_X8_personNamed_L2 jl_fu q0 v1 (0 : Int) s0 else none
set_option maxRecDepth 20000 in
set_option maxHeartbeats 2000000 in
theorem jt_X8_personNamed (G : jl_GC) (q0 : Nat) (v1 : Int) (h1 : jl_n3 v1) (s0 : jl_Mm) : jC2 G jM_X8_personNamed [jl_vr G q0, jl_vi v1] s0 (jf_X8_personNamed q0 v1 s0) := by
  refine jl_met (plainFor_of_name rfl) (Nat.le_of_ble_eq_true rfl) ?_
  show j2 G jM_X8_personNamed 0 [(0, jl_vr G q0), (1, jl_vi v1)] [] s0 _
  refine jr_grd (fun gp0 => ?_)
  refine jr_iconst dX8_personNamed_0 ?_
  refine jr_istore_n (lv := [(2, jl_vi (0 : Int)), (0, jl_vr G q0), (1, jl_vi v1)]) dX8_personNamed_1 rfl (Nat.le_of_ble_eq_true rfl) rfl ?_
  refine jr_sub [1, 2, 0] rfl ?_
  exact jj_X8_personNamed_L2 G jl_fu q0 v1 (0 : Int) gp0 h1 (jl_nlit rfl) s0
def jf_X9_refuseKnown_B39 (s0 : jl_Mm) : jl_O :=
  some (0, s0)
set_option maxRecDepth 20000 in
set_option maxHeartbeats 2000000 in
theorem jj_X9_refuseKnown_B39 (G : jl_GC) (s0 : jl_Mm) : j2 G jM_X9_refuseKnown 39 [] [] s0 (jf_X9_refuseKnown_B39 s0) := by
  exact jr_ret_v rfl dX9_refuseKnown_39
def jf_X9_refuseKnown_B24 (s0 : jl_Mm) : jl_O :=
  jl_bd (jf_X4_fail (3 : Int) (jl_g s0 38 6) s0) fun r5 s6 => jf_X9_refuseKnown_B39 s6
set_option maxRecDepth 20000 in
set_option maxHeartbeats 2000000 in
theorem jj_X9_refuseKnown_B24 (G : jl_GC) (s0 : jl_Mm) : j2 G jM_X9_refuseKnown 24 [(0, jl_vr G 39)] [] s0 (jf_X9_refuseKnown_B24 s0) := by
  refine jr_aload_n dX9_refuseKnown_24 0 rfl ?_
  refine jr_getk (i := 0) jc_9 jk_39 (by decide) (Nat.le_of_ble_eq_true rfl) jlk_39_0 jw_224 dX9_refuseKnown_25 ?_
  refine jr_iconst dX9_refuseKnown_28 ?_
  refine jr_aload_n dX9_refuseKnown_29 0 rfl ?_
  refine jr_getk (i := 0) jc_9 jk_39 (by decide) (Nat.le_of_ble_eq_true rfl) jlk_39_0 jw_224 dX9_refuseKnown_30 ?_
  refine jr_getiN (i := 6) jc_4 jk_38 (by decide) (Nat.le_of_ble_eq_true rfl) jlk_38_6 jft_4_6 jw_194 dX9_refuseKnown_33 ?_
  refine j2_callVv (As := [jl_vi (3 : Int), jl_vi (jl_g s0 38 6)]) dX9_refuseKnown_36 (jt_X4_fail G (3 : Int) (jl_g s0 38 6) (jl_nlit rfl) (jl_n3_to _) s0) jv_X4_fail ⟨rfl, rfl, rfl⟩ jw_523 jk_38 (by decide) (by decide) rfl ⟨Nat.le_of_ble_eq_true rfl, Nat.le_of_ble_eq_true rfl⟩ rfl (Nat.le_of_ble_eq_true rfl) (fun r5 s6 hr5 => ?_)
  refine jr_sub [] rfl ?_
  exact jj_X9_refuseKnown_B39 G s6
def jf_X9_refuseKnown (v1 : Int) (s0 : jl_Mm) : jl_O :=
  if 0 ≤ s0 39 1 ∧ (jl_kd (jl_gr s0 39 1)).1 = 8 then jl_bd (jf_X8_personNamed (jl_gr s0 39 1) v1 s0) fun r2 s3 => if r2 = (-1 : Int) then (if 0 ≤ s3 39 1 ∧ (jl_kd (jl_gr s3 39 1)).1 = 8 then jl_bd (jf_X8_lieNamed (jl_gr s3 39 1) v1 s3) fun r8 s9 => if r8 = (-1 : Int) then (jf_X9_refuseKnown_B39 s9) else (jf_X9_refuseKnown_B24 s9) else none) else (jf_X9_refuseKnown_B24 s3) else none
set_option maxRecDepth 20000 in
set_option maxHeartbeats 2000000 in
theorem jt_X9_refuseKnown (G : jl_GC) (v1 : Int) (h1 : jl_n3 v1) (s0 : jl_Mm) : jC2 G jM_X9_refuseKnown [jl_vr G 39, jl_vi v1] s0 (jf_X9_refuseKnown v1 s0) := by
  refine jl_met (plainFor_of_name rfl) (Nat.le_of_ble_eq_true rfl) ?_
  show j2 G jM_X9_refuseKnown 0 [(0, jl_vr G 39), (1, jl_vi v1)] [] s0 _
  refine jr_aload_n dX9_refuseKnown_0 0 rfl ?_
  refine jr_grd (fun g1 => ?_)
  refine jr_getr (i := 1) jc_9 jk_39 (by decide) (Nat.le_of_ble_eq_true rfl) jlk_39_1 jft_9_1 g1.1 jw_225 dX9_refuseKnown_1 ?_
  refine jr_iload_n dX9_refuseKnown_4 1 rfl ?_
  refine j2_callVi (As := [jl_vi v1]) dX9_refuseKnown_5 (jt_X8_personNamed G (jl_gr s0 39 1) v1 h1 s0) jv_X8_personNamed ⟨rfl, rfl, rfl⟩ jw_632 (jl_kd1 g1.2) (by decide) (jl_kdlt g1.2 (by decide)) rfl ⟨Nat.le_of_ble_eq_true rfl, Nat.le_of_ble_eq_true rfl⟩ rfl (Nat.le_of_ble_eq_true rfl) (fun r2 s3 hr2 => ?_)
  refine jr_iconst dX9_refuseKnown_8 ?_
  refine jr_icmp_ne (t := 24) dX9_refuseKnown_9 (by decide) hr2 (jl_nlit rfl) (fun c4 => ?_) (fun c4 => ?_)
  · refine jr_aload_n dX9_refuseKnown_12 0 rfl ?_
    refine jr_grd (fun g7 => ?_)
    refine jr_getr (i := 1) jc_9 jk_39 (by decide) (Nat.le_of_ble_eq_true rfl) jlk_39_1 jft_9_1 g7.1 jw_225 dX9_refuseKnown_13 ?_
    refine jr_iload_n dX9_refuseKnown_16 1 rfl ?_
    refine j2_callVi (As := [jl_vi v1]) dX9_refuseKnown_17 (jt_X8_lieNamed G (jl_gr s3 39 1) v1 h1 s3) jv_X8_lieNamed ⟨rfl, rfl, rfl⟩ jw_636 (jl_kd1 g7.2) (by decide) (jl_kdlt g7.2 (by decide)) rfl ⟨Nat.le_of_ble_eq_true rfl, Nat.le_of_ble_eq_true rfl⟩ rfl (Nat.le_of_ble_eq_true rfl) (fun r8 s9 hr8 => ?_)
    refine jr_iconst dX9_refuseKnown_20 ?_
    refine jr_icmp_eq (t := 39) dX9_refuseKnown_21 (by decide) hr8 (jl_nlit rfl) (fun c10 => ?_) (fun c10 => ?_)
    · refine jr_sub [] rfl ?_
      exact jj_X9_refuseKnown_B39 G s9
    · refine jr_sub [0] rfl ?_
      exact jj_X9_refuseKnown_B24 G s9
  · refine jr_sub [0] rfl ?_
    exact jj_X9_refuseKnown_B24 G s3
def jf_X9_readLie (s0 : jl_Mm) : jl_O :=
  jl_bd (jf_X4_takeName s0) fun r1 s2 => jl_bd (jf_X9_refuseKnown r1 s2) fun r3 s4 => jl_bd (jf_X4_expectWord (5 : Int) s4) fun r5 s6 => if 0 ≤ s6 39 1 ∧ (jl_kd (jl_gr s6 39 1)).1 = 8 then jl_bd (jf_X4_takeName s6) fun r8 s9 => jl_bd (jf_X8_personNamed (jl_gr s6 39 1) r8 s9) fun r10 s11 => jl_bd (jf_X9_refuseNone r10 s11) fun r12 s13 => if 0 ≤ s13 39 1 ∧ (jl_kd (jl_gr s13 39 1)).1 = 8 then jl_bd (jf_X8_addLie (jl_gr s13 39 1) r1 r10 s13) fun r15 s16 => some (0, s16) else none else none
set_option maxRecDepth 20000 in
set_option maxHeartbeats 2000000 in
theorem jt_X9_readLie (G : jl_GC) (s0 : jl_Mm) : jC2 G jM_X9_readLie [jl_vr G 39] s0 (jf_X9_readLie s0) := by
  refine jl_met (plainFor_of_name rfl) (Nat.le_of_ble_eq_true rfl) ?_
  show j2 G jM_X9_readLie 0 [(0, jl_vr G 39)] [] s0 _
  refine jr_aload_n dX9_readLie_0 0 rfl ?_
  refine jr_getk (i := 0) jc_9 jk_39 (by decide) (Nat.le_of_ble_eq_true rfl) jlk_39_0 jw_224 dX9_readLie_1 ?_
  refine j2_callVi (As := []) dX9_readLie_4 (jt_X4_takeName G s0) jv_X4_takeName ⟨rfl, rfl, rfl⟩ jw_623 jk_38 (by decide) (by decide) rfl ⟨Nat.le_of_ble_eq_true rfl, Nat.le_of_ble_eq_true rfl⟩ rfl (Nat.le_of_ble_eq_true rfl) (fun r1 s2 hr1 => ?_)
  refine jr_istore_n (lv := [(1, jl_vi r1), (0, jl_vr G 39)]) dX9_readLie_7 rfl (Nat.le_of_ble_eq_true rfl) rfl ?_
  refine jr_aload_n dX9_readLie_8 1 rfl ?_
  refine jr_iload_n dX9_readLie_9 0 rfl ?_
  refine j2_callVv (As := [jl_vi r1]) dX9_readLie_10 (jt_X9_refuseKnown G r1 hr1 s2) jv_X9_refuseKnown ⟨rfl, rfl, rfl⟩ jw_628 jk_39 (by decide) (by decide) rfl ⟨Nat.le_of_ble_eq_true rfl, Nat.le_of_ble_eq_true rfl⟩ rfl (Nat.le_of_ble_eq_true rfl) (fun r3 s4 hr3 => ?_)
  refine jr_aload_n dX9_readLie_13 1 rfl ?_
  refine jr_getk (i := 0) jc_9 jk_39 (by decide) (Nat.le_of_ble_eq_true rfl) jlk_39_0 jw_224 dX9_readLie_14 ?_
  refine jr_iconst dX9_readLie_17 ?_
  refine j2_callVv (As := [jl_vi (5 : Int)]) dX9_readLie_18 (jt_X4_expectWord G (5 : Int) (jl_nlit rfl) s4) jv_X4_expectWord ⟨rfl, rfl, rfl⟩ jw_640 jk_38 (by decide) (by decide) rfl ⟨Nat.le_of_ble_eq_true rfl, Nat.le_of_ble_eq_true rfl⟩ rfl (Nat.le_of_ble_eq_true rfl) (fun r5 s6 hr5 => ?_)
  refine jr_aload_n dX9_readLie_21 1 rfl ?_
  refine jr_grd (fun g7 => ?_)
  refine jr_getr (i := 1) jc_9 jk_39 (by decide) (Nat.le_of_ble_eq_true rfl) jlk_39_1 jft_9_1 g7.1 jw_225 dX9_readLie_22 ?_
  refine jr_aload_n dX9_readLie_25 1 rfl ?_
  refine jr_getk (i := 0) jc_9 jk_39 (by decide) (Nat.le_of_ble_eq_true rfl) jlk_39_0 jw_224 dX9_readLie_26 ?_
  refine j2_callVi (As := []) dX9_readLie_29 (jt_X4_takeName G s6) jv_X4_takeName ⟨rfl, rfl, rfl⟩ jw_623 jk_38 (by decide) (by decide) rfl ⟨Nat.le_of_ble_eq_true rfl, Nat.le_of_ble_eq_true rfl⟩ rfl (Nat.le_of_ble_eq_true rfl) (fun r8 s9 hr8 => ?_)
  refine j2_callVi (As := [jl_vi r8]) dX9_readLie_32 (jt_X8_personNamed G (jl_gr s6 39 1) r8 hr8 s9) jv_X8_personNamed ⟨rfl, rfl, rfl⟩ jw_632 (jl_kd1 g7.2) (by decide) (jl_kdlt g7.2 (by decide)) rfl ⟨Nat.le_of_ble_eq_true rfl, Nat.le_of_ble_eq_true rfl⟩ rfl (Nat.le_of_ble_eq_true rfl) (fun r10 s11 hr10 => ?_)
  refine jr_istore_n (lv := [(2, jl_vi r10), (1, jl_vi r1), (0, jl_vr G 39)]) dX9_readLie_35 rfl (Nat.le_of_ble_eq_true rfl) rfl ?_
  refine jr_aload_n dX9_readLie_36 2 rfl ?_
  refine jr_iload_n dX9_readLie_37 0 rfl ?_
  refine j2_callVv (As := [jl_vi r10]) dX9_readLie_38 (jt_X9_refuseNone G r10 hr10 s11) jv_X9_refuseNone ⟨rfl, rfl, rfl⟩ jw_652 jk_39 (by decide) (by decide) rfl ⟨Nat.le_of_ble_eq_true rfl, Nat.le_of_ble_eq_true rfl⟩ rfl (Nat.le_of_ble_eq_true rfl) (fun r12 s13 hr12 => ?_)
  refine jr_aload_n dX9_readLie_41 2 rfl ?_
  refine jr_grd (fun g14 => ?_)
  refine jr_getr (i := 1) jc_9 jk_39 (by decide) (Nat.le_of_ble_eq_true rfl) jlk_39_1 jft_9_1 g14.1 jw_225 dX9_readLie_42 ?_
  refine jr_iload_n dX9_readLie_45 1 rfl ?_
  refine jr_iload_n dX9_readLie_46 0 rfl ?_
  refine j2_callVv (As := [jl_vi r1, jl_vi r10]) dX9_readLie_47 (jt_X8_addLie G (jl_gr s13 39 1) r1 r10 hr1 hr10 s13) jv_X8_addLie ⟨rfl, rfl, rfl⟩ jw_656 (jl_kd1 g14.2) (by decide) (jl_kdlt g14.2 (by decide)) rfl ⟨Nat.le_of_ble_eq_true rfl, Nat.le_of_ble_eq_true rfl⟩ rfl (Nat.le_of_ble_eq_true rfl) (fun r15 s16 hr15 => ?_)
  exact jr_ret_v rfl dX9_readLie_50
def jf_X8_addRow_B53 (s0 : jl_Mm) : jl_O :=
  some (0, s0)
set_option maxRecDepth 20000 in
set_option maxHeartbeats 2000000 in
theorem jj_X8_addRow_B53 (G : jl_GC) (s0 : jl_Mm) : j2 G jM_X8_addRow 53 [] [] s0 (jf_X8_addRow_B53 s0) := by
  exact jr_ret_v rfl dX8_addRow_53
def jf_X8_addRow (q0 : Nat) (v1 : Int) (v2 : Int) (v3 : Int) (s0 : jl_Mm) : jl_O :=
  if (jl_kd q0).1 = 8 then if v1 < (0 : Int) then (jf_X8_addRow_B53 s0) else (if (16 : Int) ≤ jl_g s0 q0 4 then (jf_X8_addRow_B53 s0) else (if 0 ≤ jl_g s0 q0 4 ∧ jl_g s0 q0 4 < ((16 : Nat) : Int) then jl_lm (jl_up s0 (q0 + 7) (jl_g s0 q0 4).toNat v1) fun s4 => if 0 ≤ jl_g s4 q0 4 ∧ jl_g s4 q0 4 < ((16 : Nat) : Int) then jl_lm (jl_up s4 (q0 + 8) (jl_g s4 q0 4).toNat v2) fun s6 => if 0 ≤ jl_g s6 q0 4 ∧ jl_g s6 q0 4 < ((16 : Nat) : Int) then jl_lm (jl_up s6 (q0 + 9) (jl_g s6 q0 4).toNat v3) fun s8 => jl_lm (jl_up s8 q0 4 (jl_add (jl_g s8 q0 4) (1 : Int))) fun s9 => jf_X8_addRow_B53 s9 else none else none else none)) else none
set_option maxRecDepth 20000 in
set_option maxHeartbeats 2000000 in
theorem jt_X8_addRow (G : jl_GC) (q0 : Nat) (v1 : Int) (v2 : Int) (v3 : Int) (h1 : jl_n3 v1) (h2 : jl_n3 v2) (h3 : jl_n3 v3) (s0 : jl_Mm) : jC2 G jM_X8_addRow [jl_vr G q0, jl_vi v1, jl_vi v2, jl_vi v3] s0 (jf_X8_addRow q0 v1 v2 v3 s0) := by
  refine jl_met (plainFor_of_name rfl) (Nat.le_of_ble_eq_true rfl) ?_
  show j2 G jM_X8_addRow 0 [(0, jl_vr G q0), (1, jl_vi v1), (2, jl_vi v2), (3, jl_vi v3)] [] s0 _
  refine jr_grd (fun gp0 => ?_)
  refine jr_iload_n dX8_addRow_0 1 rfl ?_
  refine jr_if_lt (t := 53) dX8_addRow_1 (by decide) h1 (fun c1 => ?_) (fun c1 => ?_)
  · refine jr_sub [] rfl ?_
    exact jj_X8_addRow_B53 G s0
  · refine jr_aload_n dX8_addRow_4 0 rfl ?_
    refine jr_geti (i := 4) jc_8 (jl_kd1 gp0) (jl_kdlt gp0 (by decide)) (Nat.le_of_ble_eq_true rfl) (js8n_4 gp0) jft_8_4 jw_105 dX8_addRow_5 ?_
    refine jr_bipush dX8_addRow_8 (by decide) ?_
    refine jr_icmp_ge (t := 53) dX8_addRow_10 (by decide) (jl_n3_to _) (jl_nlit rfl) (fun c2 => ?_) (fun c2 => ?_)
    · refine jr_sub [] rfl ?_
      exact jj_X8_addRow_B53 G s0
    · refine jr_aload_n dX8_addRow_13 0 rfl ?_
      refine jr_getk (i := 13) jc_8 (jl_kd1 gp0) (jl_kdlt gp0 (by decide)) (Nat.le_of_ble_eq_true rfl) (js8_13 gp0) jw_132 dX8_addRow_14 ?_
      refine jr_aload_n dX8_addRow_17 0 rfl ?_
      refine jr_geti (i := 4) jc_8 (jl_kd1 gp0) (jl_kdlt gp0 (by decide)) (Nat.le_of_ble_eq_true rfl) (js8n_4 gp0) jft_8_4 jw_105 dX8_addRow_18 ?_
      refine jr_iload_n dX8_addRow_21 1 rfl ?_
      refine jr_grd (fun g3 => ?_)
      refine jr_iastore (js8k_13 gp0) (jl_kdl (js8k_13 gp0) (by decide)) (jl_n3_to _) g3 dX8_addRow_22 ?_
      refine jr_lm (fun s4 => ?_)
      refine jr_aload_n dX8_addRow_23 0 rfl ?_
      refine jr_getk (i := 14) jc_8 (jl_kd1 gp0) (jl_kdlt gp0 (by decide)) (Nat.le_of_ble_eq_true rfl) (js8_14 gp0) jw_135 dX8_addRow_24 ?_
      refine jr_aload_n dX8_addRow_27 0 rfl ?_
      refine jr_geti (i := 4) jc_8 (jl_kd1 gp0) (jl_kdlt gp0 (by decide)) (Nat.le_of_ble_eq_true rfl) (js8n_4 gp0) jft_8_4 jw_105 dX8_addRow_28 ?_
      refine jr_iload_n dX8_addRow_31 2 rfl ?_
      refine jr_grd (fun g5 => ?_)
      refine jr_iastore (js8k_14 gp0) (jl_kdl (js8k_14 gp0) (by decide)) (jl_n3_to _) g5 dX8_addRow_32 ?_
      refine jr_lm (fun s6 => ?_)
      refine jr_aload_n dX8_addRow_33 0 rfl ?_
      refine jr_getk (i := 15) jc_8 (jl_kd1 gp0) (jl_kdlt gp0 (by decide)) (Nat.le_of_ble_eq_true rfl) (js8_15 gp0) jw_138 dX8_addRow_34 ?_
      refine jr_aload_n dX8_addRow_37 0 rfl ?_
      refine jr_geti (i := 4) jc_8 (jl_kd1 gp0) (jl_kdlt gp0 (by decide)) (Nat.le_of_ble_eq_true rfl) (js8n_4 gp0) jft_8_4 jw_105 dX8_addRow_38 ?_
      refine jr_iload_n dX8_addRow_41 3 rfl ?_
      refine jr_grd (fun g7 => ?_)
      refine jr_iastore (js8k_15 gp0) (jl_kdl (js8k_15 gp0) (by decide)) (jl_n3_to _) g7 dX8_addRow_42 ?_
      refine jr_lm (fun s8 => ?_)
      refine jr_aload_n dX8_addRow_43 0 rfl ?_
      refine jr_dup dX8_addRow_44 rfl ?_
      refine jr_geti (i := 4) jc_8 (jl_kd1 gp0) (jl_kdlt gp0 (by decide)) (Nat.le_of_ble_eq_true rfl) (js8n_4 gp0) jft_8_4 jw_105 dX8_addRow_45 ?_
      refine jr_iconst dX8_addRow_48 ?_
      refine jr_iadd dX8_addRow_49 ?_
      refine jr_puti (i := 4) jc_8 (jl_kd1 gp0) (jl_kdlt gp0 (by decide)) (Nat.le_of_ble_eq_true rfl) (js8n_4 gp0) jft_8_4 rfl jw_105 rfl dX8_addRow_50 ?_
      refine jr_lm (fun s9 => ?_)
      refine jr_sub [] rfl ?_
      exact jj_X8_addRow_B53 G s9
def jf_X9_readLight (s0 : jl_Mm) : jl_O :=
  if 0 ≤ s0 39 1 ∧ (jl_kd (jl_gr s0 39 1)).1 = 8 then jl_bd (jf_X4_takeName s0) fun r2 s3 => jl_bd (jf_X8_lieNamed (jl_gr s0 39 1) r2 s3) fun r4 s5 => jl_bd (jf_X9_refuseNone r4 s5) fun r6 s7 => jl_bd (jf_X4_expectWord (2 : Int) s7) fun r8 s9 => jl_bd (jf_X4_takeNumber (0 : Int) (999 : Int) s9) fun r10 s11 => jl_bd (jf_X4_expectWord (9 : Int) s11) fun r12 s13 => jl_bd (jf_X4_takeNumber (1 : Int) (99 : Int) s13) fun r14 s15 => if 0 ≤ s15 39 1 ∧ (jl_kd (jl_gr s15 39 1)).1 = 8 then jl_bd (jf_X8_addRow (jl_gr s15 39 1) r4 r10 r14 s15) fun r17 s18 => some (0, s18) else none else none
set_option maxRecDepth 20000 in
set_option maxHeartbeats 2000000 in
theorem jt_X9_readLight (G : jl_GC) (s0 : jl_Mm) : jC2 G jM_X9_readLight [jl_vr G 39] s0 (jf_X9_readLight s0) := by
  refine jl_met (plainFor_of_name rfl) (Nat.le_of_ble_eq_true rfl) ?_
  show j2 G jM_X9_readLight 0 [(0, jl_vr G 39)] [] s0 _
  refine jr_aload_n dX9_readLight_0 0 rfl ?_
  refine jr_grd (fun g1 => ?_)
  refine jr_getr (i := 1) jc_9 jk_39 (by decide) (Nat.le_of_ble_eq_true rfl) jlk_39_1 jft_9_1 g1.1 jw_225 dX9_readLight_1 ?_
  refine jr_aload_n dX9_readLight_4 0 rfl ?_
  refine jr_getk (i := 0) jc_9 jk_39 (by decide) (Nat.le_of_ble_eq_true rfl) jlk_39_0 jw_224 dX9_readLight_5 ?_
  refine j2_callVi (As := []) dX9_readLight_8 (jt_X4_takeName G s0) jv_X4_takeName ⟨rfl, rfl, rfl⟩ jw_623 jk_38 (by decide) (by decide) rfl ⟨Nat.le_of_ble_eq_true rfl, Nat.le_of_ble_eq_true rfl⟩ rfl (Nat.le_of_ble_eq_true rfl) (fun r2 s3 hr2 => ?_)
  refine j2_callVi (As := [jl_vi r2]) dX9_readLight_11 (jt_X8_lieNamed G (jl_gr s0 39 1) r2 hr2 s3) jv_X8_lieNamed ⟨rfl, rfl, rfl⟩ jw_636 (jl_kd1 g1.2) (by decide) (jl_kdlt g1.2 (by decide)) rfl ⟨Nat.le_of_ble_eq_true rfl, Nat.le_of_ble_eq_true rfl⟩ rfl (Nat.le_of_ble_eq_true rfl) (fun r4 s5 hr4 => ?_)
  refine jr_istore_n (lv := [(1, jl_vi r4), (0, jl_vr G 39)]) dX9_readLight_14 rfl (Nat.le_of_ble_eq_true rfl) rfl ?_
  refine jr_aload_n dX9_readLight_15 1 rfl ?_
  refine jr_iload_n dX9_readLight_16 0 rfl ?_
  refine j2_callVv (As := [jl_vi r4]) dX9_readLight_17 (jt_X9_refuseNone G r4 hr4 s5) jv_X9_refuseNone ⟨rfl, rfl, rfl⟩ jw_652 jk_39 (by decide) (by decide) rfl ⟨Nat.le_of_ble_eq_true rfl, Nat.le_of_ble_eq_true rfl⟩ rfl (Nat.le_of_ble_eq_true rfl) (fun r6 s7 hr6 => ?_)
  refine jr_aload_n dX9_readLight_20 1 rfl ?_
  refine jr_getk (i := 0) jc_9 jk_39 (by decide) (Nat.le_of_ble_eq_true rfl) jlk_39_0 jw_224 dX9_readLight_21 ?_
  refine jr_iconst dX9_readLight_24 ?_
  refine j2_callVv (As := [jl_vi (2 : Int)]) dX9_readLight_25 (jt_X4_expectWord G (2 : Int) (jl_nlit rfl) s7) jv_X4_expectWord ⟨rfl, rfl, rfl⟩ jw_640 jk_38 (by decide) (by decide) rfl ⟨Nat.le_of_ble_eq_true rfl, Nat.le_of_ble_eq_true rfl⟩ rfl (Nat.le_of_ble_eq_true rfl) (fun r8 s9 hr8 => ?_)
  refine jr_aload_n dX9_readLight_28 1 rfl ?_
  refine jr_getk (i := 0) jc_9 jk_39 (by decide) (Nat.le_of_ble_eq_true rfl) jlk_39_0 jw_224 dX9_readLight_29 ?_
  refine jr_iconst dX9_readLight_32 ?_
  refine jr_sipush dX9_readLight_33 (by decide) ?_
  refine j2_callVi (As := [jl_vi (0 : Int), jl_vi (999 : Int)]) dX9_readLight_36 (jt_X4_takeNumber G (0 : Int) (999 : Int) (jl_nlit rfl) (jl_nlit rfl) s9) jv_X4_takeNumber ⟨rfl, rfl, rfl⟩ jw_611 jk_38 (by decide) (by decide) rfl ⟨Nat.le_of_ble_eq_true rfl, Nat.le_of_ble_eq_true rfl⟩ rfl (Nat.le_of_ble_eq_true rfl) (fun r10 s11 hr10 => ?_)
  refine jr_istore_n (lv := [(2, jl_vi r10), (1, jl_vi r4), (0, jl_vr G 39)]) dX9_readLight_39 rfl (Nat.le_of_ble_eq_true rfl) rfl ?_
  refine jr_aload_n dX9_readLight_40 2 rfl ?_
  refine jr_getk (i := 0) jc_9 jk_39 (by decide) (Nat.le_of_ble_eq_true rfl) jlk_39_0 jw_224 dX9_readLight_41 ?_
  refine jr_bipush dX9_readLight_44 (by decide) ?_
  refine j2_callVv (As := [jl_vi (9 : Int)]) dX9_readLight_46 (jt_X4_expectWord G (9 : Int) (jl_nlit rfl) s11) jv_X4_expectWord ⟨rfl, rfl, rfl⟩ jw_640 jk_38 (by decide) (by decide) rfl ⟨Nat.le_of_ble_eq_true rfl, Nat.le_of_ble_eq_true rfl⟩ rfl (Nat.le_of_ble_eq_true rfl) (fun r12 s13 hr12 => ?_)
  refine jr_aload_n dX9_readLight_49 2 rfl ?_
  refine jr_getk (i := 0) jc_9 jk_39 (by decide) (Nat.le_of_ble_eq_true rfl) jlk_39_0 jw_224 dX9_readLight_50 ?_
  refine jr_iconst dX9_readLight_53 ?_
  refine jr_bipush dX9_readLight_54 (by decide) ?_
  refine j2_callVi (As := [jl_vi (1 : Int), jl_vi (99 : Int)]) dX9_readLight_56 (jt_X4_takeNumber G (1 : Int) (99 : Int) (jl_nlit rfl) (jl_nlit rfl) s13) jv_X4_takeNumber ⟨rfl, rfl, rfl⟩ jw_611 jk_38 (by decide) (by decide) rfl ⟨Nat.le_of_ble_eq_true rfl, Nat.le_of_ble_eq_true rfl⟩ rfl (Nat.le_of_ble_eq_true rfl) (fun r14 s15 hr14 => ?_)
  refine jr_istore_n (lv := [(3, jl_vi r14), (2, jl_vi r10), (1, jl_vi r4), (0, jl_vr G 39)]) dX9_readLight_59 rfl (Nat.le_of_ble_eq_true rfl) rfl ?_
  refine jr_aload_n dX9_readLight_60 3 rfl ?_
  refine jr_grd (fun g16 => ?_)
  refine jr_getr (i := 1) jc_9 jk_39 (by decide) (Nat.le_of_ble_eq_true rfl) jlk_39_1 jft_9_1 g16.1 jw_225 dX9_readLight_61 ?_
  refine jr_iload_n dX9_readLight_64 2 rfl ?_
  refine jr_iload_n dX9_readLight_65 1 rfl ?_
  refine jr_iload_n dX9_readLight_66 0 rfl ?_
  refine j2_callVv (As := [jl_vi r4, jl_vi r10, jl_vi r14]) dX9_readLight_67 (jt_X8_addRow G (jl_gr s15 39 1) r4 r10 r14 hr4 hr10 hr14 s15) jv_X8_addRow ⟨rfl, rfl, rfl⟩ jw_668 (jl_kd1 g16.2) (by decide) (jl_kdlt g16.2 (by decide)) rfl ⟨Nat.le_of_ble_eq_true rfl, Nat.le_of_ble_eq_true rfl⟩ rfl (Nat.le_of_ble_eq_true rfl) (fun r17 s18 hr17 => ?_)
  exact jr_ret_v rfl dX9_readLight_70
def jf_X8_addPerson_B49 (s0 : jl_Mm) : jl_O :=
  some (0, s0)
set_option maxRecDepth 20000 in
set_option maxHeartbeats 2000000 in
theorem jj_X8_addPerson_B49 (G : jl_GC) (s0 : jl_Mm) : j2 G jM_X8_addPerson 49 [] [] s0 (jf_X8_addPerson_B49 s0) := by
  exact jr_ret_v rfl dX8_addPerson_49
def jf_X8_addPerson (q0 : Nat) (v1 : Int) (v2 : Int) (v3 : Int) (s0 : jl_Mm) : jl_O :=
  if (jl_kd q0).1 = 8 then if (6 : Int) ≤ jl_g s0 q0 2 then (jf_X8_addPerson_B49 s0) else (if 0 ≤ jl_g s0 q0 2 ∧ jl_g s0 q0 2 < ((6 : Nat) : Int) then jl_lm (jl_up s0 (q0 + 1) (jl_g s0 q0 2).toNat v1) fun s3 => if 0 ≤ jl_g s3 q0 2 ∧ jl_g s3 q0 2 < ((6 : Nat) : Int) then jl_lm (jl_up s3 (q0 + 2) (jl_g s3 q0 2).toNat v2) fun s5 => if 0 ≤ jl_g s5 q0 2 ∧ jl_g s5 q0 2 < ((6 : Nat) : Int) then jl_lm (jl_up s5 (q0 + 3) (jl_g s5 q0 2).toNat v3) fun s7 => jl_lm (jl_up s7 q0 2 (jl_add (jl_g s7 q0 2) (1 : Int))) fun s8 => jf_X8_addPerson_B49 s8 else none else none else none) else none
set_option maxRecDepth 20000 in
set_option maxHeartbeats 2000000 in
theorem jt_X8_addPerson (G : jl_GC) (q0 : Nat) (v1 : Int) (v2 : Int) (v3 : Int) (h1 : jl_n3 v1) (h2 : jl_n3 v2) (h3 : jl_n3 v3) (s0 : jl_Mm) : jC2 G jM_X8_addPerson [jl_vr G q0, jl_vi v1, jl_vi v2, jl_vi v3] s0 (jf_X8_addPerson q0 v1 v2 v3 s0) := by
  refine jl_met (plainFor_of_name rfl) (Nat.le_of_ble_eq_true rfl) ?_
  show j2 G jM_X8_addPerson 0 [(0, jl_vr G q0), (1, jl_vi v1), (2, jl_vi v2), (3, jl_vi v3)] [] s0 _
  refine jr_grd (fun gp0 => ?_)
  refine jr_aload_n dX8_addPerson_0 0 rfl ?_
  refine jr_geti (i := 2) jc_8 (jl_kd1 gp0) (jl_kdlt gp0 (by decide)) (Nat.le_of_ble_eq_true rfl) (js8n_2 gp0) jft_8_2 jw_94 dX8_addPerson_1 ?_
  refine jr_bipush dX8_addPerson_4 (by decide) ?_
  refine jr_icmp_ge (t := 49) dX8_addPerson_6 (by decide) (jl_n3_to _) (jl_nlit rfl) (fun c1 => ?_) (fun c1 => ?_)
  · refine jr_sub [] rfl ?_
    exact jj_X8_addPerson_B49 G s0
  · refine jr_aload_n dX8_addPerson_9 0 rfl ?_
    refine jr_getk (i := 7) jc_8 (jl_kd1 gp0) (jl_kdlt gp0 (by decide)) (Nat.le_of_ble_eq_true rfl) (js8_7 gp0) jw_116 dX8_addPerson_10 ?_
    refine jr_aload_n dX8_addPerson_13 0 rfl ?_
    refine jr_geti (i := 2) jc_8 (jl_kd1 gp0) (jl_kdlt gp0 (by decide)) (Nat.le_of_ble_eq_true rfl) (js8n_2 gp0) jft_8_2 jw_94 dX8_addPerson_14 ?_
    refine jr_iload_n dX8_addPerson_17 1 rfl ?_
    refine jr_grd (fun g2 => ?_)
    refine jr_iastore (js8k_7 gp0) (jl_kdl (js8k_7 gp0) (by decide)) (jl_n3_to _) g2 dX8_addPerson_18 ?_
    refine jr_lm (fun s3 => ?_)
    refine jr_aload_n dX8_addPerson_19 0 rfl ?_
    refine jr_getk (i := 8) jc_8 (jl_kd1 gp0) (jl_kdlt gp0 (by decide)) (Nat.le_of_ble_eq_true rfl) (js8_8 gp0) jw_118 dX8_addPerson_20 ?_
    refine jr_aload_n dX8_addPerson_23 0 rfl ?_
    refine jr_geti (i := 2) jc_8 (jl_kd1 gp0) (jl_kdlt gp0 (by decide)) (Nat.le_of_ble_eq_true rfl) (js8n_2 gp0) jft_8_2 jw_94 dX8_addPerson_24 ?_
    refine jr_iload_n dX8_addPerson_27 2 rfl ?_
    refine jr_grd (fun g4 => ?_)
    refine jr_iastore (js8k_8 gp0) (jl_kdl (js8k_8 gp0) (by decide)) (jl_n3_to _) g4 dX8_addPerson_28 ?_
    refine jr_lm (fun s5 => ?_)
    refine jr_aload_n dX8_addPerson_29 0 rfl ?_
    refine jr_getk (i := 9) jc_8 (jl_kd1 gp0) (jl_kdlt gp0 (by decide)) (Nat.le_of_ble_eq_true rfl) (js8_9 gp0) jw_120 dX8_addPerson_30 ?_
    refine jr_aload_n dX8_addPerson_33 0 rfl ?_
    refine jr_geti (i := 2) jc_8 (jl_kd1 gp0) (jl_kdlt gp0 (by decide)) (Nat.le_of_ble_eq_true rfl) (js8n_2 gp0) jft_8_2 jw_94 dX8_addPerson_34 ?_
    refine jr_iload_n dX8_addPerson_37 3 rfl ?_
    refine jr_grd (fun g6 => ?_)
    refine jr_iastore (js8k_9 gp0) (jl_kdl (js8k_9 gp0) (by decide)) (jl_n3_to _) g6 dX8_addPerson_38 ?_
    refine jr_lm (fun s7 => ?_)
    refine jr_aload_n dX8_addPerson_39 0 rfl ?_
    refine jr_dup dX8_addPerson_40 rfl ?_
    refine jr_geti (i := 2) jc_8 (jl_kd1 gp0) (jl_kdlt gp0 (by decide)) (Nat.le_of_ble_eq_true rfl) (js8n_2 gp0) jft_8_2 jw_94 dX8_addPerson_41 ?_
    refine jr_iconst dX8_addPerson_44 ?_
    refine jr_iadd dX8_addPerson_45 ?_
    refine jr_puti (i := 2) jc_8 (jl_kd1 gp0) (jl_kdlt gp0 (by decide)) (Nat.le_of_ble_eq_true rfl) (js8n_2 gp0) jft_8_2 rfl jw_94 rfl dX8_addPerson_46 ?_
    refine jr_lm (fun s8 => ?_)
    refine jr_sub [] rfl ?_
    exact jj_X8_addPerson_B49 G s8
def jf_X9_readPerson (s0 : jl_Mm) : jl_O :=
  jl_bd (jf_X4_takeName s0) fun r1 s2 => jl_bd (jf_X9_refuseKnown r1 s2) fun r3 s4 => jl_bd (jf_X4_expectWord (2 : Int) s4) fun r5 s6 => if 0 ≤ s6 39 1 ∧ (jl_kd (jl_gr s6 39 1)).1 = 8 then jl_bd (jf_X4_takeNumber (0 : Int) (jl_sub (jl_g s6 (jl_gr s6 39 1) 1) (1 : Int)) s6) fun r8 s9 => jl_bd (jf_X4_expectWord (3 : Int) s9) fun r10 s11 => jl_bd (jf_X4_takeNumber (0 : Int) (9 : Int) s11) fun r12 s13 => if 0 ≤ s13 39 1 ∧ (jl_kd (jl_gr s13 39 1)).1 = 8 then jl_bd (jf_X8_addPerson (jl_gr s13 39 1) r1 r8 r12 s13) fun r15 s16 => some (0, s16) else none else none
set_option maxRecDepth 20000 in
set_option maxHeartbeats 2000000 in
theorem jt_X9_readPerson (G : jl_GC) (s0 : jl_Mm) : jC2 G jM_X9_readPerson [jl_vr G 39] s0 (jf_X9_readPerson s0) := by
  refine jl_met (plainFor_of_name rfl) (Nat.le_of_ble_eq_true rfl) ?_
  show j2 G jM_X9_readPerson 0 [(0, jl_vr G 39)] [] s0 _
  refine jr_aload_n dX9_readPerson_0 0 rfl ?_
  refine jr_getk (i := 0) jc_9 jk_39 (by decide) (Nat.le_of_ble_eq_true rfl) jlk_39_0 jw_224 dX9_readPerson_1 ?_
  refine j2_callVi (As := []) dX9_readPerson_4 (jt_X4_takeName G s0) jv_X4_takeName ⟨rfl, rfl, rfl⟩ jw_623 jk_38 (by decide) (by decide) rfl ⟨Nat.le_of_ble_eq_true rfl, Nat.le_of_ble_eq_true rfl⟩ rfl (Nat.le_of_ble_eq_true rfl) (fun r1 s2 hr1 => ?_)
  refine jr_istore_n (lv := [(1, jl_vi r1), (0, jl_vr G 39)]) dX9_readPerson_7 rfl (Nat.le_of_ble_eq_true rfl) rfl ?_
  refine jr_aload_n dX9_readPerson_8 1 rfl ?_
  refine jr_iload_n dX9_readPerson_9 0 rfl ?_
  refine j2_callVv (As := [jl_vi r1]) dX9_readPerson_10 (jt_X9_refuseKnown G r1 hr1 s2) jv_X9_refuseKnown ⟨rfl, rfl, rfl⟩ jw_628 jk_39 (by decide) (by decide) rfl ⟨Nat.le_of_ble_eq_true rfl, Nat.le_of_ble_eq_true rfl⟩ rfl (Nat.le_of_ble_eq_true rfl) (fun r3 s4 hr3 => ?_)
  refine jr_aload_n dX9_readPerson_13 1 rfl ?_
  refine jr_getk (i := 0) jc_9 jk_39 (by decide) (Nat.le_of_ble_eq_true rfl) jlk_39_0 jw_224 dX9_readPerson_14 ?_
  refine jr_iconst dX9_readPerson_17 ?_
  refine j2_callVv (As := [jl_vi (2 : Int)]) dX9_readPerson_18 (jt_X4_expectWord G (2 : Int) (jl_nlit rfl) s4) jv_X4_expectWord ⟨rfl, rfl, rfl⟩ jw_640 jk_38 (by decide) (by decide) rfl ⟨Nat.le_of_ble_eq_true rfl, Nat.le_of_ble_eq_true rfl⟩ rfl (Nat.le_of_ble_eq_true rfl) (fun r5 s6 hr5 => ?_)
  refine jr_aload_n dX9_readPerson_21 1 rfl ?_
  refine jr_getk (i := 0) jc_9 jk_39 (by decide) (Nat.le_of_ble_eq_true rfl) jlk_39_0 jw_224 dX9_readPerson_22 ?_
  refine jr_iconst dX9_readPerson_25 ?_
  refine jr_aload_n dX9_readPerson_26 1 rfl ?_
  refine jr_grd (fun g7 => ?_)
  refine jr_getr (i := 1) jc_9 jk_39 (by decide) (Nat.le_of_ble_eq_true rfl) jlk_39_1 jft_9_1 g7.1 jw_225 dX9_readPerson_27 ?_
  refine jr_getiN (i := 1) jc_8 (jl_kd1 g7.2) (jl_kdlt g7.2 (by decide)) (Nat.le_of_ble_eq_true rfl) (js8n_1 g7.2) jft_8_1 jw_89 dX9_readPerson_30 ?_
  refine jr_iconst dX9_readPerson_33 ?_
  refine jr_isub dX9_readPerson_34 ?_
  refine j2_callVi (As := [jl_vi (0 : Int), jl_vi (jl_sub (jl_g s6 (jl_gr s6 39 1) 1) (1 : Int))]) dX9_readPerson_35 (jt_X4_takeNumber G (0 : Int) (jl_sub (jl_g s6 (jl_gr s6 39 1) 1) (1 : Int)) (jl_nlit rfl) (jl_n3_to _) s6) jv_X4_takeNumber ⟨rfl, rfl, rfl⟩ jw_611 jk_38 (by decide) (by decide) rfl ⟨Nat.le_of_ble_eq_true rfl, Nat.le_of_ble_eq_true rfl⟩ rfl (Nat.le_of_ble_eq_true rfl) (fun r8 s9 hr8 => ?_)
  refine jr_istore_n (lv := [(2, jl_vi r8), (1, jl_vi r1), (0, jl_vr G 39)]) dX9_readPerson_38 rfl (Nat.le_of_ble_eq_true rfl) rfl ?_
  refine jr_aload_n dX9_readPerson_39 2 rfl ?_
  refine jr_getk (i := 0) jc_9 jk_39 (by decide) (Nat.le_of_ble_eq_true rfl) jlk_39_0 jw_224 dX9_readPerson_40 ?_
  refine jr_iconst dX9_readPerson_43 ?_
  refine j2_callVv (As := [jl_vi (3 : Int)]) dX9_readPerson_44 (jt_X4_expectWord G (3 : Int) (jl_nlit rfl) s9) jv_X4_expectWord ⟨rfl, rfl, rfl⟩ jw_640 jk_38 (by decide) (by decide) rfl ⟨Nat.le_of_ble_eq_true rfl, Nat.le_of_ble_eq_true rfl⟩ rfl (Nat.le_of_ble_eq_true rfl) (fun r10 s11 hr10 => ?_)
  refine jr_aload_n dX9_readPerson_47 2 rfl ?_
  refine jr_getk (i := 0) jc_9 jk_39 (by decide) (Nat.le_of_ble_eq_true rfl) jlk_39_0 jw_224 dX9_readPerson_48 ?_
  refine jr_iconst dX9_readPerson_51 ?_
  refine jr_bipush dX9_readPerson_52 (by decide) ?_
  refine j2_callVi (As := [jl_vi (0 : Int), jl_vi (9 : Int)]) dX9_readPerson_54 (jt_X4_takeNumber G (0 : Int) (9 : Int) (jl_nlit rfl) (jl_nlit rfl) s11) jv_X4_takeNumber ⟨rfl, rfl, rfl⟩ jw_611 jk_38 (by decide) (by decide) rfl ⟨Nat.le_of_ble_eq_true rfl, Nat.le_of_ble_eq_true rfl⟩ rfl (Nat.le_of_ble_eq_true rfl) (fun r12 s13 hr12 => ?_)
  refine jr_istore_n (lv := [(3, jl_vi r12), (2, jl_vi r8), (1, jl_vi r1), (0, jl_vr G 39)]) dX9_readPerson_57 rfl (Nat.le_of_ble_eq_true rfl) rfl ?_
  refine jr_aload_n dX9_readPerson_58 3 rfl ?_
  refine jr_grd (fun g14 => ?_)
  refine jr_getr (i := 1) jc_9 jk_39 (by decide) (Nat.le_of_ble_eq_true rfl) jlk_39_1 jft_9_1 g14.1 jw_225 dX9_readPerson_59 ?_
  refine jr_iload_n dX9_readPerson_62 2 rfl ?_
  refine jr_iload_n dX9_readPerson_63 1 rfl ?_
  refine jr_iload_n dX9_readPerson_64 0 rfl ?_
  refine j2_callVv (As := [jl_vi r1, jl_vi r8, jl_vi r12]) dX9_readPerson_65 (jt_X8_addPerson G (jl_gr s13 39 1) r1 r8 r12 hr1 hr8 hr12 s13) jv_X8_addPerson ⟨rfl, rfl, rfl⟩ jw_644 (jl_kd1 g14.2) (by decide) (jl_kdlt g14.2 (by decide)) rfl ⟨Nat.le_of_ble_eq_true rfl, Nat.le_of_ble_eq_true rfl⟩ rfl (Nat.le_of_ble_eq_true rfl) (fun r15 s16 hr15 => ?_)
  exact jr_ret_v rfl dX9_readPerson_68
def jf_X9_readOne_B254 (s0 : jl_Mm) : jl_O :=
  some (0, s0)
set_option maxRecDepth 20000 in
set_option maxHeartbeats 2000000 in
theorem jj_X9_readOne_B254 (G : jl_GC) (s0 : jl_Mm) : j2 G jM_X9_readOne 254 [] [] s0 (jf_X9_readOne_B254 s0) := by
  exact jr_ret_v rfl dX9_readOne_254
def jf_X9_readOne (v1 : Int) (s0 : jl_Mm) : jl_O :=
  jl_let (jl_g s0 38 4) fun x1 => jl_lm (jl_up s0 38 4 (jl_g s0 38 5)) fun s2 => if v1 = 0 then (if 0 ≤ s2 39 1 ∧ (jl_kd (jl_gr s2 39 1)).1 = 8 then jl_bd (jf_X4_takeNumber (2 : Int) (30 : Int) s2) fun r5 s6 => jl_lm (jl_up s6 (jl_gr s2 39 1) 1 r5) fun s7 => jf_X9_readOne_B254 s7 else none) else if v1 = 1 then (jl_bd (jf_X9_readPerson s2) fun r9 s10 => jf_X9_readOne_B254 s10) else if v1 = 4 then (jl_bd (jf_X9_readLie s2) fun r12 s13 => jf_X9_readOne_B254 s13) else if v1 = 6 then (jl_bd (jf_X9_readHangs s2) fun r15 s16 => jf_X9_readOne_B254 s16) else if v1 = 8 then (jl_bd (jf_X9_readLight s2) fun r18 s19 => jf_X9_readOne_B254 s19) else if v1 = 10 then (if 0 ≤ s2 39 1 ∧ (jl_kd (jl_gr s2 39 1)).1 = 8 then jl_bd (jf_X4_takeNumber (0 : Int) (999 : Int) s2) fun r22 s23 => jl_lm (jl_up s23 (jl_gr s2 39 1) 5 r22) fun s24 => jf_X9_readOne_B254 s24 else none) else if v1 = 11 then (jl_bd (jf_X4_allow (0 : Int) (1572864 : Int) s2) fun r26 s27 => jl_bd (jf_X4_grp 60 3 0 s27) fun r28 s29 => jf_X9_readOne_B254 s29) else if v1 = 12 then (jl_bd (jf_X4_allow (1 : Int) (1015808 : Int) s2) fun r31 s32 => jl_bd (jf_X4_grp 60 3 0 s32) fun r33 s34 => jf_X9_readOne_B254 s34) else if v1 = 13 then (jl_bd (jf_X4_allow (2 : Int) (1015816 : Int) s2) fun r36 s37 => jl_bd (jf_X4_grp 60 0 0 s37) fun r38 s39 => jf_X9_readOne_B254 s39) else if v1 = 14 then (if 0 ≤ s2 39 1 ∧ (jl_kd (jl_gr s2 39 1)).1 = 8 then jl_bd (jf_X4_takeNumber (0 : Int) (100 : Int) s2) fun r42 s43 => jl_lm (jl_up s43 (jl_gr s2 39 1) 6 r42) fun s44 => jf_X9_readOne_B254 s44 else none) else (jl_bd (jf_X4_fail (1 : Int) x1 s2) fun r45 s46 => jf_X9_readOne_B254 s46)
set_option maxRecDepth 20000 in
set_option maxHeartbeats 2000000 in
theorem jt_X9_readOne (G : jl_GC) (v1 : Int) (h1 : jl_n3 v1) (s0 : jl_Mm) : jC2 G jM_X9_readOne [jl_vr G 39, jl_vi v1] s0 (jf_X9_readOne v1 s0) := by
  refine jl_met (plainFor_of_name rfl) (Nat.le_of_ble_eq_true rfl) ?_
  show j2 G jM_X9_readOne 0 [(0, jl_vr G 39), (1, jl_vi v1)] [] s0 _
  refine jr_aload_n dX9_readOne_0 0 rfl ?_
  refine jr_getk (i := 0) jc_9 jk_39 (by decide) (Nat.le_of_ble_eq_true rfl) jlk_39_0 jw_224 dX9_readOne_1 ?_
  refine jr_getiN (i := 4) jc_4 jk_38 (by decide) (Nat.le_of_ble_eq_true rfl) jlk_38_4 jft_4_4 jw_190 dX9_readOne_4 ?_
  refine jr_let (jl_n3_to _) (fun x1 hx1 => ?_)
  refine jr_istore_n (lv := [(2, jl_vi x1), (0, jl_vr G 39), (1, jl_vi v1)]) dX9_readOne_7 rfl (Nat.le_of_ble_eq_true rfl) rfl ?_
  refine jr_aload_n dX9_readOne_8 1 rfl ?_
  refine jr_getk (i := 0) jc_9 jk_39 (by decide) (Nat.le_of_ble_eq_true rfl) jlk_39_0 jw_224 dX9_readOne_9 ?_
  refine jr_aload_n dX9_readOne_12 1 rfl ?_
  refine jr_getk (i := 0) jc_9 jk_39 (by decide) (Nat.le_of_ble_eq_true rfl) jlk_39_0 jw_224 dX9_readOne_13 ?_
  refine jr_getiN (i := 5) jc_4 jk_38 (by decide) (Nat.le_of_ble_eq_true rfl) jlk_38_5 jft_4_5 jw_192 dX9_readOne_16 ?_
  refine jr_putiN (i := 4) jc_4 jk_38 (by decide) (Nat.le_of_ble_eq_true rfl) jlk_38_4 jft_4_4 rfl jw_190 rfl dX9_readOne_19 ?_
  refine jr_lm (fun s2 => ?_)
  refine jr_iload_n dX9_readOne_22 2 rfl ?_
  refine jr_ite (fun c3 => ?_) (fun c3 => ?_)
  · refine jr_tabIn (t := 96) dX9_readOne_23 h1 (by omega) (by omega) (by rw [c3]; rfl) (by decide) ?_
    refine jr_aload_n dX9_readOne_96 1 rfl ?_
    refine jr_grd (fun g4 => ?_)
    refine jr_getr (i := 1) jc_9 jk_39 (by decide) (Nat.le_of_ble_eq_true rfl) jlk_39_1 jft_9_1 g4.1 jw_225 dX9_readOne_97 ?_
    refine jr_aload_n dX9_readOne_100 1 rfl ?_
    refine jr_getk (i := 0) jc_9 jk_39 (by decide) (Nat.le_of_ble_eq_true rfl) jlk_39_0 jw_224 dX9_readOne_101 ?_
    refine jr_iconst dX9_readOne_104 ?_
    refine jr_bipush dX9_readOne_105 (by decide) ?_
    refine j2_callVi (As := [jl_vi (2 : Int), jl_vi (30 : Int)]) dX9_readOne_107 (jt_X4_takeNumber G (2 : Int) (30 : Int) (jl_nlit rfl) (jl_nlit rfl) s2) jv_X4_takeNumber ⟨rfl, rfl, rfl⟩ jw_611 jk_38 (by decide) (by decide) rfl ⟨Nat.le_of_ble_eq_true rfl, Nat.le_of_ble_eq_true rfl⟩ rfl (Nat.le_of_ble_eq_true rfl) (fun r5 s6 hr5 => ?_)
    refine jr_putiN (i := 1) jc_8 (jl_kd1 g4.2) (jl_kdlt g4.2 (by decide)) (Nat.le_of_ble_eq_true rfl) (js8n_1 g4.2) jft_8_1 rfl jw_89 rfl dX9_readOne_110 ?_
    refine jr_lm (fun s7 => ?_)
    refine jr_goto (t := 254) dX9_readOne_113 (by decide) ?_
    refine jr_sub [] rfl ?_
    exact jj_X9_readOne_B254 G s7
  · skip
    refine jr_ite (fun c8 => ?_) (fun c8 => ?_)
    · refine jr_tabIn (t := 116) dX9_readOne_23 h1 (by omega) (by omega) (by rw [c8]; rfl) (by decide) ?_
      refine jr_aload_n dX9_readOne_116 1 rfl ?_
      refine j2_callVv (As := []) dX9_readOne_117 (jt_X9_readPerson G s2) jv_X9_readPerson ⟨rfl, rfl, rfl⟩ jw_619 jk_39 (by decide) (by decide) rfl ⟨Nat.le_of_ble_eq_true rfl, Nat.le_of_ble_eq_true rfl⟩ rfl (Nat.le_of_ble_eq_true rfl) (fun r9 s10 hr9 => ?_)
      refine jr_goto (t := 254) dX9_readOne_120 (by decide) ?_
      refine jr_sub [] rfl ?_
      exact jj_X9_readOne_B254 G s10
    · skip
      refine jr_ite (fun c11 => ?_) (fun c11 => ?_)
      · refine jr_tabIn (t := 123) dX9_readOne_23 h1 (by omega) (by omega) (by rw [c11]; rfl) (by decide) ?_
        refine jr_aload_n dX9_readOne_123 1 rfl ?_
        refine j2_callVv (As := []) dX9_readOne_124 (jt_X9_readLie G s2) jv_X9_readLie ⟨rfl, rfl, rfl⟩ jw_648 jk_39 (by decide) (by decide) rfl ⟨Nat.le_of_ble_eq_true rfl, Nat.le_of_ble_eq_true rfl⟩ rfl (Nat.le_of_ble_eq_true rfl) (fun r12 s13 hr12 => ?_)
        refine jr_goto (t := 254) dX9_readOne_127 (by decide) ?_
        refine jr_sub [] rfl ?_
        exact jj_X9_readOne_B254 G s13
      · skip
        refine jr_ite (fun c14 => ?_) (fun c14 => ?_)
        · refine jr_tabIn (t := 130) dX9_readOne_23 h1 (by omega) (by omega) (by rw [c14]; rfl) (by decide) ?_
          refine jr_aload_n dX9_readOne_130 1 rfl ?_
          refine j2_callVv (As := []) dX9_readOne_131 (jt_X9_readHangs G s2) jv_X9_readHangs ⟨rfl, rfl, rfl⟩ jw_660 jk_39 (by decide) (by decide) rfl ⟨Nat.le_of_ble_eq_true rfl, Nat.le_of_ble_eq_true rfl⟩ rfl (Nat.le_of_ble_eq_true rfl) (fun r15 s16 hr15 => ?_)
          refine jr_goto (t := 254) dX9_readOne_134 (by decide) ?_
          refine jr_sub [] rfl ?_
          exact jj_X9_readOne_B254 G s16
        · skip
          refine jr_ite (fun c17 => ?_) (fun c17 => ?_)
          · refine jr_tabIn (t := 137) dX9_readOne_23 h1 (by omega) (by omega) (by rw [c17]; rfl) (by decide) ?_
            refine jr_aload_n dX9_readOne_137 1 rfl ?_
            refine j2_callVv (As := []) dX9_readOne_138 (jt_X9_readLight G s2) jv_X9_readLight ⟨rfl, rfl, rfl⟩ jw_664 jk_39 (by decide) (by decide) rfl ⟨Nat.le_of_ble_eq_true rfl, Nat.le_of_ble_eq_true rfl⟩ rfl (Nat.le_of_ble_eq_true rfl) (fun r18 s19 hr18 => ?_)
            refine jr_goto (t := 254) dX9_readOne_141 (by decide) ?_
            refine jr_sub [] rfl ?_
            exact jj_X9_readOne_B254 G s19
          · skip
            refine jr_ite (fun c20 => ?_) (fun c20 => ?_)
            · refine jr_tabIn (t := 144) dX9_readOne_23 h1 (by omega) (by omega) (by rw [c20]; rfl) (by decide) ?_
              refine jr_aload_n dX9_readOne_144 1 rfl ?_
              refine jr_grd (fun g21 => ?_)
              refine jr_getr (i := 1) jc_9 jk_39 (by decide) (Nat.le_of_ble_eq_true rfl) jlk_39_1 jft_9_1 g21.1 jw_225 dX9_readOne_145 ?_
              refine jr_aload_n dX9_readOne_148 1 rfl ?_
              refine jr_getk (i := 0) jc_9 jk_39 (by decide) (Nat.le_of_ble_eq_true rfl) jlk_39_0 jw_224 dX9_readOne_149 ?_
              refine jr_iconst dX9_readOne_152 ?_
              refine jr_sipush dX9_readOne_153 (by decide) ?_
              refine j2_callVi (As := [jl_vi (0 : Int), jl_vi (999 : Int)]) dX9_readOne_156 (jt_X4_takeNumber G (0 : Int) (999 : Int) (jl_nlit rfl) (jl_nlit rfl) s2) jv_X4_takeNumber ⟨rfl, rfl, rfl⟩ jw_611 jk_38 (by decide) (by decide) rfl ⟨Nat.le_of_ble_eq_true rfl, Nat.le_of_ble_eq_true rfl⟩ rfl (Nat.le_of_ble_eq_true rfl) (fun r22 s23 hr22 => ?_)
              refine jr_putiN (i := 5) jc_8 (jl_kd1 g21.2) (jl_kdlt g21.2 (by decide)) (Nat.le_of_ble_eq_true rfl) (js8n_5 g21.2) jft_8_5 rfl jw_111 rfl dX9_readOne_159 ?_
              refine jr_lm (fun s24 => ?_)
              refine jr_goto (t := 254) dX9_readOne_162 (by decide) ?_
              refine jr_sub [] rfl ?_
              exact jj_X9_readOne_B254 G s24
            · skip
              refine jr_ite (fun c25 => ?_) (fun c25 => ?_)
              · refine jr_tabIn (t := 165) dX9_readOne_23 h1 (by omega) (by omega) (by rw [c25]; rfl) (by decide) ?_
                refine jr_aload_n dX9_readOne_165 1 rfl ?_
                refine jr_getk (i := 0) jc_9 jk_39 (by decide) (Nat.le_of_ble_eq_true rfl) jlk_39_0 jw_224 dX9_readOne_166 ?_
                refine jr_iconst dX9_readOne_169 ?_
                refine jr_ldc (v := 1572864) dX9_readOne_170 jw_672 (by decide) ?_
                refine j2_callVv (As := [jl_vi (0 : Int), jl_vi (1572864 : Int)]) dX9_readOne_172 (jt_X4_allow G (0 : Int) (1572864 : Int) (jl_nlit rfl) (jl_nlit rfl) s2) jv_X4_allow ⟨rfl, rfl, rfl⟩ jw_673 jk_38 (by decide) (by decide) rfl ⟨Nat.le_of_ble_eq_true rfl, Nat.le_of_ble_eq_true rfl⟩ rfl (Nat.le_of_ble_eq_true rfl) (fun r26 s27 hr26 => ?_)
                refine jr_aload_n dX9_readOne_175 1 rfl ?_
                refine jr_getk (i := 0) jc_9 jk_39 (by decide) (Nat.le_of_ble_eq_true rfl) jlk_39_0 jw_224 dX9_readOne_176 ?_
                refine j2_callVNv (As := []) dX9_readOne_179 ((jt_X4_grp G 60).2.2.2.1 s27) (jv_X4_sum 60) ⟨rfl, rfl, rfl⟩ jw_681 jk_38 (by decide) (by decide) rfl ⟨Nat.le_of_ble_eq_true rfl, Nat.le_of_ble_eq_true rfl⟩ rfl (Nat.le_of_ble_eq_true rfl) (fun r28 s29 hr28 => ?_)
                refine jr_goto (t := 254) dX9_readOne_182 (by decide) ?_
                refine jr_sub [] rfl ?_
                exact jj_X9_readOne_B254 G s29
              · skip
                refine jr_ite (fun c30 => ?_) (fun c30 => ?_)
                · refine jr_tabIn (t := 185) dX9_readOne_23 h1 (by omega) (by omega) (by rw [c30]; rfl) (by decide) ?_
                  refine jr_aload_n dX9_readOne_185 1 rfl ?_
                  refine jr_getk (i := 0) jc_9 jk_39 (by decide) (Nat.le_of_ble_eq_true rfl) jlk_39_0 jw_224 dX9_readOne_186 ?_
                  refine jr_iconst dX9_readOne_189 ?_
                  refine jr_ldc (v := 1015808) dX9_readOne_190 jw_720 (by decide) ?_
                  refine j2_callVv (As := [jl_vi (1 : Int), jl_vi (1015808 : Int)]) dX9_readOne_192 (jt_X4_allow G (1 : Int) (1015808 : Int) (jl_nlit rfl) (jl_nlit rfl) s2) jv_X4_allow ⟨rfl, rfl, rfl⟩ jw_673 jk_38 (by decide) (by decide) rfl ⟨Nat.le_of_ble_eq_true rfl, Nat.le_of_ble_eq_true rfl⟩ rfl (Nat.le_of_ble_eq_true rfl) (fun r31 s32 hr31 => ?_)
                  refine jr_aload_n dX9_readOne_195 1 rfl ?_
                  refine jr_getk (i := 0) jc_9 jk_39 (by decide) (Nat.le_of_ble_eq_true rfl) jlk_39_0 jw_224 dX9_readOne_196 ?_
                  refine j2_callVNv (As := []) dX9_readOne_199 ((jt_X4_grp G 60).2.2.2.1 s32) (jv_X4_sum 60) ⟨rfl, rfl, rfl⟩ jw_681 jk_38 (by decide) (by decide) rfl ⟨Nat.le_of_ble_eq_true rfl, Nat.le_of_ble_eq_true rfl⟩ rfl (Nat.le_of_ble_eq_true rfl) (fun r33 s34 hr33 => ?_)
                  refine jr_goto (t := 254) dX9_readOne_202 (by decide) ?_
                  refine jr_sub [] rfl ?_
                  exact jj_X9_readOne_B254 G s34
                · skip
                  refine jr_ite (fun c35 => ?_) (fun c35 => ?_)
                  · refine jr_tabIn (t := 205) dX9_readOne_23 h1 (by omega) (by omega) (by rw [c35]; rfl) (by decide) ?_
                    refine jr_aload_n dX9_readOne_205 1 rfl ?_
                    refine jr_getk (i := 0) jc_9 jk_39 (by decide) (Nat.le_of_ble_eq_true rfl) jlk_39_0 jw_224 dX9_readOne_206 ?_
                    refine jr_iconst dX9_readOne_209 ?_
                    refine jr_ldc (v := 1015816) dX9_readOne_210 jw_721 (by decide) ?_
                    refine j2_callVv (As := [jl_vi (2 : Int), jl_vi (1015816 : Int)]) dX9_readOne_212 (jt_X4_allow G (2 : Int) (1015816 : Int) (jl_nlit rfl) (jl_nlit rfl) s2) jv_X4_allow ⟨rfl, rfl, rfl⟩ jw_673 jk_38 (by decide) (by decide) rfl ⟨Nat.le_of_ble_eq_true rfl, Nat.le_of_ble_eq_true rfl⟩ rfl (Nat.le_of_ble_eq_true rfl) (fun r36 s37 hr36 => ?_)
                    refine jr_aload_n dX9_readOne_215 1 rfl ?_
                    refine jr_getk (i := 0) jc_9 jk_39 (by decide) (Nat.le_of_ble_eq_true rfl) jlk_39_0 jw_224 dX9_readOne_216 ?_
                    refine j2_callVNv (As := []) dX9_readOne_219 ((jt_X4_grp G 60).1 s37) (jv_X4_test 60) ⟨rfl, rfl, rfl⟩ jw_722 jk_38 (by decide) (by decide) rfl ⟨Nat.le_of_ble_eq_true rfl, Nat.le_of_ble_eq_true rfl⟩ rfl (Nat.le_of_ble_eq_true rfl) (fun r38 s39 hr38 => ?_)
                    refine jr_goto (t := 254) dX9_readOne_222 (by decide) ?_
                    refine jr_sub [] rfl ?_
                    exact jj_X9_readOne_B254 G s39
                  · skip
                    refine jr_ite (fun c40 => ?_) (fun c40 => ?_)
                    · refine jr_tabIn (t := 225) dX9_readOne_23 h1 (by omega) (by omega) (by rw [c40]; rfl) (by decide) ?_
                      refine jr_aload_n dX9_readOne_225 1 rfl ?_
                      refine jr_grd (fun g41 => ?_)
                      refine jr_getr (i := 1) jc_9 jk_39 (by decide) (Nat.le_of_ble_eq_true rfl) jlk_39_1 jft_9_1 g41.1 jw_225 dX9_readOne_226 ?_
                      refine jr_aload_n dX9_readOne_229 1 rfl ?_
                      refine jr_getk (i := 0) jc_9 jk_39 (by decide) (Nat.le_of_ble_eq_true rfl) jlk_39_0 jw_224 dX9_readOne_230 ?_
                      refine jr_iconst dX9_readOne_233 ?_
                      refine jr_bipush dX9_readOne_234 (by decide) ?_
                      refine j2_callVi (As := [jl_vi (0 : Int), jl_vi (100 : Int)]) dX9_readOne_236 (jt_X4_takeNumber G (0 : Int) (100 : Int) (jl_nlit rfl) (jl_nlit rfl) s2) jv_X4_takeNumber ⟨rfl, rfl, rfl⟩ jw_611 jk_38 (by decide) (by decide) rfl ⟨Nat.le_of_ble_eq_true rfl, Nat.le_of_ble_eq_true rfl⟩ rfl (Nat.le_of_ble_eq_true rfl) (fun r42 s43 hr42 => ?_)
                      refine jr_putiN (i := 6) jc_8 (jl_kd1 g41.2) (jl_kdlt g41.2 (by decide)) (Nat.le_of_ble_eq_true rfl) (js8n_6 g41.2) jft_8_6 rfl jw_113 rfl dX9_readOne_239 ?_
                      refine jr_lm (fun s44 => ?_)
                      refine jr_goto (t := 254) dX9_readOne_242 (by decide) ?_
                      refine jr_sub [] rfl ?_
                      exact jj_X9_readOne_B254 G s44
                    · skip
                      rcases Decidable.em (v1 = 2) with c47 | c47
                      · refine jr_tabIn (t := 245) dX9_readOne_23 h1 (by omega) (by omega) (by rw [c47]; rfl) (by decide) ?_
                        refine jr_aload_n dX9_readOne_245 1 rfl ?_
                        refine jr_getk (i := 0) jc_9 jk_39 (by decide) (Nat.le_of_ble_eq_true rfl) jlk_39_0 jw_224 dX9_readOne_246 ?_
                        refine jr_iconst dX9_readOne_249 ?_
                        refine jr_iload_n dX9_readOne_250 0 rfl ?_
                        refine j2_callVv (As := [jl_vi (1 : Int), jl_vi x1]) dX9_readOne_251 (jt_X4_fail G (1 : Int) x1 (jl_nlit rfl) hx1 s2) jv_X4_fail ⟨rfl, rfl, rfl⟩ jw_523 jk_38 (by decide) (by decide) rfl ⟨Nat.le_of_ble_eq_true rfl, Nat.le_of_ble_eq_true rfl⟩ rfl (Nat.le_of_ble_eq_true rfl) (fun r45 s46 hr45 => ?_)
                        refine jr_sub [] rfl ?_
                        exact jj_X9_readOne_B254 G s46
                      rcases Decidable.em (v1 = 3) with c48 | c48
                      · refine jr_tabIn (t := 245) dX9_readOne_23 h1 (by omega) (by omega) (by rw [c48]; rfl) (by decide) ?_
                        refine jr_aload_n dX9_readOne_245 1 rfl ?_
                        refine jr_getk (i := 0) jc_9 jk_39 (by decide) (Nat.le_of_ble_eq_true rfl) jlk_39_0 jw_224 dX9_readOne_246 ?_
                        refine jr_iconst dX9_readOne_249 ?_
                        refine jr_iload_n dX9_readOne_250 0 rfl ?_
                        refine j2_callVv (As := [jl_vi (1 : Int), jl_vi x1]) dX9_readOne_251 (jt_X4_fail G (1 : Int) x1 (jl_nlit rfl) hx1 s2) jv_X4_fail ⟨rfl, rfl, rfl⟩ jw_523 jk_38 (by decide) (by decide) rfl ⟨Nat.le_of_ble_eq_true rfl, Nat.le_of_ble_eq_true rfl⟩ rfl (Nat.le_of_ble_eq_true rfl) (fun r45 s46 hr45 => ?_)
                        refine jr_sub [] rfl ?_
                        exact jj_X9_readOne_B254 G s46
                      rcases Decidable.em (v1 = 5) with c49 | c49
                      · refine jr_tabIn (t := 245) dX9_readOne_23 h1 (by omega) (by omega) (by rw [c49]; rfl) (by decide) ?_
                        refine jr_aload_n dX9_readOne_245 1 rfl ?_
                        refine jr_getk (i := 0) jc_9 jk_39 (by decide) (Nat.le_of_ble_eq_true rfl) jlk_39_0 jw_224 dX9_readOne_246 ?_
                        refine jr_iconst dX9_readOne_249 ?_
                        refine jr_iload_n dX9_readOne_250 0 rfl ?_
                        refine j2_callVv (As := [jl_vi (1 : Int), jl_vi x1]) dX9_readOne_251 (jt_X4_fail G (1 : Int) x1 (jl_nlit rfl) hx1 s2) jv_X4_fail ⟨rfl, rfl, rfl⟩ jw_523 jk_38 (by decide) (by decide) rfl ⟨Nat.le_of_ble_eq_true rfl, Nat.le_of_ble_eq_true rfl⟩ rfl (Nat.le_of_ble_eq_true rfl) (fun r45 s46 hr45 => ?_)
                        refine jr_sub [] rfl ?_
                        exact jj_X9_readOne_B254 G s46
                      rcases Decidable.em (v1 = 7) with c50 | c50
                      · refine jr_tabIn (t := 245) dX9_readOne_23 h1 (by omega) (by omega) (by rw [c50]; rfl) (by decide) ?_
                        refine jr_aload_n dX9_readOne_245 1 rfl ?_
                        refine jr_getk (i := 0) jc_9 jk_39 (by decide) (Nat.le_of_ble_eq_true rfl) jlk_39_0 jw_224 dX9_readOne_246 ?_
                        refine jr_iconst dX9_readOne_249 ?_
                        refine jr_iload_n dX9_readOne_250 0 rfl ?_
                        refine j2_callVv (As := [jl_vi (1 : Int), jl_vi x1]) dX9_readOne_251 (jt_X4_fail G (1 : Int) x1 (jl_nlit rfl) hx1 s2) jv_X4_fail ⟨rfl, rfl, rfl⟩ jw_523 jk_38 (by decide) (by decide) rfl ⟨Nat.le_of_ble_eq_true rfl, Nat.le_of_ble_eq_true rfl⟩ rfl (Nat.le_of_ble_eq_true rfl) (fun r45 s46 hr45 => ?_)
                        refine jr_sub [] rfl ?_
                        exact jj_X9_readOne_B254 G s46
                      rcases Decidable.em (v1 = 9) with c51 | c51
                      · refine jr_tabIn (t := 245) dX9_readOne_23 h1 (by omega) (by omega) (by rw [c51]; rfl) (by decide) ?_
                        refine jr_aload_n dX9_readOne_245 1 rfl ?_
                        refine jr_getk (i := 0) jc_9 jk_39 (by decide) (Nat.le_of_ble_eq_true rfl) jlk_39_0 jw_224 dX9_readOne_246 ?_
                        refine jr_iconst dX9_readOne_249 ?_
                        refine jr_iload_n dX9_readOne_250 0 rfl ?_
                        refine j2_callVv (As := [jl_vi (1 : Int), jl_vi x1]) dX9_readOne_251 (jt_X4_fail G (1 : Int) x1 (jl_nlit rfl) hx1 s2) jv_X4_fail ⟨rfl, rfl, rfl⟩ jw_523 jk_38 (by decide) (by decide) rfl ⟨Nat.le_of_ble_eq_true rfl, Nat.le_of_ble_eq_true rfl⟩ rfl (Nat.le_of_ble_eq_true rfl) (fun r45 s46 hr45 => ?_)
                        refine jr_sub [] rfl ?_
                        exact jj_X9_readOne_B254 G s46
                      refine jr_tabOut (t := 245) dX9_readOne_23 h1 (by omega) (by decide) ?_
                      refine jr_aload_n dX9_readOne_245 1 rfl ?_
                      refine jr_getk (i := 0) jc_9 jk_39 (by decide) (Nat.le_of_ble_eq_true rfl) jlk_39_0 jw_224 dX9_readOne_246 ?_
                      refine jr_iconst dX9_readOne_249 ?_
                      refine jr_iload_n dX9_readOne_250 0 rfl ?_
                      refine j2_callVv (As := [jl_vi (1 : Int), jl_vi x1]) dX9_readOne_251 (jt_X4_fail G (1 : Int) x1 (jl_nlit rfl) hx1 s2) jv_X4_fail ⟨rfl, rfl, rfl⟩ jw_523 jk_38 (by decide) (by decide) rfl ⟨Nat.le_of_ble_eq_true rfl, Nat.le_of_ble_eq_true rfl⟩ rfl (Nat.le_of_ble_eq_true rfl) (fun r45 s46 hr45 => ?_)
                      refine jr_sub [] rfl ?_
                      exact jj_X9_readOne_B254 G s46
def jf_X9_readAll_B135 (l1 : Nat) (s0 : jl_Mm) : jl_O :=
  jl_bd (jf_X0_putUntold (l1 + 10) s0) fun r10 s11 => some (0, s11)
set_option maxRecDepth 20000 in
set_option maxHeartbeats 2000000 in
theorem jj_X9_readAll_B135 (G : jl_GC) (l1 : Nat) (hl1 : (jl_kd l1).1 = 8) (s0 : jl_Mm) : j2 G jM_X9_readAll 135 [(1, jl_vr G l1)] [] s0 (jf_X9_readAll_B135 l1 s0) := by
  refine jr_aload_n dX9_readAll_135 0 rfl ?_
  refine jr_getkN (i := 16) jc_8 (jl_kd1 hl1) (jl_kdlt hl1 (by decide)) (Nat.le_of_ble_eq_true rfl) (js8_16 hl1) jw_142 dX9_readAll_136 ?_
  refine j2_callVv (As := []) dX9_readAll_139 (jt_X0_putUntold G (l1 + 10) s0) jv_X0_putUntold ⟨rfl, rfl, rfl⟩ jw_740 (jl_kd1 (js8k_16 hl1)) (by decide) (jl_kdlt (js8k_16 hl1) (by decide)) rfl ⟨Nat.le_of_ble_eq_true rfl, Nat.le_of_ble_eq_true rfl⟩ rfl (Nat.le_of_ble_eq_true rfl) (fun r10 s11 hr10 => ?_)
  exact jr_ret_v rfl dX9_readAll_142
def jf_X9_readAll_B129 (R48 : Nat → Int → jl_Mm → jl_O) (l1 : Nat) (l2 : Int) (s0 : jl_Mm) : jl_O :=
  R48 l1 (jl_add l2 1) s0
set_option maxRecDepth 20000 in
set_option maxHeartbeats 2000000 in
theorem jj_X9_readAll_B129 (G : jl_GC) (R48 : Nat → Int → jl_Mm → jl_O) (hR48 : ∀ (l1 : Nat) (l2 : Int) (_hl1 : (jl_kd l1).1 = 8) (_hl2 : jl_n3 l2) (s0 : jl_Mm), j2 G jM_X9_readAll 48 [(0, jl_vr G 39), (1, jl_vr G l1), (2, jl_vi l2)] [] s0 (R48 l1 l2 s0)) (l1 : Nat) (l2 : Int) (hl1 : (jl_kd l1).1 = 8) (hl2 : jl_n3 l2) (s0 : jl_Mm) : j2 G jM_X9_readAll 129 [(0, jl_vr G 39), (1, jl_vr G l1), (2, jl_vi l2)] [] s0 (jf_X9_readAll_B129 R48 l1 l2 s0) := by
  refine jr_iinc (j := 2) (lv := [(2, jl_vi (jl_add l2 1)), (0, jl_vr G 39), (1, jl_vr G l1)]) dX9_readAll_129 rfl (Nat.le_of_ble_eq_true rfl) rfl ?_
  refine jr_goto (t := 48) dX9_readAll_132 (by decide) ?_
  refine jr_sub [1, 2, 0] rfl ?_
  exact hR48 l1 (jl_add l2 1) hl1 (jl_n3_to _) s0
def jf_X9_readAll_L48 : Nat → Nat → Int → jl_Mm → jl_O
  | 0, _, _, _ => none
  | n + 1, l1, l2, s0 =>
    if (60 : Int) < l2 then (jf_X9_readAll_B135 l1 s0) else (jl_bd (jf_X4_peek s0) fun r12 s13 => if r12 = (-1 : Int) then (jf_X9_readAll_B135 l1 s13) else (jl_bd (jf_X4_peekWord s13) fun r15 s16 => jl_bd (jf_X9_faultOf r15 l2 s16) fun r17 s18 => if r17 = (0 : Int) then (jl_bd (jf_X9_readOne r15 s18) fun r22 s23 => jl_bd (jf_X4_expectSign (59 : Int) s23) fun r24 s25 => jl_lm (jl_up s25 l1 0 (jl_add (jl_g s25 l1 0) (1 : Int))) fun s26 => jf_X9_readAll_B129 (jf_X9_readAll_L48 n) l1 l2 s26) else (jl_bd (jf_X4_fail r17 (jl_g s18 38 4) s18) fun r20 s21 => jf_X9_readAll_B129 (jf_X9_readAll_L48 n) l1 l2 s21)))
set_option maxRecDepth 20000 in
set_option maxHeartbeats 2000000 in
theorem jj_X9_readAll_L48 (G : jl_GC) : ∀ (n : Nat) (l1 : Nat) (l2 : Int) (hl1 : (jl_kd l1).1 = 8) (hl2 : jl_n3 l2) (s0 : jl_Mm), j2 G jM_X9_readAll 48 [(0, jl_vr G 39), (1, jl_vr G l1), (2, jl_vi l2)] [] s0 (jf_X9_readAll_L48 n l1 l2 s0) := by
  intro n
  induction n with
  | zero =>
    intros
    exact jr_none
  | succ n ih =>
    intro l1 l2 hl1 hl2 s0
    refine jr_iload_n dX9_readAll_48 2 rfl ?_
    refine jr_bipush dX9_readAll_49 (by decide) ?_
    refine jr_icmp_gt (t := 135) dX9_readAll_51 (by decide) hl2 (jl_nlit rfl) (fun c9 => ?_) (fun c9 => ?_)
    · refine jr_sub [1] rfl ?_
      exact jj_X9_readAll_B135 G l1 hl1 s0
    · refine jr_aload_n dX9_readAll_54 0 rfl ?_
      refine jr_getk (i := 0) jc_9 jk_39 (by decide) (Nat.le_of_ble_eq_true rfl) jlk_39_0 jw_224 dX9_readAll_55 ?_
      refine j2_callVi (As := []) dX9_readAll_58 (jt_X4_peek G s0) jv_X4_peek ⟨rfl, rfl, rfl⟩ jw_519 jk_38 (by decide) (by decide) rfl ⟨Nat.le_of_ble_eq_true rfl, Nat.le_of_ble_eq_true rfl⟩ rfl (Nat.le_of_ble_eq_true rfl) (fun r12 s13 hr12 => ?_)
      refine jr_iconst dX9_readAll_61 ?_
      refine jr_icmp_eq (t := 135) dX9_readAll_62 (by decide) hr12 (jl_nlit rfl) (fun c14 => ?_) (fun c14 => ?_)
      · refine jr_sub [1] rfl ?_
        exact jj_X9_readAll_B135 G l1 hl1 s13
      · refine jr_aload_n dX9_readAll_65 0 rfl ?_
        refine jr_getk (i := 0) jc_9 jk_39 (by decide) (Nat.le_of_ble_eq_true rfl) jlk_39_0 jw_224 dX9_readAll_66 ?_
        refine j2_callVi (As := []) dX9_readAll_69 (jt_X4_peekWord G s13) jv_X4_peekWord ⟨rfl, rfl, rfl⟩ jw_527 jk_38 (by decide) (by decide) rfl ⟨Nat.le_of_ble_eq_true rfl, Nat.le_of_ble_eq_true rfl⟩ rfl (Nat.le_of_ble_eq_true rfl) (fun r15 s16 hr15 => ?_)
        refine jr_istore_n (lv := [(3, jl_vi r15), (0, jl_vr G 39), (1, jl_vr G l1), (2, jl_vi l2)]) dX9_readAll_72 rfl (Nat.le_of_ble_eq_true rfl) rfl ?_
        refine jr_aload_n dX9_readAll_73 1 rfl ?_
        refine jr_iload_n dX9_readAll_74 0 rfl ?_
        refine jr_iload_n dX9_readAll_75 3 rfl ?_
        refine j2_callVi (As := [jl_vi r15, jl_vi l2]) dX9_readAll_76 (jt_X9_faultOf G r15 l2 hr15 hl2 s16) jv_X9_faultOf ⟨rfl, rfl, rfl⟩ jw_595 jk_39 (by decide) (by decide) rfl ⟨Nat.le_of_ble_eq_true rfl, Nat.le_of_ble_eq_true rfl⟩ rfl (Nat.le_of_ble_eq_true rfl) (fun r17 s18 hr17 => ?_)
        refine jr_istore (lv := [(4, jl_vi r17), (3, jl_vi r15), (0, jl_vr G 39), (1, jl_vr G l1), (2, jl_vi l2)]) dX9_readAll_79 (Nat.le_of_ble_eq_true rfl) rfl ?_
        refine jr_iload dX9_readAll_81 0 rfl ?_
        refine jr_if_ne (t := 113) dX9_readAll_83 (by decide) hr17 (fun c19 => ?_) (fun c19 => ?_)
        · refine jr_aload_n dX9_readAll_86 2 rfl ?_
          refine jr_iload_n dX9_readAll_87 1 rfl ?_
          refine j2_callVv (As := [jl_vi r15]) dX9_readAll_88 (jt_X9_readOne G r15 hr15 s18) jv_X9_readOne ⟨rfl, rfl, rfl⟩ jw_607 jk_39 (by decide) (by decide) rfl ⟨Nat.le_of_ble_eq_true rfl, Nat.le_of_ble_eq_true rfl⟩ rfl (Nat.le_of_ble_eq_true rfl) (fun r22 s23 hr22 => ?_)
          refine jr_aload_n dX9_readAll_91 2 rfl ?_
          refine jr_getk (i := 0) jc_9 jk_39 (by decide) (Nat.le_of_ble_eq_true rfl) jlk_39_0 jw_224 dX9_readAll_92 ?_
          refine jr_bipush dX9_readAll_95 (by decide) ?_
          refine j2_callVv (As := [jl_vi (59 : Int)]) dX9_readAll_97 (jt_X4_expectSign G (59 : Int) (jl_nlit rfl) s23) jv_X4_expectSign ⟨rfl, rfl, rfl⟩ jw_739 jk_38 (by decide) (by decide) rfl ⟨Nat.le_of_ble_eq_true rfl, Nat.le_of_ble_eq_true rfl⟩ rfl (Nat.le_of_ble_eq_true rfl) (fun r24 s25 hr24 => ?_)
          refine jr_aload_n dX9_readAll_100 3 rfl ?_
          refine jr_dup dX9_readAll_101 rfl ?_
          refine jr_getiN (i := 0) jc_8 (jl_kd1 hl1) (jl_kdlt hl1 (by decide)) (Nat.le_of_ble_eq_true rfl) (js8n_0 hl1) jft_8_0 jw_86 dX9_readAll_102 ?_
          refine jr_iconst dX9_readAll_105 ?_
          refine jr_iadd dX9_readAll_106 ?_
          refine jr_putiN (i := 0) jc_8 (jl_kd1 hl1) (jl_kdlt hl1 (by decide)) (Nat.le_of_ble_eq_true rfl) (js8n_0 hl1) jft_8_0 rfl jw_86 rfl dX9_readAll_107 ?_
          refine jr_lm (fun s26 => ?_)
          refine jr_goto (t := 129) dX9_readAll_110 (by decide) ?_
          refine jr_sub [2, 3, 4] rfl ?_
          exact jj_X9_readAll_B129 G (jf_X9_readAll_L48 n) (ih) l1 l2 hl1 hl2 s26
        · refine jr_aload_n dX9_readAll_113 2 rfl ?_
          refine jr_getk (i := 0) jc_9 jk_39 (by decide) (Nat.le_of_ble_eq_true rfl) jlk_39_0 jw_224 dX9_readAll_114 ?_
          refine jr_iload dX9_readAll_117 0 rfl ?_
          refine jr_aload_n dX9_readAll_119 2 rfl ?_
          refine jr_getk (i := 0) jc_9 jk_39 (by decide) (Nat.le_of_ble_eq_true rfl) jlk_39_0 jw_224 dX9_readAll_120 ?_
          refine jr_getiN (i := 4) jc_4 jk_38 (by decide) (Nat.le_of_ble_eq_true rfl) jlk_38_4 jft_4_4 jw_190 dX9_readAll_123 ?_
          refine j2_callVv (As := [jl_vi r17, jl_vi (jl_g s18 38 4)]) dX9_readAll_126 (jt_X4_fail G r17 (jl_g s18 38 4) hr17 (jl_n3_to _) s18) jv_X4_fail ⟨rfl, rfl, rfl⟩ jw_523 jk_38 (by decide) (by decide) rfl ⟨Nat.le_of_ble_eq_true rfl, Nat.le_of_ble_eq_true rfl⟩ rfl (Nat.le_of_ble_eq_true rfl) (fun r20 s21 hr20 => ?_)
          refine jr_sub [2, 3, 4] rfl ?_
          exact jj_X9_readAll_B129 G (jf_X9_readAll_L48 n) (ih) l1 l2 hl1 hl2 s21
def jf_X9_readAll_B46 (l1 : Nat) (s0 : jl_Mm) : jl_O :=
  jf_X9_readAll_L48 jl_fu l1 (0 : Int) s0
set_option maxRecDepth 20000 in
set_option maxHeartbeats 2000000 in
theorem jj_X9_readAll_B46 (G : jl_GC) (l1 : Nat) (hl1 : (jl_kd l1).1 = 8) (s0 : jl_Mm) : j2 G jM_X9_readAll 46 [(0, jl_vr G 39), (1, jl_vr G l1)] [] s0 (jf_X9_readAll_B46 l1 s0) := by
  refine jr_iconst dX9_readAll_46 ?_
  refine jr_istore_n (lv := [(2, jl_vi (0 : Int)), (0, jl_vr G 39), (1, jl_vr G l1)]) dX9_readAll_47 rfl (Nat.le_of_ble_eq_true rfl) rfl ?_
  refine jr_sub [1, 2, 0] rfl ?_
  exact jj_X9_readAll_L48 G jl_fu l1 (0 : Int) hl1 (jl_nlit rfl) s0
def jf_X9_readAll (q1 : Nat) (s0 : jl_Mm) : jl_O :=
  if (jl_kd q1).1 = 8 then jl_lm (jl_up s0 39 1 ((q1 : Nat) : Int)) fun s1 => jl_bd (jf_X8_clear q1 s1) fun r2 s3 => jl_bd (jf_X4_start (q1 + 10) s3) fun r4 s5 => jl_bd (jf_X4_peek s5) fun r6 s7 => if r6 = (-1 : Int) then (jl_bd (jf_X4_fail (1 : Int) (jl_g s7 38 4) s7) fun r27 s28 => jf_X9_readAll_B46 q1 s28) else (jf_X9_readAll_B46 q1 s7) else none
set_option maxRecDepth 20000 in
set_option maxHeartbeats 2000000 in
theorem jt_X9_readAll (G : jl_GC) (q1 : Nat) (s0 : jl_Mm) : jC2 G jM_X9_readAll [jl_vr G 39, jl_vr G q1] s0 (jf_X9_readAll q1 s0) := by
  refine jl_met (plainFor_of_name rfl) (Nat.le_of_ble_eq_true rfl) ?_
  show j2 G jM_X9_readAll 0 [(0, jl_vr G 39), (1, jl_vr G q1)] [] s0 _
  refine jr_grd (fun gp1 => ?_)
  refine jr_aload_n dX9_readAll_0 0 rfl ?_
  refine jr_aload_n dX9_readAll_1 1 rfl ?_
  refine jr_putr (y := q1) (i := 1) jc_9 jk_39 (by decide) (Nat.le_of_ble_eq_true rfl) jlk_39_1 jft_9_1 (Int.ofNat_lt.mpr (jl_kdlt gp1 (by decide))) rfl jw_225 rfl dX9_readAll_2 ?_
  refine jr_lm (fun s1 => ?_)
  refine jr_aload_n dX9_readAll_5 1 rfl ?_
  refine j2_callVv (As := []) dX9_readAll_6 (jt_X8_clear G q1 s1) jv_X8_clear ⟨rfl, rfl, rfl⟩ jw_507 (jl_kd1 gp1) (by decide) (jl_kdlt gp1 (by decide)) rfl ⟨Nat.le_of_ble_eq_true rfl, Nat.le_of_ble_eq_true rfl⟩ rfl (Nat.le_of_ble_eq_true rfl) (fun r2 s3 hr2 => ?_)
  refine jr_aload_n dX9_readAll_9 0 rfl ?_
  refine jr_getk (i := 0) jc_9 jk_39 (by decide) (Nat.le_of_ble_eq_true rfl) jlk_39_0 jw_224 dX9_readAll_10 ?_
  refine jr_aload_n dX9_readAll_13 1 rfl ?_
  refine jr_getkN (i := 16) jc_8 (jl_kd1 gp1) (jl_kdlt gp1 (by decide)) (Nat.le_of_ble_eq_true rfl) (js8_16 gp1) jw_142 dX9_readAll_14 ?_
  refine j2_callVv (As := [jl_vr G (q1 + 10)]) dX9_readAll_17 (jt_X4_start G (q1 + 10) s3) jv_X4_start ⟨rfl, rfl, rfl⟩ jw_511 jk_38 (by decide) (by decide) rfl ⟨Nat.le_of_ble_eq_true rfl, Nat.le_of_ble_eq_true rfl⟩ rfl (Nat.le_of_ble_eq_true rfl) (fun r4 s5 hr4 => ?_)
  refine jr_aload_n dX9_readAll_20 0 rfl ?_
  refine jr_getk (i := 0) jc_9 jk_39 (by decide) (Nat.le_of_ble_eq_true rfl) jlk_39_0 jw_224 dX9_readAll_21 ?_
  refine j2_callVi (As := []) dX9_readAll_24 (jt_X4_peek G s5) jv_X4_peek ⟨rfl, rfl, rfl⟩ jw_519 jk_38 (by decide) (by decide) rfl ⟨Nat.le_of_ble_eq_true rfl, Nat.le_of_ble_eq_true rfl⟩ rfl (Nat.le_of_ble_eq_true rfl) (fun r6 s7 hr6 => ?_)
  refine jr_iconst dX9_readAll_27 ?_
  refine jr_icmp_ne (t := 46) dX9_readAll_28 (by decide) hr6 (jl_nlit rfl) (fun c8 => ?_) (fun c8 => ?_)
  · refine jr_aload_n dX9_readAll_31 0 rfl ?_
    refine jr_getk (i := 0) jc_9 jk_39 (by decide) (Nat.le_of_ble_eq_true rfl) jlk_39_0 jw_224 dX9_readAll_32 ?_
    refine jr_iconst dX9_readAll_35 ?_
    refine jr_aload_n dX9_readAll_36 0 rfl ?_
    refine jr_getk (i := 0) jc_9 jk_39 (by decide) (Nat.le_of_ble_eq_true rfl) jlk_39_0 jw_224 dX9_readAll_37 ?_
    refine jr_getiN (i := 4) jc_4 jk_38 (by decide) (Nat.le_of_ble_eq_true rfl) jlk_38_4 jft_4_4 jw_190 dX9_readAll_40 ?_
    refine j2_callVv (As := [jl_vi (1 : Int), jl_vi (jl_g s7 38 4)]) dX9_readAll_43 (jt_X4_fail G (1 : Int) (jl_g s7 38 4) (jl_nlit rfl) (jl_n3_to _) s7) jv_X4_fail ⟨rfl, rfl, rfl⟩ jw_523 jk_38 (by decide) (by decide) rfl ⟨Nat.le_of_ble_eq_true rfl, Nat.le_of_ble_eq_true rfl⟩ rfl (Nat.le_of_ble_eq_true rfl) (fun r27 s28 hr27 => ?_)
    exact jj_X9_readAll_B46 G q1 gp1 s28
  · exact jj_X9_readAll_B46 G q1 gp1 s7
def jf_X11_street (s0 : jl_Mm) : jl_O :=
  if 0 ≤ s0 0 3 ∧ (jl_kd (jl_gr s0 0 3)).1 = 8 then jl_bd (jf_X9_readAll (jl_gr s0 0 3) s0) fun r2 s3 => jl_bd (jf_X11_takeFault s3) fun r4 s5 => if jl_g s5 0 15 = (0 : Int) then (if 0 ≤ s5 0 2 ∧ (jl_kd (jl_gr s5 0 2)).1 = 8 then if 0 ≤ s5 0 3 ∧ (jl_kd (jl_gr s5 0 3)).1 = 8 then jl_lm (jl_up s5 0 2 ((jl_gr s5 0 3 : Nat) : Int)) fun s9 => jl_lm (jl_up s9 0 3 ((jl_gr s5 0 2 : Nat) : Int)) fun s10 => if 0 ≤ s10 0 2 ∧ (jl_kd (jl_gr s10 0 2)).1 = 8 then jl_lm (jl_up s10 190 0 ((jl_gr s10 0 2 : Nat) : Int)) fun s12 => if 0 ≤ s12 0 2 ∧ (jl_kd (jl_gr s12 0 2)).1 = 8 then jl_bd (jf_X7_beginAt 40 (jl_gr s12 0 2) s12) fun r14 s15 => jl_bd (jf_X11_forgetActs s15) fun r16 s17 => jl_lm (jl_up s17 200 4 (0 : Int)) fun s18 => if 0 ≤ s18 0 2 ∧ (jl_kd (jl_gr s18 0 2)).1 = 8 then some (jl_g s18 (jl_gr s18 0 2) 0, s18) else none else none else none else none else none) else (jl_bd (jf_X11_refuse (1 : Int) s5) fun r20 s21 => some (r20, s21)) else none
set_option maxRecDepth 20000 in
set_option maxHeartbeats 2000000 in
theorem jt_X11_street (G : jl_GC) (s0 : jl_Mm) : jC2 G jM_X11_street [jl_vr G 0] s0 (jf_X11_street s0) := by
  refine jl_met (plainFor_of_name rfl) (Nat.le_of_ble_eq_true rfl) ?_
  show j2 G jM_X11_street 0 [(0, jl_vr G 0)] [] s0 _
  refine jr_aload_n dX11_street_0 0 rfl ?_
  refine jr_getk (i := 5) jc_11 jk_0 (by decide) (Nat.le_of_ble_eq_true rfl) jlk_0_5 jw_429 dX11_street_1 ?_
  refine jr_aload_n dX11_street_4 0 rfl ?_
  refine jr_grd (fun g1 => ?_)
  refine jr_getr (i := 3) jc_11 jk_0 (by decide) (Nat.le_of_ble_eq_true rfl) jlk_0_3 jft_11_3 g1.1 jw_427 dX11_street_5 ?_
  refine j2_callVv (As := [jl_vr G (jl_gr s0 0 3)]) dX11_street_8 (jt_X9_readAll G (jl_gr s0 0 3) s0) jv_X9_readAll ⟨rfl, rfl, rfl⟩ jw_503 jk_39 (by decide) (by decide) rfl ⟨Nat.le_of_ble_eq_true rfl, Nat.le_of_ble_eq_true rfl⟩ rfl (Nat.le_of_ble_eq_true rfl) (fun r2 s3 hr2 => ?_)
  refine jr_aload_n dX11_street_11 0 rfl ?_
  refine j2_callVv (As := []) dX11_street_12 (jt_X11_takeFault G s3) jv_X11_takeFault ⟨rfl, rfl, rfl⟩ jw_747 jk_0 (by decide) (by decide) rfl ⟨Nat.le_of_ble_eq_true rfl, Nat.le_of_ble_eq_true rfl⟩ rfl (Nat.le_of_ble_eq_true rfl) (fun r4 s5 hr4 => ?_)
  refine jr_aload_n dX11_street_15 0 rfl ?_
  refine jr_geti (i := 15) jc_11 jk_0 (by decide) (Nat.le_of_ble_eq_true rfl) jlk_0_15 jft_11_15 jw_439 dX11_street_16 ?_
  refine jr_if_eq (t := 28) dX11_street_19 (by decide) (jl_n3_to _) (fun c6 => ?_) (fun c6 => ?_)
  · refine jr_aload_n dX11_street_28 0 rfl ?_
    refine jr_grd (fun g7 => ?_)
    refine jr_getr (i := 2) jc_11 jk_0 (by decide) (Nat.le_of_ble_eq_true rfl) jlk_0_2 jft_11_2 g7.1 jw_426 dX11_street_29 ?_
    refine jr_astore_n (lv := [(1, jl_vr G (jl_gr s5 0 2)), (0, jl_vr G 0)]) dX11_street_32 rfl (Nat.le_of_ble_eq_true rfl) rfl ?_
    refine jr_aload_n dX11_street_33 1 rfl ?_
    refine jr_aload_n dX11_street_34 1 rfl ?_
    refine jr_grd (fun g8 => ?_)
    refine jr_getr (i := 3) jc_11 jk_0 (by decide) (Nat.le_of_ble_eq_true rfl) jlk_0_3 jft_11_3 g8.1 jw_427 dX11_street_35 ?_
    refine jr_putr (y := jl_gr s5 0 3) (i := 2) jc_11 jk_0 (by decide) (Nat.le_of_ble_eq_true rfl) jlk_0_2 jft_11_2 (Int.ofNat_lt.mpr (jl_kdlt g8.2 (by decide))) rfl jw_426 rfl dX11_street_38 ?_
    refine jr_lm (fun s9 => ?_)
    refine jr_aload_n dX11_street_41 1 rfl ?_
    refine jr_aload_n dX11_street_42 0 rfl ?_
    refine jr_putr (y := jl_gr s5 0 2) (i := 3) jc_11 jk_0 (by decide) (Nat.le_of_ble_eq_true rfl) jlk_0_3 jft_11_3 (Int.ofNat_lt.mpr (jl_kdlt g7.2 (by decide))) rfl jw_427 rfl dX11_street_43 ?_
    refine jr_lm (fun s10 => ?_)
    refine jr_aload_n dX11_street_46 1 rfl ?_
    refine jr_getk (i := 9) jc_11 jk_0 (by decide) (Nat.le_of_ble_eq_true rfl) jlk_0_9 jw_433 dX11_street_47 ?_
    refine jr_aload_n dX11_street_50 1 rfl ?_
    refine jr_grd (fun g11 => ?_)
    refine jr_getr (i := 2) jc_11 jk_0 (by decide) (Nat.le_of_ble_eq_true rfl) jlk_0_2 jft_11_2 g11.1 jw_426 dX11_street_51 ?_
    refine jr_putrN (y := jl_gr s10 0 2) (i := 0) jc_5 jk_190 (by decide) (Nat.le_of_ble_eq_true rfl) jlk_190_0 jft_5_0 (Int.ofNat_lt.mpr (jl_kdlt g11.2 (by decide))) rfl jw_320 rfl dX11_street_54 ?_
    refine jr_lm (fun s12 => ?_)
    refine jr_aload_n dX11_street_57 1 rfl ?_
    refine jr_getk (i := 6) jc_11 jk_0 (by decide) (Nat.le_of_ble_eq_true rfl) jlk_0_6 jw_430 dX11_street_58 ?_
    refine jr_aload_n dX11_street_61 1 rfl ?_
    refine jr_grd (fun g13 => ?_)
    refine jr_getr (i := 2) jc_11 jk_0 (by decide) (Nat.le_of_ble_eq_true rfl) jlk_0_2 jft_11_2 g13.1 jw_426 dX11_street_62 ?_
    refine j2_callVv (As := [jl_vr G (jl_gr s12 0 2)]) dX11_street_65 (jt_X7_beginAt G 40 (jl_gr s12 0 2) s12) jv_X7_beginAt ⟨rfl, rfl, rfl⟩ jw_751 jk_40 (by decide) (by decide) rfl ⟨Nat.le_of_ble_eq_true rfl, Nat.le_of_ble_eq_true rfl⟩ rfl (Nat.le_of_ble_eq_true rfl) (fun r14 s15 hr14 => ?_)
    refine jr_aload_n dX11_street_68 1 rfl ?_
    refine j2_callVv (As := []) dX11_street_69 (jt_X11_forgetActs G s15) jv_X11_forgetActs ⟨rfl, rfl, rfl⟩ jw_766 jk_0 (by decide) (by decide) rfl ⟨Nat.le_of_ble_eq_true rfl, Nat.le_of_ble_eq_true rfl⟩ rfl (Nat.le_of_ble_eq_true rfl) (fun r16 s17 hr16 => ?_)
    refine jr_aload_n dX11_street_72 1 rfl ?_
    refine jr_getk (i := 11) jc_11 jk_0 (by decide) (Nat.le_of_ble_eq_true rfl) jlk_0_11 jw_435 dX11_street_73 ?_
    refine jr_iconst dX11_street_76 ?_
    refine jr_putiN (i := 4) jc_6 jk_200 (by decide) (Nat.le_of_ble_eq_true rfl) jlk_200_4 jft_6_4 rfl jw_389 rfl dX11_street_77 ?_
    refine jr_lm (fun s18 => ?_)
    refine jr_aload_n dX11_street_80 1 rfl ?_
    refine jr_grd (fun g19 => ?_)
    refine jr_getr (i := 2) jc_11 jk_0 (by decide) (Nat.le_of_ble_eq_true rfl) jlk_0_2 jft_11_2 g19.1 jw_426 dX11_street_81 ?_
    refine jr_getiN (i := 0) jc_8 (jl_kd1 g19.2) (jl_kdlt g19.2 (by decide)) (Nat.le_of_ble_eq_true rfl) (js8n_0 g19.2) jft_8_0 jw_87 dX11_street_84 ?_
    exact jr_ret_i rfl (jl_n3_to _) dX11_street_87
  · refine jr_aload_n dX11_street_22 0 rfl ?_
    refine jr_iconst dX11_street_23 ?_
    refine j2_callVi (As := [jl_vi (1 : Int)]) dX11_street_24 (jt_X11_refuse G (1 : Int) (jl_nlit rfl) s5) jv_X11_refuse ⟨rfl, rfl, rfl⟩ jw_483 jk_0 (by decide) (by decide) rfl ⟨Nat.le_of_ble_eq_true rfl, Nat.le_of_ble_eq_true rfl⟩ rfl (Nat.le_of_ble_eq_true rfl) (fun r20 s21 hr20 => ?_)
    exact jr_ret_i rfl hr20 dX11_street_27
def jf_X11_fault (v1 : Int) (s0 : jl_Mm) : jl_O :=
  if v1 = 0 then (some (jl_g s0 0 15, s0)) else if v1 = 1 then (some (jl_g s0 0 16, s0)) else (some ((-1 : Int), s0))
set_option maxRecDepth 20000 in
set_option maxHeartbeats 2000000 in
theorem jt_X11_fault (G : jl_GC) (v1 : Int) (h1 : jl_n3 v1) (s0 : jl_Mm) : jC2 G jM_X11_fault [jl_vr G 0, jl_vi v1] s0 (jf_X11_fault v1 s0) := by
  refine jl_met (plainFor_of_name rfl) (Nat.le_of_ble_eq_true rfl) ?_
  show j2 G jM_X11_fault 0 [(0, jl_vr G 0), (1, jl_vi v1)] [] s0 _
  refine jr_iload_n dX11_fault_0 1 rfl ?_
  refine jr_ite (fun c1 => ?_) (fun c1 => ?_)
  · refine jr_look (t := 28) (off := 27) dX11_fault_1 h1 (by decide) (by rw [c1] <;> rfl) (by decide) ?_
    refine jr_aload_n dX11_fault_28 0 rfl ?_
    refine jr_geti (i := 15) jc_11 jk_0 (by decide) (Nat.le_of_ble_eq_true rfl) jlk_0_15 jft_11_15 jw_439 dX11_fault_29 ?_
    exact jr_ret_i rfl (jl_n3_to _) dX11_fault_32
  · skip
    refine jr_ite (fun c2 => ?_) (fun c2 => ?_)
    · refine jr_look (t := 33) (off := 32) dX11_fault_1 h1 (by decide) (by rw [c2] <;> rfl) (by decide) ?_
      refine jr_aload_n dX11_fault_33 0 rfl ?_
      refine jr_geti (i := 16) jc_11 jk_0 (by decide) (Nat.le_of_ble_eq_true rfl) jlk_0_16 jft_11_16 jw_440 dX11_fault_34 ?_
      exact jr_ret_i rfl (jl_n3_to _) dX11_fault_37
    · skip
      refine jr_look (t := 38) (off := 37) dX11_fault_1 h1 (by decide) (by simp [Op.lookupswitch.offset, Ne.symm c1, Ne.symm c2]) (by decide) ?_
      refine jr_iconst dX11_fault_38 ?_
      exact jr_ret_i rfl (jl_nlit rfl) dX11_fault_39
def jf_J6_bitCount_0f7a4 (v1 : Int) (s0 : jl_Mm) : jl_O :=
  jl_let (jl_sub v1 (jl_and (jl_ushr v1 (1 : Int)) (1431655765 : Int))) fun x1 => jl_let (jl_add (jl_and x1 (858993459 : Int)) (jl_and (jl_ushr x1 (2 : Int)) (858993459 : Int))) fun x2 => jl_let (jl_and (jl_add x2 (jl_ushr x2 (4 : Int))) (252645135 : Int)) fun x3 => jl_let (jl_add x3 (jl_ushr x3 (8 : Int))) fun x4 => jl_let (jl_add x4 (jl_ushr x4 (16 : Int))) fun x5 => some (jl_and x5 (63 : Int), s0)
set_option maxRecDepth 20000 in
set_option maxHeartbeats 2000000 in
theorem jt_J6_bitCount_0f7a4 (G : jl_GC) (v1 : Int) (h1 : jl_n3 v1) (s0 : jl_Mm) : jC2 G jM_J6_bitCount_0f7a4 [jl_vi v1] s0 (jf_J6_bitCount_0f7a4 v1 s0) := by
  refine jl_met (plainFor_of_name rfl) (Nat.le_of_ble_eq_true rfl) ?_
  show j2 G jM_J6_bitCount_0f7a4 0 [(0, jl_vi v1)] [] s0 _
  refine jr_iload_n dJ6_bitCount_0f7a4_0 0 rfl ?_
  refine jr_iload_n dJ6_bitCount_0f7a4_1 0 rfl ?_
  refine jr_iconst dJ6_bitCount_0f7a4_2 ?_
  refine jr_iushr dJ6_bitCount_0f7a4_3 ?_
  refine jr_ldc_w (v := 1431655765) dJ6_bitCount_0f7a4_4 jw_786 (by decide) ?_
  refine jr_iand dJ6_bitCount_0f7a4_7 ?_
  refine jr_isub dJ6_bitCount_0f7a4_8 ?_
  refine jr_let (jl_n3_to _) (fun x1 hx1 => ?_)
  refine jr_istore_n (lv := [(0, jl_vi x1)]) dJ6_bitCount_0f7a4_9 rfl (Nat.le_of_ble_eq_true rfl) rfl ?_
  refine jr_iload_n dJ6_bitCount_0f7a4_10 0 rfl ?_
  refine jr_ldc_w (v := 858993459) dJ6_bitCount_0f7a4_11 jw_787 (by decide) ?_
  refine jr_iand dJ6_bitCount_0f7a4_14 ?_
  refine jr_iload_n dJ6_bitCount_0f7a4_15 0 rfl ?_
  refine jr_iconst dJ6_bitCount_0f7a4_16 ?_
  refine jr_iushr dJ6_bitCount_0f7a4_17 ?_
  refine jr_ldc_w (v := 858993459) dJ6_bitCount_0f7a4_18 jw_787 (by decide) ?_
  refine jr_iand dJ6_bitCount_0f7a4_21 ?_
  refine jr_iadd dJ6_bitCount_0f7a4_22 ?_
  refine jr_let (jl_n3_to _) (fun x2 hx2 => ?_)
  refine jr_istore_n (lv := [(0, jl_vi x2)]) dJ6_bitCount_0f7a4_23 rfl (Nat.le_of_ble_eq_true rfl) rfl ?_
  refine jr_iload_n dJ6_bitCount_0f7a4_24 0 rfl ?_
  refine jr_iload_n dJ6_bitCount_0f7a4_25 0 rfl ?_
  refine jr_iconst dJ6_bitCount_0f7a4_26 ?_
  refine jr_iushr dJ6_bitCount_0f7a4_27 ?_
  refine jr_iadd dJ6_bitCount_0f7a4_28 ?_
  refine jr_ldc_w (v := 252645135) dJ6_bitCount_0f7a4_29 jw_788 (by decide) ?_
  refine jr_iand dJ6_bitCount_0f7a4_32 ?_
  refine jr_let (jl_n3_to _) (fun x3 hx3 => ?_)
  refine jr_istore_n (lv := [(0, jl_vi x3)]) dJ6_bitCount_0f7a4_33 rfl (Nat.le_of_ble_eq_true rfl) rfl ?_
  refine jr_iload_n dJ6_bitCount_0f7a4_34 0 rfl ?_
  refine jr_iload_n dJ6_bitCount_0f7a4_35 0 rfl ?_
  refine jr_bipush dJ6_bitCount_0f7a4_36 (by decide) ?_
  refine jr_iushr dJ6_bitCount_0f7a4_38 ?_
  refine jr_iadd dJ6_bitCount_0f7a4_39 ?_
  refine jr_let (jl_n3_to _) (fun x4 hx4 => ?_)
  refine jr_istore_n (lv := [(0, jl_vi x4)]) dJ6_bitCount_0f7a4_40 rfl (Nat.le_of_ble_eq_true rfl) rfl ?_
  refine jr_iload_n dJ6_bitCount_0f7a4_41 0 rfl ?_
  refine jr_iload_n dJ6_bitCount_0f7a4_42 0 rfl ?_
  refine jr_bipush dJ6_bitCount_0f7a4_43 (by decide) ?_
  refine jr_iushr dJ6_bitCount_0f7a4_45 ?_
  refine jr_iadd dJ6_bitCount_0f7a4_46 ?_
  refine jr_let (jl_n3_to _) (fun x5 hx5 => ?_)
  refine jr_istore_n (lv := [(0, jl_vi x5)]) dJ6_bitCount_0f7a4_47 rfl (Nat.le_of_ble_eq_true rfl) rfl ?_
  refine jr_iload_n dJ6_bitCount_0f7a4_48 0 rfl ?_
  refine jr_bipush dJ6_bitCount_0f7a4_49 (by decide) ?_
  refine jr_iand dJ6_bitCount_0f7a4_51 ?_
  exact jr_ret_i rfl (jl_n3_to _) dJ6_bitCount_0f7a4_52
def jf_J9_max_7cf53_B10 (k0 : Int) (s0 : jl_Mm) : jl_O :=
  some (k0, s0)
set_option maxRecDepth 20000 in
set_option maxHeartbeats 2000000 in
theorem jj_J9_max_7cf53_B10 (G : jl_GC) (k0 : Int) (hk0 : jl_n3 k0) (s0 : jl_Mm) : j2 G jM_J9_max_7cf53 10 [] [jl_vi k0] s0 (jf_J9_max_7cf53_B10 k0 s0) := by
  exact jr_ret_i rfl hk0 dJ9_max_7cf53_10
def jf_J9_max_7cf53 (v1 : Int) (v2 : Int) (s0 : jl_Mm) : jl_O :=
  if v1 < v2 then (jf_J9_max_7cf53_B10 v2 s0) else (jf_J9_max_7cf53_B10 v1 s0)
set_option maxRecDepth 20000 in
set_option maxHeartbeats 2000000 in
theorem jt_J9_max_7cf53 (G : jl_GC) (v1 : Int) (v2 : Int) (h1 : jl_n3 v1) (h2 : jl_n3 v2) (s0 : jl_Mm) : jC2 G jM_J9_max_7cf53 [jl_vi v1, jl_vi v2] s0 (jf_J9_max_7cf53 v1 v2 s0) := by
  refine jl_met (by decide +kernel) (Nat.le_of_ble_eq_true rfl) ?_
  show j2 G jM_J9_max_7cf53 0 [(0, jl_vi v1), (1, jl_vi v2)] [] s0 _
  refine jr_iload_n dJ9_max_7cf53_0 0 rfl ?_
  refine jr_iload_n dJ9_max_7cf53_1 1 rfl ?_
  refine jr_icmp_lt (t := 9) dJ9_max_7cf53_2 (by decide) h1 h2 (fun c1 => ?_) (fun c1 => ?_)
  · refine jr_iload_n dJ9_max_7cf53_9 1 rfl ?_
    refine jr_sub [] rfl ?_
    exact jj_J9_max_7cf53_B10 G v2 h2 s0
  · refine jr_iload_n dJ9_max_7cf53_5 0 rfl ?_
    refine jr_goto (t := 10) dJ9_max_7cf53_6 (by decide) ?_
    refine jr_sub [] rfl ?_
    exact jj_J9_max_7cf53_B10 G v1 h1 s0
def jf_J9_min_7cf53_B10 (k0 : Int) (s0 : jl_Mm) : jl_O :=
  some (k0, s0)
set_option maxRecDepth 20000 in
set_option maxHeartbeats 2000000 in
theorem jj_J9_min_7cf53_B10 (G : jl_GC) (k0 : Int) (hk0 : jl_n3 k0) (s0 : jl_Mm) : j2 G jM_J9_min_7cf53 10 [] [jl_vi k0] s0 (jf_J9_min_7cf53_B10 k0 s0) := by
  exact jr_ret_i rfl hk0 dJ9_min_7cf53_10
def jf_J9_min_7cf53 (v1 : Int) (v2 : Int) (s0 : jl_Mm) : jl_O :=
  if v2 < v1 then (jf_J9_min_7cf53_B10 v2 s0) else (jf_J9_min_7cf53_B10 v1 s0)
set_option maxRecDepth 20000 in
set_option maxHeartbeats 2000000 in
theorem jt_J9_min_7cf53 (G : jl_GC) (v1 : Int) (v2 : Int) (h1 : jl_n3 v1) (h2 : jl_n3 v2) (s0 : jl_Mm) : jC2 G jM_J9_min_7cf53 [jl_vi v1, jl_vi v2] s0 (jf_J9_min_7cf53 v1 v2 s0) := by
  refine jl_met (by decide +kernel) (Nat.le_of_ble_eq_true rfl) ?_
  show j2 G jM_J9_min_7cf53 0 [(0, jl_vi v1), (1, jl_vi v2)] [] s0 _
  refine jr_iload_n dJ9_min_7cf53_0 0 rfl ?_
  refine jr_iload_n dJ9_min_7cf53_1 1 rfl ?_
  refine jr_icmp_gt (t := 9) dJ9_min_7cf53_2 (by decide) h1 h2 (fun c1 => ?_) (fun c1 => ?_)
  · refine jr_iload_n dJ9_min_7cf53_9 1 rfl ?_
    refine jr_sub [] rfl ?_
    exact jj_J9_min_7cf53_B10 G v2 h2 s0
  · refine jr_iload_n dJ9_min_7cf53_5 0 rfl ?_
    refine jr_goto (t := 10) dJ9_min_7cf53_6 (by decide) ?_
    refine jr_sub [] rfl ?_
    exact jj_J9_min_7cf53_B10 G v1 h1 s0
def jf_X5_draughtyBy (v1 : Int) (s0 : jl_Mm) : jl_O :=
  jl_bd (jf_J9_min_7cf53 (9 : Int) v1 s0) fun r1 s2 => jl_bd (jf_J9_max_7cf53 (0 : Int) r1 s2) fun r3 s4 => some (r3, s4)
set_option maxRecDepth 20000 in
set_option maxHeartbeats 2000000 in
theorem jt_X5_draughtyBy (G : jl_GC) (v1 : Int) (h1 : jl_n3 v1) (s0 : jl_Mm) : jC2 G jM_X5_draughtyBy [jl_vi v1] s0 (jf_X5_draughtyBy v1 s0) := by
  refine jl_met (plainFor_of_name rfl) (Nat.le_of_ble_eq_true rfl) ?_
  show j2 G jM_X5_draughtyBy 0 [(0, jl_vi v1)] [] s0 _
  refine jr_iconst dX5_draughtyBy_0 ?_
  refine jr_bipush dX5_draughtyBy_1 (by decide) ?_
  refine jr_iload_n dX5_draughtyBy_3 0 rfl ?_
  refine j2_callSi (As := [jl_vi (9 : Int), jl_vi v1]) dX5_draughtyBy_4 (jt_J9_min_7cf53 G (9 : Int) v1 (jl_nlit rfl) h1 s0) jv_J9_min_7cf53 ⟨rfl, rfl, rfl⟩ jw_820 ⟨Nat.le_of_ble_eq_true rfl, Nat.le_of_ble_eq_true rfl⟩ rfl (Nat.le_of_ble_eq_true rfl) (fun r1 s2 hr1 => ?_)
  refine j2_callSi (As := [jl_vi (0 : Int), jl_vi r1]) dX5_draughtyBy_7 (jt_J9_max_7cf53 G (0 : Int) r1 (jl_nlit rfl) hr1 s2) jv_J9_max_7cf53 ⟨rfl, rfl, rfl⟩ jw_823 ⟨Nat.le_of_ble_eq_true rfl, Nat.le_of_ble_eq_true rfl⟩ rfl (Nat.le_of_ble_eq_true rfl) (fun r3 s4 hr3 => ?_)
  exact jr_ret_i rfl hr3 dX5_draughtyBy_10
def jf_X5_nearTo_B83 (R21 : Nat → Int → Int → Int → Int → jl_Mm → jl_O) (l1 : Nat) (l2 : Int) (l3 : Int) (l4 : Int) (l5 : Int) (s0 : jl_Mm) : jl_O :=
  R21 l1 l2 l3 l4 (jl_add l5 1) s0
set_option maxRecDepth 20000 in
set_option maxHeartbeats 2000000 in
theorem jj_X5_nearTo_B83 (G : jl_GC) (R21 : Nat → Int → Int → Int → Int → jl_Mm → jl_O) (hR21 : ∀ (l1 : Nat) (l2 : Int) (l3 : Int) (l4 : Int) (l5 : Int) (_hl1 : (jl_kd l1).1 = 7) (_hl2 : jl_n3 l2) (_hl3 : jl_n3 l3) (_hl4 : jl_n3 l4) (_hl5 : jl_n3 l5) (s0 : jl_Mm), j2 G jM_X5_nearTo 21 [(0, jl_vr G 190), (1, jl_vr G l1), (2, jl_vi l2), (3, jl_vi l3), (4, jl_vi l4), (5, jl_vi l5)] [] s0 (R21 l1 l2 l3 l4 l5 s0)) (l1 : Nat) (l2 : Int) (l3 : Int) (l4 : Int) (l5 : Int) (hl1 : (jl_kd l1).1 = 7) (hl2 : jl_n3 l2) (hl3 : jl_n3 l3) (hl4 : jl_n3 l4) (hl5 : jl_n3 l5) (s0 : jl_Mm) : j2 G jM_X5_nearTo 83 [(0, jl_vr G 190), (1, jl_vr G l1), (2, jl_vi l2), (3, jl_vi l3), (4, jl_vi l4), (5, jl_vi l5)] [] s0 (jf_X5_nearTo_B83 R21 l1 l2 l3 l4 l5 s0) := by
  refine jr_iinc (j := 5) (lv := [(5, jl_vi (jl_add l5 1)), (0, jl_vr G 190), (1, jl_vr G l1), (2, jl_vi l2), (3, jl_vi l3), (4, jl_vi l4)]) dX5_nearTo_83 rfl (Nat.le_of_ble_eq_true rfl) rfl ?_
  refine jr_goto (t := 21) dX5_nearTo_86 (by decide) ?_
  refine jr_sub [1, 2, 3, 4, 5, 0] rfl ?_
  exact hR21 l1 l2 l3 l4 (jl_add l5 1) hl1 hl2 hl3 hl4 (jl_n3_to _) s0
def jf_X5_nearTo_L21 : Nat → Nat → Int → Int → Int → Int → jl_Mm → jl_O
  | 0, _, _, _, _, _, _ => none
  | n + 1, l1, l2, l3, l4, l5, s0 =>
    if 0 ≤ s0 190 0 ∧ (jl_kd (jl_gr s0 190 0)).1 = 8 then if jl_g s0 (jl_gr s0 190 0) 3 ≤ l5 then (some (l4, s0)) else (if l5 = l2 then (jf_X5_nearTo_B83 (jf_X5_nearTo_L21 n) l1 l2 l3 l4 l5 s0) else (if 0 ≤ l5 ∧ l5 < ((8 : Nat) : Int) then if jl_g s0 (l1 + 2) (l5).toNat ≤ (0 : Int) then (jf_X5_nearTo_B83 (jf_X5_nearTo_L21 n) l1 l2 l3 l4 l5 s0) else (if 0 ≤ s0 190 0 ∧ (jl_kd (jl_gr s0 190 0)).1 = 8 then if 0 ≤ l5 ∧ l5 < ((8 : Nat) : Int) then if 0 ≤ jl_g s0 ((jl_gr s0 190 0) + 5) (l5).toNat ∧ jl_g s0 ((jl_gr s0 190 0) + 5) (l5).toNat < ((6 : Nat) : Int) then jl_let (jl_sub (jl_g s0 (l1 + 1) (jl_g s0 ((jl_gr s0 190 0) + 5) (l5).toNat).toNat) l3) fun x13 => if x13 < (-1 : Int) then (jf_X5_nearTo_B83 (jf_X5_nearTo_L21 n) l1 l2 l3 l4 l5 s0) else (if (1 : Int) < x13 then (jf_X5_nearTo_B83 (jf_X5_nearTo_L21 n) l1 l2 l3 l4 l5 s0) else (jf_X5_nearTo_B83 (jf_X5_nearTo_L21 n) l1 l2 l3 (jl_add l4 1) l5 s0)) else none else none else none) else none)) else none
set_option maxRecDepth 20000 in
set_option maxHeartbeats 2000000 in
theorem jj_X5_nearTo_L21 (G : jl_GC) : ∀ (n : Nat) (l1 : Nat) (l2 : Int) (l3 : Int) (l4 : Int) (l5 : Int) (hl1 : (jl_kd l1).1 = 7) (hl2 : jl_n3 l2) (hl3 : jl_n3 l3) (hl4 : jl_n3 l4) (hl5 : jl_n3 l5) (s0 : jl_Mm), j2 G jM_X5_nearTo 21 [(0, jl_vr G 190), (1, jl_vr G l1), (2, jl_vi l2), (3, jl_vi l3), (4, jl_vi l4), (5, jl_vi l5)] [] s0 (jf_X5_nearTo_L21 n l1 l2 l3 l4 l5 s0) := by
  intro n
  induction n with
  | zero =>
    intros
    exact jr_none
  | succ n ih =>
    intro l1 l2 l3 l4 l5 hl1 hl2 hl3 hl4 hl5 s0
    refine jr_iload dX5_nearTo_21 5 rfl ?_
    refine jr_aload_n dX5_nearTo_23 0 rfl ?_
    refine jr_grd (fun g5 => ?_)
    refine jr_getr (i := 0) jc_5 jk_190 (by decide) (Nat.le_of_ble_eq_true rfl) jlk_190_0 jft_5_0 g5.1 jw_319 dX5_nearTo_24 ?_
    refine jr_getiN (i := 3) jc_8 (jl_kd1 g5.2) (jl_kdlt g5.2 (by decide)) (Nat.le_of_ble_eq_true rfl) (js8n_3 g5.2) jft_8_3 jw_101 dX5_nearTo_27 ?_
    refine jr_icmp_ge (t := 89) dX5_nearTo_30 (by decide) hl5 (jl_n3_to _) (fun c6 => ?_) (fun c6 => ?_)
    · refine jr_iload dX5_nearTo_89 4 rfl ?_
      exact jr_ret_i rfl hl4 dX5_nearTo_91
    · refine jr_iload dX5_nearTo_33 5 rfl ?_
      refine jr_iload_n dX5_nearTo_35 2 rfl ?_
      refine jr_icmp_eq (t := 83) dX5_nearTo_36 (by decide) hl5 hl2 (fun c7 => ?_) (fun c7 => ?_)
      · exact jj_X5_nearTo_B83 G (jf_X5_nearTo_L21 n) (ih) l1 l2 l3 l4 l5 hl1 hl2 hl3 hl4 hl5 s0
      · refine jr_aload_n dX5_nearTo_39 1 rfl ?_
        refine jr_getkN (i := 3) jc_7 (jl_kd1 hl1) (jl_kdlt hl1 (by decide)) (Nat.le_of_ble_eq_true rfl) (js7_3 hl1) jw_249 dX5_nearTo_40 ?_
        refine jr_iload dX5_nearTo_43 5 rfl ?_
        refine jr_grd (fun g8 => ?_)
        refine jr_iaload (js7k_3 hl1) (jl_kdl (js7k_3 hl1) (by decide)) hl5 g8 dX5_nearTo_45 ?_
        refine jr_if_le (t := 83) dX5_nearTo_46 (by decide) (jl_n3_to _) (fun c9 => ?_) (fun c9 => ?_)
        · exact jj_X5_nearTo_B83 G (jf_X5_nearTo_L21 n) (ih) l1 l2 l3 l4 l5 hl1 hl2 hl3 hl4 hl5 s0
        · refine jr_aload_n dX5_nearTo_49 1 rfl ?_
          refine jr_getkN (i := 2) jc_7 (jl_kd1 hl1) (jl_kdlt hl1 (by decide)) (Nat.le_of_ble_eq_true rfl) (js7_2 hl1) jw_245 dX5_nearTo_50 ?_
          refine jr_aload_n dX5_nearTo_53 0 rfl ?_
          refine jr_grd (fun g10 => ?_)
          refine jr_getr (i := 0) jc_5 jk_190 (by decide) (Nat.le_of_ble_eq_true rfl) jlk_190_0 jft_5_0 g10.1 jw_319 dX5_nearTo_54 ?_
          refine jr_getkN (i := 11) jc_8 (jl_kd1 g10.2) (jl_kdlt g10.2 (by decide)) (Nat.le_of_ble_eq_true rfl) (js8_11 g10.2) jw_126 dX5_nearTo_57 ?_
          refine jr_iload dX5_nearTo_60 5 rfl ?_
          refine jr_grd (fun g11 => ?_)
          refine jr_iaload (js8k_11 g10.2) (jl_kdl (js8k_11 g10.2) (by decide)) hl5 g11 dX5_nearTo_62 ?_
          refine jr_grd (fun g12 => ?_)
          refine jr_iaload (js7k_2 hl1) (jl_kdl (js7k_2 hl1) (by decide)) (jl_n3_to _) g12 dX5_nearTo_63 ?_
          refine jr_iload_n dX5_nearTo_64 3 rfl ?_
          refine jr_isub dX5_nearTo_65 ?_
          refine jr_let (jl_n3_to _) (fun x13 hx13 => ?_)
          refine jr_istore (lv := [(6, jl_vi x13), (0, jl_vr G 190), (1, jl_vr G l1), (2, jl_vi l2), (3, jl_vi l3), (4, jl_vi l4), (5, jl_vi l5)]) dX5_nearTo_66 (Nat.le_of_ble_eq_true rfl) rfl ?_
          refine jr_iload dX5_nearTo_68 0 rfl ?_
          refine jr_iconst dX5_nearTo_70 ?_
          refine jr_icmp_lt (t := 83) dX5_nearTo_71 (by decide) hx13 (jl_nlit rfl) (fun c14 => ?_) (fun c14 => ?_)
          · refine jr_sub [1, 2, 3, 4, 5, 6] rfl ?_
            exact jj_X5_nearTo_B83 G (jf_X5_nearTo_L21 n) (ih) l1 l2 l3 l4 l5 hl1 hl2 hl3 hl4 hl5 s0
          · refine jr_iload dX5_nearTo_74 0 rfl ?_
            refine jr_iconst dX5_nearTo_76 ?_
            refine jr_icmp_gt (t := 83) dX5_nearTo_77 (by decide) hx13 (jl_nlit rfl) (fun c15 => ?_) (fun c15 => ?_)
            · refine jr_sub [1, 2, 3, 4, 5, 6] rfl ?_
              exact jj_X5_nearTo_B83 G (jf_X5_nearTo_L21 n) (ih) l1 l2 l3 l4 l5 hl1 hl2 hl3 hl4 hl5 s0
            · refine jr_iinc (j := 5) (lv := [(4, jl_vi (jl_add l4 1)), (6, jl_vi x13), (0, jl_vr G 190), (1, jl_vr G l1), (2, jl_vi l2), (3, jl_vi l3), (5, jl_vi l5)]) dX5_nearTo_80 rfl (Nat.le_of_ble_eq_true rfl) rfl ?_
              refine jr_sub [2, 3, 4, 5, 0, 6] rfl ?_
              exact jj_X5_nearTo_B83 G (jf_X5_nearTo_L21 n) (ih) l1 l2 l3 (jl_add l4 1) l5 hl1 hl2 hl3 (jl_n3_to _) hl5 s0
def jf_X5_nearTo (q1 : Nat) (v2 : Int) (s0 : jl_Mm) : jl_O :=
  if (jl_kd q1).1 = 7 then if 0 ≤ s0 190 0 ∧ (jl_kd (jl_gr s0 190 0)).1 = 8 then if 0 ≤ v2 ∧ v2 < ((8 : Nat) : Int) then if 0 ≤ jl_g s0 ((jl_gr s0 190 0) + 5) (v2).toNat ∧ jl_g s0 ((jl_gr s0 190 0) + 5) (v2).toNat < ((6 : Nat) : Int) then jl_let (jl_g s0 (q1 + 1) (jl_g s0 ((jl_gr s0 190 0) + 5) (v2).toNat).toNat) fun x4 => jf_X5_nearTo_L21 jl_fu q1 v2 x4 (0 : Int) (0 : Int) s0 else none else none else none else none
set_option maxRecDepth 20000 in
set_option maxHeartbeats 2000000 in
theorem jt_X5_nearTo (G : jl_GC) (q1 : Nat) (v2 : Int) (h2 : jl_n3 v2) (s0 : jl_Mm) : jC2 G jM_X5_nearTo [jl_vr G 190, jl_vr G q1, jl_vi v2] s0 (jf_X5_nearTo q1 v2 s0) := by
  refine jl_met (plainFor_of_name rfl) (Nat.le_of_ble_eq_true rfl) ?_
  show j2 G jM_X5_nearTo 0 [(0, jl_vr G 190), (1, jl_vr G q1), (2, jl_vi v2)] [] s0 _
  refine jr_grd (fun gp1 => ?_)
  refine jr_aload_n dX5_nearTo_0 1 rfl ?_
  refine jr_getkN (i := 2) jc_7 (jl_kd1 gp1) (jl_kdlt gp1 (by decide)) (Nat.le_of_ble_eq_true rfl) (js7_2 gp1) jw_245 dX5_nearTo_1 ?_
  refine jr_aload_n dX5_nearTo_4 0 rfl ?_
  refine jr_grd (fun g1 => ?_)
  refine jr_getr (i := 0) jc_5 jk_190 (by decide) (Nat.le_of_ble_eq_true rfl) jlk_190_0 jft_5_0 g1.1 jw_319 dX5_nearTo_5 ?_
  refine jr_getkN (i := 11) jc_8 (jl_kd1 g1.2) (jl_kdlt g1.2 (by decide)) (Nat.le_of_ble_eq_true rfl) (js8_11 g1.2) jw_126 dX5_nearTo_8 ?_
  refine jr_iload_n dX5_nearTo_11 2 rfl ?_
  refine jr_grd (fun g2 => ?_)
  refine jr_iaload (js8k_11 g1.2) (jl_kdl (js8k_11 g1.2) (by decide)) h2 g2 dX5_nearTo_12 ?_
  refine jr_grd (fun g3 => ?_)
  refine jr_iaload (js7k_2 gp1) (jl_kdl (js7k_2 gp1) (by decide)) (jl_n3_to _) g3 dX5_nearTo_13 ?_
  refine jr_let (jl_n3_to _) (fun x4 hx4 => ?_)
  refine jr_istore_n (lv := [(3, jl_vi x4), (0, jl_vr G 190), (1, jl_vr G q1), (2, jl_vi v2)]) dX5_nearTo_14 rfl (Nat.le_of_ble_eq_true rfl) rfl ?_
  refine jr_iconst dX5_nearTo_15 ?_
  refine jr_istore (lv := [(4, jl_vi (0 : Int)), (3, jl_vi x4), (0, jl_vr G 190), (1, jl_vr G q1), (2, jl_vi v2)]) dX5_nearTo_16 (Nat.le_of_ble_eq_true rfl) rfl ?_
  refine jr_iconst dX5_nearTo_18 ?_
  refine jr_istore (lv := [(5, jl_vi (0 : Int)), (4, jl_vi (0 : Int)), (3, jl_vi x4), (0, jl_vr G 190), (1, jl_vr G q1), (2, jl_vi v2)]) dX5_nearTo_19 (Nat.le_of_ble_eq_true rfl) rfl ?_
  refine jr_sub [3, 4, 5, 2, 1, 0] rfl ?_
  exact jj_X5_nearTo_L21 G jl_fu q1 v2 x4 (0 : Int) (0 : Int) gp1 h2 hx4 (jl_nlit rfl) (jl_nlit rfl) s0
def jf_X5_ofOne_B53 (k0 : Int) (s0 : jl_Mm) : jl_O :=
  some (k0, s0)
set_option maxRecDepth 20000 in
set_option maxHeartbeats 2000000 in
theorem jj_X5_ofOne_B53 (G : jl_GC) (k0 : Int) (hk0 : jl_n3 k0) (s0 : jl_Mm) : j2 G jM_X5_ofOne 53 [] [jl_vi k0] s0 (jf_X5_ofOne_B53 k0 s0) := by
  exact jr_ret_i rfl hk0 dX5_ofOne_53
def jf_X5_ofOne_B52 (s0 : jl_Mm) : jl_O :=
  jf_X5_ofOne_B53 (0 : Int) s0
set_option maxRecDepth 20000 in
set_option maxHeartbeats 2000000 in
theorem jj_X5_ofOne_B52 (G : jl_GC) (s0 : jl_Mm) : j2 G jM_X5_ofOne 52 [] [] s0 (jf_X5_ofOne_B52 s0) := by
  refine jr_iconst dX5_ofOne_52 ?_
  exact jj_X5_ofOne_B53 G (0 : Int) (jl_nlit rfl) s0
def jf_X5_ofOne_B79 (k0 : Int) (s0 : jl_Mm) : jl_O :=
  some (k0, s0)
set_option maxRecDepth 20000 in
set_option maxHeartbeats 2000000 in
theorem jj_X5_ofOne_B79 (G : jl_GC) (k0 : Int) (hk0 : jl_n3 k0) (s0 : jl_Mm) : j2 G jM_X5_ofOne 79 [] [jl_vi k0] s0 (jf_X5_ofOne_B79 k0 s0) := by
  exact jr_ret_i rfl hk0 dX5_ofOne_79
def jf_X5_ofOne_B78 (s0 : jl_Mm) : jl_O :=
  jf_X5_ofOne_B79 (0 : Int) s0
set_option maxRecDepth 20000 in
set_option maxHeartbeats 2000000 in
theorem jj_X5_ofOne_B78 (G : jl_GC) (s0 : jl_Mm) : j2 G jM_X5_ofOne 78 [] [] s0 (jf_X5_ofOne_B78 s0) := by
  refine jr_iconst dX5_ofOne_78 ?_
  exact jj_X5_ofOne_B79 G (0 : Int) (jl_nlit rfl) s0
def jf_X5_ofOne (q1 : Nat) (v2 : Int) (v3 : Int) (s0 : jl_Mm) : jl_O :=
  if (jl_kd q1).1 = 7 then if v2 = 24 then (if v3 < (0 : Int) then (jf_X5_ofOne_B52 s0) else (if 0 ≤ s0 190 0 ∧ (jl_kd (jl_gr s0 190 0)).1 = 8 then if jl_g s0 (jl_gr s0 190 0) 3 ≤ v3 then (jf_X5_ofOne_B52 s0) else (if 0 ≤ v3 ∧ v3 < ((8 : Nat) : Int) then jf_X5_ofOne_B53 (jl_g s0 (q1 + 2) (v3).toNat) s0 else none) else none)) else if v2 = 25 then (if v3 < (0 : Int) then (jf_X5_ofOne_B78 s0) else (if 0 ≤ s0 190 0 ∧ (jl_kd (jl_gr s0 190 0)).1 = 8 then if jl_g s0 (jl_gr s0 190 0) 1 ≤ v3 then (jf_X5_ofOne_B78 s0) else (if 0 ≤ v3 ∧ v3 < ((30 : Nat) : Int) then jf_X5_ofOne_B79 (jl_g s0 194 (v3).toNat) s0 else none) else none)) else (some (jl_sub (1 : Int) v3, s0)) else none
set_option maxRecDepth 20000 in
set_option maxHeartbeats 2000000 in
theorem jt_X5_ofOne (G : jl_GC) (q1 : Nat) (v2 : Int) (v3 : Int) (h2 : jl_n3 v2) (h3 : jl_n3 v3) (s0 : jl_Mm) : jC2 G jM_X5_ofOne [jl_vr G 190, jl_vr G q1, jl_vi v2, jl_vi v3] s0 (jf_X5_ofOne q1 v2 v3 s0) := by
  refine jl_met (plainFor_of_name rfl) (Nat.le_of_ble_eq_true rfl) ?_
  show j2 G jM_X5_ofOne 0 [(0, jl_vr G 190), (1, jl_vr G q1), (2, jl_vi v2), (3, jl_vi v3)] [] s0 _
  refine jr_grd (fun gp1 => ?_)
  refine jr_iload_n dX5_ofOne_0 2 rfl ?_
  refine jr_ite (fun c1 => ?_) (fun c1 => ?_)
  · refine jr_look (t := 28) (off := 27) dX5_ofOne_1 h2 (by decide) (by rw [c1] <;> rfl) (by decide) ?_
    refine jr_iload_n dX5_ofOne_28 3 rfl ?_
    refine jr_if_lt (t := 52) dX5_ofOne_29 (by decide) h3 (fun c2 => ?_) (fun c2 => ?_)
    · refine jr_sub [] rfl ?_
      exact jj_X5_ofOne_B52 G s0
    · refine jr_iload_n dX5_ofOne_32 3 rfl ?_
      refine jr_aload_n dX5_ofOne_33 0 rfl ?_
      refine jr_grd (fun g3 => ?_)
      refine jr_getr (i := 0) jc_5 jk_190 (by decide) (Nat.le_of_ble_eq_true rfl) jlk_190_0 jft_5_0 g3.1 jw_319 dX5_ofOne_34 ?_
      refine jr_getiN (i := 3) jc_8 (jl_kd1 g3.2) (jl_kdlt g3.2 (by decide)) (Nat.le_of_ble_eq_true rfl) (js8n_3 g3.2) jft_8_3 jw_101 dX5_ofOne_37 ?_
      refine jr_icmp_ge (t := 52) dX5_ofOne_40 (by decide) h3 (jl_n3_to _) (fun c4 => ?_) (fun c4 => ?_)
      · refine jr_sub [] rfl ?_
        exact jj_X5_ofOne_B52 G s0
      · refine jr_aload_n dX5_ofOne_43 1 rfl ?_
        refine jr_getkN (i := 3) jc_7 (jl_kd1 gp1) (jl_kdlt gp1 (by decide)) (Nat.le_of_ble_eq_true rfl) (js7_3 gp1) jw_249 dX5_ofOne_44 ?_
        refine jr_iload_n dX5_ofOne_47 3 rfl ?_
        refine jr_grd (fun g5 => ?_)
        refine jr_iaload (js7k_3 gp1) (jl_kdl (js7k_3 gp1) (by decide)) h3 g5 dX5_ofOne_48 ?_
        refine jr_goto (t := 53) dX5_ofOne_49 (by decide) ?_
        refine jr_sub [] rfl ?_
        exact jj_X5_ofOne_B53 G (jl_g s0 (q1 + 2) (v3).toNat) (jl_n3_to _) s0
  · skip
    refine jr_ite (fun c6 => ?_) (fun c6 => ?_)
    · refine jr_look (t := 54) (off := 53) dX5_ofOne_1 h2 (by decide) (by rw [c6] <;> rfl) (by decide) ?_
      refine jr_iload_n dX5_ofOne_54 3 rfl ?_
      refine jr_if_lt (t := 78) dX5_ofOne_55 (by decide) h3 (fun c7 => ?_) (fun c7 => ?_)
      · refine jr_sub [] rfl ?_
        exact jj_X5_ofOne_B78 G s0
      · refine jr_iload_n dX5_ofOne_58 3 rfl ?_
        refine jr_aload_n dX5_ofOne_59 0 rfl ?_
        refine jr_grd (fun g8 => ?_)
        refine jr_getr (i := 0) jc_5 jk_190 (by decide) (Nat.le_of_ble_eq_true rfl) jlk_190_0 jft_5_0 g8.1 jw_319 dX5_ofOne_60 ?_
        refine jr_getiN (i := 1) jc_8 (jl_kd1 g8.2) (jl_kdlt g8.2 (by decide)) (Nat.le_of_ble_eq_true rfl) (js8n_1 g8.2) jft_8_1 jw_93 dX5_ofOne_63 ?_
        refine jr_icmp_ge (t := 78) dX5_ofOne_66 (by decide) h3 (jl_n3_to _) (fun c9 => ?_) (fun c9 => ?_)
        · refine jr_sub [] rfl ?_
          exact jj_X5_ofOne_B78 G s0
        · refine jr_aload_n dX5_ofOne_69 0 rfl ?_
          refine jr_getk (i := 4) jc_5 jk_190 (by decide) (Nat.le_of_ble_eq_true rfl) jlk_190_4 jw_326 dX5_ofOne_70 ?_
          refine jr_iload_n dX5_ofOne_73 3 rfl ?_
          refine jr_grd (fun g10 => ?_)
          refine jr_iaload jk_194 (by decide) h3 g10 dX5_ofOne_74 ?_
          refine jr_goto (t := 79) dX5_ofOne_75 (by decide) ?_
          refine jr_sub [] rfl ?_
          exact jj_X5_ofOne_B79 G (jl_g s0 194 (v3).toNat) (jl_n3_to _) s0
    · skip
      refine jr_look (t := 80) (off := 79) dX5_ofOne_1 h2 (by decide) (by simp [Op.lookupswitch.offset, Ne.symm c1, Ne.symm c6]) (by decide) ?_
      refine jr_iconst dX5_ofOne_80 ?_
      refine jr_iload_n dX5_ofOne_81 3 rfl ?_
      refine jr_isub dX5_ofOne_82 ?_
      exact jr_ret_i rfl (jl_n3_to _) dX5_ofOne_83
def jf_J9_floorDiv_7cf53_B21 (l2 : Int) (s0 : jl_Mm) : jl_O :=
  some (l2, s0)
set_option maxRecDepth 20000 in
set_option maxHeartbeats 2000000 in
theorem jj_J9_floorDiv_7cf53_B21 (G : jl_GC) (l2 : Int) (hl2 : jl_n3 l2) (s0 : jl_Mm) : j2 G jM_J9_floorDiv_7cf53 21 [(2, jl_vi l2)] [] s0 (jf_J9_floorDiv_7cf53_B21 l2 s0) := by
  refine jr_iload_n dJ9_floorDiv_7cf53_21 0 rfl ?_
  exact jr_ret_i rfl hl2 dJ9_floorDiv_7cf53_22
def jf_J9_floorDiv_7cf53 (v1 : Int) (v2 : Int) (s0 : jl_Mm) : jl_O :=
  if ¬ v2 = 0 then jl_let (jl_div v1 v2) fun x2 => if (0 : Int) ≤ jl_xor v1 v2 then (jf_J9_floorDiv_7cf53_B21 x2 s0) else (if jl_mul x2 v2 = v1 then (jf_J9_floorDiv_7cf53_B21 x2 s0) else (some (jl_sub x2 (1 : Int), s0))) else none
set_option maxRecDepth 20000 in
set_option maxHeartbeats 2000000 in
theorem jt_J9_floorDiv_7cf53 (G : jl_GC) (v1 : Int) (v2 : Int) (h1 : jl_n3 v1) (h2 : jl_n3 v2) (s0 : jl_Mm) : jC2 G jM_J9_floorDiv_7cf53 [jl_vi v1, jl_vi v2] s0 (jf_J9_floorDiv_7cf53 v1 v2 s0) := by
  refine jl_met (by decide +kernel) (Nat.le_of_ble_eq_true rfl) ?_
  show j2 G jM_J9_floorDiv_7cf53 0 [(0, jl_vi v1), (1, jl_vi v2)] [] s0 _
  refine jr_iload_n dJ9_floorDiv_7cf53_0 0 rfl ?_
  refine jr_iload_n dJ9_floorDiv_7cf53_1 1 rfl ?_
  refine jr_grd (fun g1 => ?_)
  refine jr_idiv dJ9_floorDiv_7cf53_2 h2 g1 ?_
  refine jr_let (jl_n3_to _) (fun x2 hx2 => ?_)
  refine jr_istore_n (lv := [(2, jl_vi x2), (0, jl_vi v1), (1, jl_vi v2)]) dJ9_floorDiv_7cf53_3 rfl (Nat.le_of_ble_eq_true rfl) rfl ?_
  refine jr_iload_n dJ9_floorDiv_7cf53_4 1 rfl ?_
  refine jr_iload_n dJ9_floorDiv_7cf53_5 2 rfl ?_
  refine jr_ixor dJ9_floorDiv_7cf53_6 ?_
  refine jr_if_ge (t := 21) dJ9_floorDiv_7cf53_7 (by decide) (jl_n3_to _) (fun c3 => ?_) (fun c3 => ?_)
  · refine jr_sub [0] rfl ?_
    exact jj_J9_floorDiv_7cf53_B21 G x2 hx2 s0
  · refine jr_iload_n dJ9_floorDiv_7cf53_10 0 rfl ?_
    refine jr_iload_n dJ9_floorDiv_7cf53_11 2 rfl ?_
    refine jr_imul dJ9_floorDiv_7cf53_12 ?_
    refine jr_iload_n dJ9_floorDiv_7cf53_13 1 rfl ?_
    refine jr_icmp_eq (t := 21) dJ9_floorDiv_7cf53_14 (by decide) (jl_n3_to _) h1 (fun c4 => ?_) (fun c4 => ?_)
    · refine jr_sub [0] rfl ?_
      exact jj_J9_floorDiv_7cf53_B21 G x2 hx2 s0
    · refine jr_iload_n dJ9_floorDiv_7cf53_17 0 rfl ?_
      refine jr_iconst dJ9_floorDiv_7cf53_18 ?_
      refine jr_isub dJ9_floorDiv_7cf53_19 ?_
      exact jr_ret_i rfl (jl_n3_to _) dJ9_floorDiv_7cf53_20
def jf_X5_ofTwo_B325 (k0 : Int) (s0 : jl_Mm) : jl_O :=
  some (jl_l2i k0, s0)
set_option maxRecDepth 20000 in
set_option maxHeartbeats 2000000 in
theorem jj_X5_ofTwo_B325 (G : jl_GC) (k0 : Int) (hk0 : jl_n6 k0) (s0 : jl_Mm) : j2 G jM_X5_ofTwo 325 [] [jl_vl k0] s0 (jf_X5_ofTwo_B325 k0 s0) := by
  refine jr_l2i dX5_ofTwo_325 ?_
  exact jr_ret_i rfl (jl_n3_to _) dX5_ofTwo_326
def jf_X5_ofTwo_B296 (l3 : Int) (s0 : jl_Mm) : jl_O :=
  if jl_lcmp l3 (1000000 : Int) ≤ (0 : Int) then (if (0 : Int) ≤ jl_lcmp l3 (-1000000 : Int) then (jf_X5_ofTwo_B325 l3 s0) else (jf_X5_ofTwo_B325 (-1000000 : Int) s0)) else (jf_X5_ofTwo_B325 (1000000 : Int) s0)
set_option maxRecDepth 20000 in
set_option maxHeartbeats 2000000 in
theorem jj_X5_ofTwo_B296 (G : jl_GC) (l3 : Int) (hl3 : jl_n6 l3) (s0 : jl_Mm) : j2 G jM_X5_ofTwo 296 [(3, jl_vl l3)] [] s0 (jf_X5_ofTwo_B296 l3 s0) := by
  refine jr_lload_n dX5_ofTwo_296 0 rfl ?_
  refine jr_ldc2_w (v := 1000000) dX5_ofTwo_297 jw_815 (by decide) ?_
  refine jr_lcmp dX5_ofTwo_300 ?_
  refine jr_if_le (t := 310) dX5_ofTwo_301 (by decide) (jl_n3_to _) (fun c3 => ?_) (fun c3 => ?_)
  · refine jr_lload_n dX5_ofTwo_310 0 rfl ?_
    refine jr_ldc2_w (v := -1000000) dX5_ofTwo_311 jw_816 (by decide) ?_
    refine jr_lcmp dX5_ofTwo_314 ?_
    refine jr_if_ge (t := 324) dX5_ofTwo_315 (by decide) (jl_n3_to _) (fun c4 => ?_) (fun c4 => ?_)
    · refine jr_lload_n dX5_ofTwo_324 0 rfl ?_
      refine jr_sub [] rfl ?_
      exact jj_X5_ofTwo_B325 G l3 hl3 s0
    · refine jr_ldc2_w (v := -1000000) dX5_ofTwo_318 jw_816 (by decide) ?_
      refine jr_goto (t := 325) dX5_ofTwo_321 (by decide) ?_
      refine jr_sub [] rfl ?_
      exact jj_X5_ofTwo_B325 G (-1000000 : Int) (jl_n6lit rfl) s0
  · refine jr_ldc2_w (v := 1000000) dX5_ofTwo_304 jw_815 (by decide) ?_
    refine jr_goto (t := 325) dX5_ofTwo_307 (by decide) ?_
    refine jr_sub [] rfl ?_
    exact jj_X5_ofTwo_B325 G (1000000 : Int) (jl_n6lit rfl) s0
def jf_X5_ofTwo_B279 (k0 : Int) (s0 : jl_Mm) : jl_O :=
  jf_X5_ofTwo_B296 k0 s0
set_option maxRecDepth 20000 in
set_option maxHeartbeats 2000000 in
theorem jj_X5_ofTwo_B279 (G : jl_GC) (k0 : Int) (hk0 : jl_n6 k0) (s0 : jl_Mm) : j2 G jM_X5_ofTwo 279 [] [jl_vl k0] s0 (jf_X5_ofTwo_B279 k0 s0) := by
  refine jr_lstore_n (lv := [(3, jl_vl k0)]) dX5_ofTwo_279 rfl (Nat.le_of_ble_eq_true rfl) rfl ?_
  refine jr_goto (t := 296) dX5_ofTwo_280 (by decide) ?_
  exact jj_X5_ofTwo_B296 G k0 hk0 s0
def jf_X5_ofTwo_B205 (k0 : Int) (s0 : jl_Mm) : jl_O :=
  jf_X5_ofTwo_B296 k0 s0
set_option maxRecDepth 20000 in
set_option maxHeartbeats 2000000 in
theorem jj_X5_ofTwo_B205 (G : jl_GC) (k0 : Int) (hk0 : jl_n6 k0) (s0 : jl_Mm) : j2 G jM_X5_ofTwo 205 [] [jl_vl k0] s0 (jf_X5_ofTwo_B205 k0 s0) := by
  refine jr_lstore_n (lv := [(3, jl_vl k0)]) dX5_ofTwo_205 rfl (Nat.le_of_ble_eq_true rfl) rfl ?_
  refine jr_goto (t := 296) dX5_ofTwo_206 (by decide) ?_
  exact jj_X5_ofTwo_B296 G k0 hk0 s0
def jf_X5_ofTwo_B219 (k0 : Int) (s0 : jl_Mm) : jl_O :=
  jf_X5_ofTwo_B296 k0 s0
set_option maxRecDepth 20000 in
set_option maxHeartbeats 2000000 in
theorem jj_X5_ofTwo_B219 (G : jl_GC) (k0 : Int) (hk0 : jl_n6 k0) (s0 : jl_Mm) : j2 G jM_X5_ofTwo 219 [] [jl_vl k0] s0 (jf_X5_ofTwo_B219 k0 s0) := by
  refine jr_lstore_n (lv := [(3, jl_vl k0)]) dX5_ofTwo_219 rfl (Nat.le_of_ble_eq_true rfl) rfl ?_
  refine jr_goto (t := 296) dX5_ofTwo_220 (by decide) ?_
  exact jj_X5_ofTwo_B296 G k0 hk0 s0
def jf_X5_ofTwo_B247 (k0 : Int) (s0 : jl_Mm) : jl_O :=
  jf_X5_ofTwo_B296 k0 s0
set_option maxRecDepth 20000 in
set_option maxHeartbeats 2000000 in
theorem jj_X5_ofTwo_B247 (G : jl_GC) (k0 : Int) (hk0 : jl_n6 k0) (s0 : jl_Mm) : j2 G jM_X5_ofTwo 247 [] [jl_vl k0] s0 (jf_X5_ofTwo_B247 k0 s0) := by
  refine jr_lstore_n (lv := [(3, jl_vl k0)]) dX5_ofTwo_247 rfl (Nat.le_of_ble_eq_true rfl) rfl ?_
  refine jr_goto (t := 296) dX5_ofTwo_248 (by decide) ?_
  exact jj_X5_ofTwo_B296 G k0 hk0 s0
def jf_X5_ofTwo_B233 (k0 : Int) (s0 : jl_Mm) : jl_O :=
  jf_X5_ofTwo_B296 k0 s0
set_option maxRecDepth 20000 in
set_option maxHeartbeats 2000000 in
theorem jj_X5_ofTwo_B233 (G : jl_GC) (k0 : Int) (hk0 : jl_n6 k0) (s0 : jl_Mm) : j2 G jM_X5_ofTwo 233 [] [jl_vl k0] s0 (jf_X5_ofTwo_B233 k0 s0) := by
  refine jr_lstore_n (lv := [(3, jl_vl k0)]) dX5_ofTwo_233 rfl (Nat.le_of_ble_eq_true rfl) rfl ?_
  refine jr_goto (t := 296) dX5_ofTwo_234 (by decide) ?_
  exact jj_X5_ofTwo_B296 G k0 hk0 s0
def jf_X5_ofTwo_B295 (k0 : Int) (s0 : jl_Mm) : jl_O :=
  jf_X5_ofTwo_B296 k0 s0
set_option maxRecDepth 20000 in
set_option maxHeartbeats 2000000 in
theorem jj_X5_ofTwo_B295 (G : jl_GC) (k0 : Int) (hk0 : jl_n6 k0) (s0 : jl_Mm) : j2 G jM_X5_ofTwo 295 [] [jl_vl k0] s0 (jf_X5_ofTwo_B295 k0 s0) := by
  refine jr_lstore_n (lv := [(3, jl_vl k0)]) dX5_ofTwo_295 rfl (Nat.le_of_ble_eq_true rfl) rfl ?_
  exact jj_X5_ofTwo_B296 G k0 hk0 s0
def jf_X5_ofTwo (v1 : Int) (v2 : Int) (v3 : Int) (s0 : jl_Mm) : jl_O :=
  if v1 = 26 then (jl_let (jl_or v2 v3) fun x2 => jf_X5_ofTwo_B296 x2 s0) else if v1 = 27 then (jl_let (jl_and v2 v3) fun x6 => jf_X5_ofTwo_B296 x6 s0) else if v1 = 30 then (if v3 ≤ v2 then (jf_X5_ofTwo_B279 v3 s0) else (jf_X5_ofTwo_B279 v2 s0)) else if v1 = 42 then (jl_let (jl_lmul v2 v3) fun x10 => jf_X5_ofTwo_B296 x10 s0) else if v1 = 43 then (jl_let (jl_ladd v2 v3) fun x12 => jf_X5_ofTwo_B296 x12 s0) else if v1 = 45 then (jl_let (jl_lsub v2 v3) fun x14 => jf_X5_ofTwo_B296 x14 s0) else if v1 = 47 then (if v3 = (0 : Int) then (jf_X5_ofTwo_B205 (0 : Int) s0) else (jl_bd (jf_J9_floorDiv_7cf53 v2 v3 s0) fun r17 s18 => jf_X5_ofTwo_B205 r17 s18)) else if v1 = 60 then (if v3 ≤ v2 then (jf_X5_ofTwo_B219 (0 : Int) s0) else (jf_X5_ofTwo_B219 (1 : Int) s0)) else if v1 = 61 then (if v2 = v3 then (jf_X5_ofTwo_B247 (1 : Int) s0) else (jf_X5_ofTwo_B247 (0 : Int) s0)) else if v1 = 62 then (if v2 ≤ v3 then (jf_X5_ofTwo_B233 (0 : Int) s0) else (jf_X5_ofTwo_B233 (1 : Int) s0)) else (if v2 ≤ v3 then (jf_X5_ofTwo_B295 v3 s0) else (jf_X5_ofTwo_B295 v2 s0))
set_option maxRecDepth 20000 in
set_option maxHeartbeats 2000000 in
theorem jt_X5_ofTwo (G : jl_GC) (v1 : Int) (v2 : Int) (v3 : Int) (h1 : jl_n3 v1) (h2 : jl_n3 v2) (h3 : jl_n3 v3) (s0 : jl_Mm) : jC2 G jM_X5_ofTwo [jl_vi v1, jl_vi v2, jl_vi v3] s0 (jf_X5_ofTwo v1 v2 v3 s0) := by
  refine jl_met (plainFor_of_name rfl) (Nat.le_of_ble_eq_true rfl) ?_
  show j2 G jM_X5_ofTwo 0 [(0, jl_vi v1), (1, jl_vi v2), (2, jl_vi v3)] [] s0 _
  refine jr_iload_n dX5_ofTwo_0 0 rfl ?_
  refine jr_ite (fun c1 => ?_) (fun c1 => ?_)
  · refine jr_tabIn (t := 251) dX5_ofTwo_1 h1 (by omega) (by omega) (by rw [c1]; rfl) (by decide) ?_
    refine jr_iload_n dX5_ofTwo_251 1 rfl ?_
    refine jr_iload_n dX5_ofTwo_252 2 rfl ?_
    refine jr_ior dX5_ofTwo_253 ?_
    refine jr_i2l dX5_ofTwo_254 (jl_n3_to _) ?_
    refine jr_letl (jl_n36 (jl_n3_to _)) (fun x2 hx2 => ?_)
    refine jr_lstore_n (lv := [(3, jl_vl x2), (0, jl_vi v1), (1, jl_vi v2), (2, jl_vi v3)]) dX5_ofTwo_255 rfl (Nat.le_of_ble_eq_true rfl) rfl ?_
    refine jr_goto (t := 296) dX5_ofTwo_256 (by decide) ?_
    refine jr_sub [0] rfl ?_
    exact jj_X5_ofTwo_B296 G x2 hx2 s0
  · skip
    refine jr_ite (fun c5 => ?_) (fun c5 => ?_)
    · refine jr_tabIn (t := 259) dX5_ofTwo_1 h1 (by omega) (by omega) (by rw [c5]; rfl) (by decide) ?_
      refine jr_iload_n dX5_ofTwo_259 1 rfl ?_
      refine jr_iload_n dX5_ofTwo_260 2 rfl ?_
      refine jr_iand dX5_ofTwo_261 ?_
      refine jr_i2l dX5_ofTwo_262 (jl_n3_to _) ?_
      refine jr_letl (jl_n36 (jl_n3_to _)) (fun x6 hx6 => ?_)
      refine jr_lstore_n (lv := [(3, jl_vl x6), (0, jl_vi v1), (1, jl_vi v2), (2, jl_vi v3)]) dX5_ofTwo_263 rfl (Nat.le_of_ble_eq_true rfl) rfl ?_
      refine jr_goto (t := 296) dX5_ofTwo_264 (by decide) ?_
      refine jr_sub [0] rfl ?_
      exact jj_X5_ofTwo_B296 G x6 hx6 s0
    · skip
      refine jr_ite (fun c7 => ?_) (fun c7 => ?_)
      · refine jr_tabIn (t := 267) dX5_ofTwo_1 h1 (by omega) (by omega) (by rw [c7]; rfl) (by decide) ?_
        refine jr_iload_n dX5_ofTwo_267 1 rfl ?_
        refine jr_iload_n dX5_ofTwo_268 2 rfl ?_
        refine jr_icmp_ge (t := 277) dX5_ofTwo_269 (by decide) h2 h3 (fun c8 => ?_) (fun c8 => ?_)
        · refine jr_iload_n dX5_ofTwo_277 2 rfl ?_
          refine jr_i2l dX5_ofTwo_278 h3 ?_
          refine jr_sub [] rfl ?_
          exact jj_X5_ofTwo_B279 G v3 (jl_n36 h3) s0
        · refine jr_iload_n dX5_ofTwo_272 1 rfl ?_
          refine jr_i2l dX5_ofTwo_273 h2 ?_
          refine jr_goto (t := 279) dX5_ofTwo_274 (by decide) ?_
          refine jr_sub [] rfl ?_
          exact jj_X5_ofTwo_B279 G v2 (jl_n36 h2) s0
      · skip
        refine jr_ite (fun c9 => ?_) (fun c9 => ?_)
        · refine jr_tabIn (t := 182) dX5_ofTwo_1 h1 (by omega) (by omega) (by rw [c9]; rfl) (by decide) ?_
          refine jr_iload_n dX5_ofTwo_182 1 rfl ?_
          refine jr_i2l dX5_ofTwo_183 h2 ?_
          refine jr_iload_n dX5_ofTwo_184 2 rfl ?_
          refine jr_i2l dX5_ofTwo_185 h3 ?_
          refine jr_lmul dX5_ofTwo_186 ?_
          refine jr_letl (jl_n6_to _) (fun x10 hx10 => ?_)
          refine jr_lstore_n (lv := [(3, jl_vl x10), (0, jl_vi v1), (1, jl_vi v2), (2, jl_vi v3)]) dX5_ofTwo_187 rfl (Nat.le_of_ble_eq_true rfl) rfl ?_
          refine jr_goto (t := 296) dX5_ofTwo_188 (by decide) ?_
          refine jr_sub [0] rfl ?_
          exact jj_X5_ofTwo_B296 G x10 hx10 s0
        · skip
          refine jr_ite (fun c11 => ?_) (fun c11 => ?_)
          · refine jr_tabIn (t := 164) dX5_ofTwo_1 h1 (by omega) (by omega) (by rw [c11]; rfl) (by decide) ?_
            refine jr_iload_n dX5_ofTwo_164 1 rfl ?_
            refine jr_i2l dX5_ofTwo_165 h2 ?_
            refine jr_iload_n dX5_ofTwo_166 2 rfl ?_
            refine jr_i2l dX5_ofTwo_167 h3 ?_
            refine jr_ladd dX5_ofTwo_168 ?_
            refine jr_letl (jl_n6_to _) (fun x12 hx12 => ?_)
            refine jr_lstore_n (lv := [(3, jl_vl x12), (0, jl_vi v1), (1, jl_vi v2), (2, jl_vi v3)]) dX5_ofTwo_169 rfl (Nat.le_of_ble_eq_true rfl) rfl ?_
            refine jr_goto (t := 296) dX5_ofTwo_170 (by decide) ?_
            refine jr_sub [0] rfl ?_
            exact jj_X5_ofTwo_B296 G x12 hx12 s0
          · skip
            refine jr_ite (fun c13 => ?_) (fun c13 => ?_)
            · refine jr_tabIn (t := 173) dX5_ofTwo_1 h1 (by omega) (by omega) (by rw [c13]; rfl) (by decide) ?_
              refine jr_iload_n dX5_ofTwo_173 1 rfl ?_
              refine jr_i2l dX5_ofTwo_174 h2 ?_
              refine jr_iload_n dX5_ofTwo_175 2 rfl ?_
              refine jr_i2l dX5_ofTwo_176 h3 ?_
              refine jr_lsub dX5_ofTwo_177 ?_
              refine jr_letl (jl_n6_to _) (fun x14 hx14 => ?_)
              refine jr_lstore_n (lv := [(3, jl_vl x14), (0, jl_vi v1), (1, jl_vi v2), (2, jl_vi v3)]) dX5_ofTwo_178 rfl (Nat.le_of_ble_eq_true rfl) rfl ?_
              refine jr_goto (t := 296) dX5_ofTwo_179 (by decide) ?_
              refine jr_sub [0] rfl ?_
              exact jj_X5_ofTwo_B296 G x14 hx14 s0
            · skip
              refine jr_ite (fun c15 => ?_) (fun c15 => ?_)
              · refine jr_tabIn (t := 191) dX5_ofTwo_1 h1 (by omega) (by omega) (by rw [c15]; rfl) (by decide) ?_
                refine jr_iload_n dX5_ofTwo_191 2 rfl ?_
                refine jr_if_ne (t := 199) dX5_ofTwo_192 (by decide) h3 (fun c16 => ?_) (fun c16 => ?_)
                · refine jr_lconst (v := 0) dX5_ofTwo_195 (by decide) ?_
                  refine jr_goto (t := 205) dX5_ofTwo_196 (by decide) ?_
                  refine jr_sub [] rfl ?_
                  exact jj_X5_ofTwo_B205 G (0 : Int) (jl_n6lit rfl) s0
                · refine jr_iload_n dX5_ofTwo_199 1 rfl ?_
                  refine jr_iload_n dX5_ofTwo_200 2 rfl ?_
                  refine j2_callSi (As := [jl_vi v2, jl_vi v3]) dX5_ofTwo_201 (jt_J9_floorDiv_7cf53 G v2 v3 h2 h3 s0) jv_J9_floorDiv_7cf53 ⟨rfl, rfl, rfl⟩ jw_812 ⟨Nat.le_of_ble_eq_true rfl, Nat.le_of_ble_eq_true rfl⟩ rfl (Nat.le_of_ble_eq_true rfl) (fun r17 s18 hr17 => ?_)
                  refine jr_i2l dX5_ofTwo_204 hr17 ?_
                  refine jr_sub [] rfl ?_
                  exact jj_X5_ofTwo_B205 G r17 (jl_n36 hr17) s18
              · skip
                refine jr_ite (fun c19 => ?_) (fun c19 => ?_)
                · refine jr_tabIn (t := 209) dX5_ofTwo_1 h1 (by omega) (by omega) (by rw [c19]; rfl) (by decide) ?_
                  refine jr_iload_n dX5_ofTwo_209 1 rfl ?_
                  refine jr_iload_n dX5_ofTwo_210 2 rfl ?_
                  refine jr_icmp_ge (t := 218) dX5_ofTwo_211 (by decide) h2 h3 (fun c20 => ?_) (fun c20 => ?_)
                  · refine jr_lconst (v := 0) dX5_ofTwo_218 (by decide) ?_
                    refine jr_sub [] rfl ?_
                    exact jj_X5_ofTwo_B219 G (0 : Int) (jl_n6lit rfl) s0
                  · refine jr_lconst (v := 1) dX5_ofTwo_214 (by decide) ?_
                    refine jr_goto (t := 219) dX5_ofTwo_215 (by decide) ?_
                    refine jr_sub [] rfl ?_
                    exact jj_X5_ofTwo_B219 G (1 : Int) (jl_n6lit rfl) s0
                · skip
                  refine jr_ite (fun c21 => ?_) (fun c21 => ?_)
                  · refine jr_tabIn (t := 237) dX5_ofTwo_1 h1 (by omega) (by omega) (by rw [c21]; rfl) (by decide) ?_
                    refine jr_iload_n dX5_ofTwo_237 1 rfl ?_
                    refine jr_iload_n dX5_ofTwo_238 2 rfl ?_
                    refine jr_icmp_ne (t := 246) dX5_ofTwo_239 (by decide) h2 h3 (fun c22 => ?_) (fun c22 => ?_)
                    · refine jr_lconst (v := 1) dX5_ofTwo_242 (by decide) ?_
                      refine jr_goto (t := 247) dX5_ofTwo_243 (by decide) ?_
                      refine jr_sub [] rfl ?_
                      exact jj_X5_ofTwo_B247 G (1 : Int) (jl_n6lit rfl) s0
                    · refine jr_lconst (v := 0) dX5_ofTwo_246 (by decide) ?_
                      refine jr_sub [] rfl ?_
                      exact jj_X5_ofTwo_B247 G (0 : Int) (jl_n6lit rfl) s0
                  · skip
                    refine jr_ite (fun c23 => ?_) (fun c23 => ?_)
                    · refine jr_tabIn (t := 223) dX5_ofTwo_1 h1 (by omega) (by omega) (by rw [c23]; rfl) (by decide) ?_
                      refine jr_iload_n dX5_ofTwo_223 1 rfl ?_
                      refine jr_iload_n dX5_ofTwo_224 2 rfl ?_
                      refine jr_icmp_le (t := 232) dX5_ofTwo_225 (by decide) h2 h3 (fun c24 => ?_) (fun c24 => ?_)
                      · refine jr_lconst (v := 0) dX5_ofTwo_232 (by decide) ?_
                        refine jr_sub [] rfl ?_
                        exact jj_X5_ofTwo_B233 G (0 : Int) (jl_n6lit rfl) s0
                      · refine jr_lconst (v := 1) dX5_ofTwo_228 (by decide) ?_
                        refine jr_goto (t := 233) dX5_ofTwo_229 (by decide) ?_
                        refine jr_sub [] rfl ?_
                        exact jj_X5_ofTwo_B233 G (1 : Int) (jl_n6lit rfl) s0
                    · skip
                      rcases Decidable.em (v1 = 28) with c26 | c26
                      · refine jr_tabIn (t := 283) dX5_ofTwo_1 h1 (by omega) (by omega) (by rw [c26]; rfl) (by decide) ?_
                        refine jr_iload_n dX5_ofTwo_283 1 rfl ?_
                        refine jr_iload_n dX5_ofTwo_284 2 rfl ?_
                        refine jr_icmp_le (t := 293) dX5_ofTwo_285 (by decide) h2 h3 (fun c25 => ?_) (fun c25 => ?_)
                        · refine jr_iload_n dX5_ofTwo_293 2 rfl ?_
                          refine jr_i2l dX5_ofTwo_294 h3 ?_
                          refine jr_sub [] rfl ?_
                          exact jj_X5_ofTwo_B295 G v3 (jl_n36 h3) s0
                        · refine jr_iload_n dX5_ofTwo_288 1 rfl ?_
                          refine jr_i2l dX5_ofTwo_289 h2 ?_
                          refine jr_goto (t := 295) dX5_ofTwo_290 (by decide) ?_
                          refine jr_sub [] rfl ?_
                          exact jj_X5_ofTwo_B295 G v2 (jl_n36 h2) s0
                      rcases Decidable.em (v1 = 29) with c27 | c27
                      · refine jr_tabIn (t := 283) dX5_ofTwo_1 h1 (by omega) (by omega) (by rw [c27]; rfl) (by decide) ?_
                        refine jr_iload_n dX5_ofTwo_283 1 rfl ?_
                        refine jr_iload_n dX5_ofTwo_284 2 rfl ?_
                        refine jr_icmp_le (t := 293) dX5_ofTwo_285 (by decide) h2 h3 (fun c25 => ?_) (fun c25 => ?_)
                        · refine jr_iload_n dX5_ofTwo_293 2 rfl ?_
                          refine jr_i2l dX5_ofTwo_294 h3 ?_
                          refine jr_sub [] rfl ?_
                          exact jj_X5_ofTwo_B295 G v3 (jl_n36 h3) s0
                        · refine jr_iload_n dX5_ofTwo_288 1 rfl ?_
                          refine jr_i2l dX5_ofTwo_289 h2 ?_
                          refine jr_goto (t := 295) dX5_ofTwo_290 (by decide) ?_
                          refine jr_sub [] rfl ?_
                          exact jj_X5_ofTwo_B295 G v2 (jl_n36 h2) s0
                      rcases Decidable.em (v1 = 31) with c28 | c28
                      · refine jr_tabIn (t := 283) dX5_ofTwo_1 h1 (by omega) (by omega) (by rw [c28]; rfl) (by decide) ?_
                        refine jr_iload_n dX5_ofTwo_283 1 rfl ?_
                        refine jr_iload_n dX5_ofTwo_284 2 rfl ?_
                        refine jr_icmp_le (t := 293) dX5_ofTwo_285 (by decide) h2 h3 (fun c25 => ?_) (fun c25 => ?_)
                        · refine jr_iload_n dX5_ofTwo_293 2 rfl ?_
                          refine jr_i2l dX5_ofTwo_294 h3 ?_
                          refine jr_sub [] rfl ?_
                          exact jj_X5_ofTwo_B295 G v3 (jl_n36 h3) s0
                        · refine jr_iload_n dX5_ofTwo_288 1 rfl ?_
                          refine jr_i2l dX5_ofTwo_289 h2 ?_
                          refine jr_goto (t := 295) dX5_ofTwo_290 (by decide) ?_
                          refine jr_sub [] rfl ?_
                          exact jj_X5_ofTwo_B295 G v2 (jl_n36 h2) s0
                      rcases Decidable.em (v1 = 32) with c29 | c29
                      · refine jr_tabIn (t := 283) dX5_ofTwo_1 h1 (by omega) (by omega) (by rw [c29]; rfl) (by decide) ?_
                        refine jr_iload_n dX5_ofTwo_283 1 rfl ?_
                        refine jr_iload_n dX5_ofTwo_284 2 rfl ?_
                        refine jr_icmp_le (t := 293) dX5_ofTwo_285 (by decide) h2 h3 (fun c25 => ?_) (fun c25 => ?_)
                        · refine jr_iload_n dX5_ofTwo_293 2 rfl ?_
                          refine jr_i2l dX5_ofTwo_294 h3 ?_
                          refine jr_sub [] rfl ?_
                          exact jj_X5_ofTwo_B295 G v3 (jl_n36 h3) s0
                        · refine jr_iload_n dX5_ofTwo_288 1 rfl ?_
                          refine jr_i2l dX5_ofTwo_289 h2 ?_
                          refine jr_goto (t := 295) dX5_ofTwo_290 (by decide) ?_
                          refine jr_sub [] rfl ?_
                          exact jj_X5_ofTwo_B295 G v2 (jl_n36 h2) s0
                      rcases Decidable.em (v1 = 33) with c30 | c30
                      · refine jr_tabIn (t := 283) dX5_ofTwo_1 h1 (by omega) (by omega) (by rw [c30]; rfl) (by decide) ?_
                        refine jr_iload_n dX5_ofTwo_283 1 rfl ?_
                        refine jr_iload_n dX5_ofTwo_284 2 rfl ?_
                        refine jr_icmp_le (t := 293) dX5_ofTwo_285 (by decide) h2 h3 (fun c25 => ?_) (fun c25 => ?_)
                        · refine jr_iload_n dX5_ofTwo_293 2 rfl ?_
                          refine jr_i2l dX5_ofTwo_294 h3 ?_
                          refine jr_sub [] rfl ?_
                          exact jj_X5_ofTwo_B295 G v3 (jl_n36 h3) s0
                        · refine jr_iload_n dX5_ofTwo_288 1 rfl ?_
                          refine jr_i2l dX5_ofTwo_289 h2 ?_
                          refine jr_goto (t := 295) dX5_ofTwo_290 (by decide) ?_
                          refine jr_sub [] rfl ?_
                          exact jj_X5_ofTwo_B295 G v2 (jl_n36 h2) s0
                      rcases Decidable.em (v1 = 34) with c31 | c31
                      · refine jr_tabIn (t := 283) dX5_ofTwo_1 h1 (by omega) (by omega) (by rw [c31]; rfl) (by decide) ?_
                        refine jr_iload_n dX5_ofTwo_283 1 rfl ?_
                        refine jr_iload_n dX5_ofTwo_284 2 rfl ?_
                        refine jr_icmp_le (t := 293) dX5_ofTwo_285 (by decide) h2 h3 (fun c25 => ?_) (fun c25 => ?_)
                        · refine jr_iload_n dX5_ofTwo_293 2 rfl ?_
                          refine jr_i2l dX5_ofTwo_294 h3 ?_
                          refine jr_sub [] rfl ?_
                          exact jj_X5_ofTwo_B295 G v3 (jl_n36 h3) s0
                        · refine jr_iload_n dX5_ofTwo_288 1 rfl ?_
                          refine jr_i2l dX5_ofTwo_289 h2 ?_
                          refine jr_goto (t := 295) dX5_ofTwo_290 (by decide) ?_
                          refine jr_sub [] rfl ?_
                          exact jj_X5_ofTwo_B295 G v2 (jl_n36 h2) s0
                      rcases Decidable.em (v1 = 35) with c32 | c32
                      · refine jr_tabIn (t := 283) dX5_ofTwo_1 h1 (by omega) (by omega) (by rw [c32]; rfl) (by decide) ?_
                        refine jr_iload_n dX5_ofTwo_283 1 rfl ?_
                        refine jr_iload_n dX5_ofTwo_284 2 rfl ?_
                        refine jr_icmp_le (t := 293) dX5_ofTwo_285 (by decide) h2 h3 (fun c25 => ?_) (fun c25 => ?_)
                        · refine jr_iload_n dX5_ofTwo_293 2 rfl ?_
                          refine jr_i2l dX5_ofTwo_294 h3 ?_
                          refine jr_sub [] rfl ?_
                          exact jj_X5_ofTwo_B295 G v3 (jl_n36 h3) s0
                        · refine jr_iload_n dX5_ofTwo_288 1 rfl ?_
                          refine jr_i2l dX5_ofTwo_289 h2 ?_
                          refine jr_goto (t := 295) dX5_ofTwo_290 (by decide) ?_
                          refine jr_sub [] rfl ?_
                          exact jj_X5_ofTwo_B295 G v2 (jl_n36 h2) s0
                      rcases Decidable.em (v1 = 36) with c33 | c33
                      · refine jr_tabIn (t := 283) dX5_ofTwo_1 h1 (by omega) (by omega) (by rw [c33]; rfl) (by decide) ?_
                        refine jr_iload_n dX5_ofTwo_283 1 rfl ?_
                        refine jr_iload_n dX5_ofTwo_284 2 rfl ?_
                        refine jr_icmp_le (t := 293) dX5_ofTwo_285 (by decide) h2 h3 (fun c25 => ?_) (fun c25 => ?_)
                        · refine jr_iload_n dX5_ofTwo_293 2 rfl ?_
                          refine jr_i2l dX5_ofTwo_294 h3 ?_
                          refine jr_sub [] rfl ?_
                          exact jj_X5_ofTwo_B295 G v3 (jl_n36 h3) s0
                        · refine jr_iload_n dX5_ofTwo_288 1 rfl ?_
                          refine jr_i2l dX5_ofTwo_289 h2 ?_
                          refine jr_goto (t := 295) dX5_ofTwo_290 (by decide) ?_
                          refine jr_sub [] rfl ?_
                          exact jj_X5_ofTwo_B295 G v2 (jl_n36 h2) s0
                      rcases Decidable.em (v1 = 37) with c34 | c34
                      · refine jr_tabIn (t := 283) dX5_ofTwo_1 h1 (by omega) (by omega) (by rw [c34]; rfl) (by decide) ?_
                        refine jr_iload_n dX5_ofTwo_283 1 rfl ?_
                        refine jr_iload_n dX5_ofTwo_284 2 rfl ?_
                        refine jr_icmp_le (t := 293) dX5_ofTwo_285 (by decide) h2 h3 (fun c25 => ?_) (fun c25 => ?_)
                        · refine jr_iload_n dX5_ofTwo_293 2 rfl ?_
                          refine jr_i2l dX5_ofTwo_294 h3 ?_
                          refine jr_sub [] rfl ?_
                          exact jj_X5_ofTwo_B295 G v3 (jl_n36 h3) s0
                        · refine jr_iload_n dX5_ofTwo_288 1 rfl ?_
                          refine jr_i2l dX5_ofTwo_289 h2 ?_
                          refine jr_goto (t := 295) dX5_ofTwo_290 (by decide) ?_
                          refine jr_sub [] rfl ?_
                          exact jj_X5_ofTwo_B295 G v2 (jl_n36 h2) s0
                      rcases Decidable.em (v1 = 38) with c35 | c35
                      · refine jr_tabIn (t := 283) dX5_ofTwo_1 h1 (by omega) (by omega) (by rw [c35]; rfl) (by decide) ?_
                        refine jr_iload_n dX5_ofTwo_283 1 rfl ?_
                        refine jr_iload_n dX5_ofTwo_284 2 rfl ?_
                        refine jr_icmp_le (t := 293) dX5_ofTwo_285 (by decide) h2 h3 (fun c25 => ?_) (fun c25 => ?_)
                        · refine jr_iload_n dX5_ofTwo_293 2 rfl ?_
                          refine jr_i2l dX5_ofTwo_294 h3 ?_
                          refine jr_sub [] rfl ?_
                          exact jj_X5_ofTwo_B295 G v3 (jl_n36 h3) s0
                        · refine jr_iload_n dX5_ofTwo_288 1 rfl ?_
                          refine jr_i2l dX5_ofTwo_289 h2 ?_
                          refine jr_goto (t := 295) dX5_ofTwo_290 (by decide) ?_
                          refine jr_sub [] rfl ?_
                          exact jj_X5_ofTwo_B295 G v2 (jl_n36 h2) s0
                      rcases Decidable.em (v1 = 39) with c36 | c36
                      · refine jr_tabIn (t := 283) dX5_ofTwo_1 h1 (by omega) (by omega) (by rw [c36]; rfl) (by decide) ?_
                        refine jr_iload_n dX5_ofTwo_283 1 rfl ?_
                        refine jr_iload_n dX5_ofTwo_284 2 rfl ?_
                        refine jr_icmp_le (t := 293) dX5_ofTwo_285 (by decide) h2 h3 (fun c25 => ?_) (fun c25 => ?_)
                        · refine jr_iload_n dX5_ofTwo_293 2 rfl ?_
                          refine jr_i2l dX5_ofTwo_294 h3 ?_
                          refine jr_sub [] rfl ?_
                          exact jj_X5_ofTwo_B295 G v3 (jl_n36 h3) s0
                        · refine jr_iload_n dX5_ofTwo_288 1 rfl ?_
                          refine jr_i2l dX5_ofTwo_289 h2 ?_
                          refine jr_goto (t := 295) dX5_ofTwo_290 (by decide) ?_
                          refine jr_sub [] rfl ?_
                          exact jj_X5_ofTwo_B295 G v2 (jl_n36 h2) s0
                      rcases Decidable.em (v1 = 40) with c37 | c37
                      · refine jr_tabIn (t := 283) dX5_ofTwo_1 h1 (by omega) (by omega) (by rw [c37]; rfl) (by decide) ?_
                        refine jr_iload_n dX5_ofTwo_283 1 rfl ?_
                        refine jr_iload_n dX5_ofTwo_284 2 rfl ?_
                        refine jr_icmp_le (t := 293) dX5_ofTwo_285 (by decide) h2 h3 (fun c25 => ?_) (fun c25 => ?_)
                        · refine jr_iload_n dX5_ofTwo_293 2 rfl ?_
                          refine jr_i2l dX5_ofTwo_294 h3 ?_
                          refine jr_sub [] rfl ?_
                          exact jj_X5_ofTwo_B295 G v3 (jl_n36 h3) s0
                        · refine jr_iload_n dX5_ofTwo_288 1 rfl ?_
                          refine jr_i2l dX5_ofTwo_289 h2 ?_
                          refine jr_goto (t := 295) dX5_ofTwo_290 (by decide) ?_
                          refine jr_sub [] rfl ?_
                          exact jj_X5_ofTwo_B295 G v2 (jl_n36 h2) s0
                      rcases Decidable.em (v1 = 41) with c38 | c38
                      · refine jr_tabIn (t := 283) dX5_ofTwo_1 h1 (by omega) (by omega) (by rw [c38]; rfl) (by decide) ?_
                        refine jr_iload_n dX5_ofTwo_283 1 rfl ?_
                        refine jr_iload_n dX5_ofTwo_284 2 rfl ?_
                        refine jr_icmp_le (t := 293) dX5_ofTwo_285 (by decide) h2 h3 (fun c25 => ?_) (fun c25 => ?_)
                        · refine jr_iload_n dX5_ofTwo_293 2 rfl ?_
                          refine jr_i2l dX5_ofTwo_294 h3 ?_
                          refine jr_sub [] rfl ?_
                          exact jj_X5_ofTwo_B295 G v3 (jl_n36 h3) s0
                        · refine jr_iload_n dX5_ofTwo_288 1 rfl ?_
                          refine jr_i2l dX5_ofTwo_289 h2 ?_
                          refine jr_goto (t := 295) dX5_ofTwo_290 (by decide) ?_
                          refine jr_sub [] rfl ?_
                          exact jj_X5_ofTwo_B295 G v2 (jl_n36 h2) s0
                      rcases Decidable.em (v1 = 44) with c39 | c39
                      · refine jr_tabIn (t := 283) dX5_ofTwo_1 h1 (by omega) (by omega) (by rw [c39]; rfl) (by decide) ?_
                        refine jr_iload_n dX5_ofTwo_283 1 rfl ?_
                        refine jr_iload_n dX5_ofTwo_284 2 rfl ?_
                        refine jr_icmp_le (t := 293) dX5_ofTwo_285 (by decide) h2 h3 (fun c25 => ?_) (fun c25 => ?_)
                        · refine jr_iload_n dX5_ofTwo_293 2 rfl ?_
                          refine jr_i2l dX5_ofTwo_294 h3 ?_
                          refine jr_sub [] rfl ?_
                          exact jj_X5_ofTwo_B295 G v3 (jl_n36 h3) s0
                        · refine jr_iload_n dX5_ofTwo_288 1 rfl ?_
                          refine jr_i2l dX5_ofTwo_289 h2 ?_
                          refine jr_goto (t := 295) dX5_ofTwo_290 (by decide) ?_
                          refine jr_sub [] rfl ?_
                          exact jj_X5_ofTwo_B295 G v2 (jl_n36 h2) s0
                      rcases Decidable.em (v1 = 46) with c40 | c40
                      · refine jr_tabIn (t := 283) dX5_ofTwo_1 h1 (by omega) (by omega) (by rw [c40]; rfl) (by decide) ?_
                        refine jr_iload_n dX5_ofTwo_283 1 rfl ?_
                        refine jr_iload_n dX5_ofTwo_284 2 rfl ?_
                        refine jr_icmp_le (t := 293) dX5_ofTwo_285 (by decide) h2 h3 (fun c25 => ?_) (fun c25 => ?_)
                        · refine jr_iload_n dX5_ofTwo_293 2 rfl ?_
                          refine jr_i2l dX5_ofTwo_294 h3 ?_
                          refine jr_sub [] rfl ?_
                          exact jj_X5_ofTwo_B295 G v3 (jl_n36 h3) s0
                        · refine jr_iload_n dX5_ofTwo_288 1 rfl ?_
                          refine jr_i2l dX5_ofTwo_289 h2 ?_
                          refine jr_goto (t := 295) dX5_ofTwo_290 (by decide) ?_
                          refine jr_sub [] rfl ?_
                          exact jj_X5_ofTwo_B295 G v2 (jl_n36 h2) s0
                      rcases Decidable.em (v1 = 48) with c41 | c41
                      · refine jr_tabIn (t := 283) dX5_ofTwo_1 h1 (by omega) (by omega) (by rw [c41]; rfl) (by decide) ?_
                        refine jr_iload_n dX5_ofTwo_283 1 rfl ?_
                        refine jr_iload_n dX5_ofTwo_284 2 rfl ?_
                        refine jr_icmp_le (t := 293) dX5_ofTwo_285 (by decide) h2 h3 (fun c25 => ?_) (fun c25 => ?_)
                        · refine jr_iload_n dX5_ofTwo_293 2 rfl ?_
                          refine jr_i2l dX5_ofTwo_294 h3 ?_
                          refine jr_sub [] rfl ?_
                          exact jj_X5_ofTwo_B295 G v3 (jl_n36 h3) s0
                        · refine jr_iload_n dX5_ofTwo_288 1 rfl ?_
                          refine jr_i2l dX5_ofTwo_289 h2 ?_
                          refine jr_goto (t := 295) dX5_ofTwo_290 (by decide) ?_
                          refine jr_sub [] rfl ?_
                          exact jj_X5_ofTwo_B295 G v2 (jl_n36 h2) s0
                      rcases Decidable.em (v1 = 49) with c42 | c42
                      · refine jr_tabIn (t := 283) dX5_ofTwo_1 h1 (by omega) (by omega) (by rw [c42]; rfl) (by decide) ?_
                        refine jr_iload_n dX5_ofTwo_283 1 rfl ?_
                        refine jr_iload_n dX5_ofTwo_284 2 rfl ?_
                        refine jr_icmp_le (t := 293) dX5_ofTwo_285 (by decide) h2 h3 (fun c25 => ?_) (fun c25 => ?_)
                        · refine jr_iload_n dX5_ofTwo_293 2 rfl ?_
                          refine jr_i2l dX5_ofTwo_294 h3 ?_
                          refine jr_sub [] rfl ?_
                          exact jj_X5_ofTwo_B295 G v3 (jl_n36 h3) s0
                        · refine jr_iload_n dX5_ofTwo_288 1 rfl ?_
                          refine jr_i2l dX5_ofTwo_289 h2 ?_
                          refine jr_goto (t := 295) dX5_ofTwo_290 (by decide) ?_
                          refine jr_sub [] rfl ?_
                          exact jj_X5_ofTwo_B295 G v2 (jl_n36 h2) s0
                      rcases Decidable.em (v1 = 50) with c43 | c43
                      · refine jr_tabIn (t := 283) dX5_ofTwo_1 h1 (by omega) (by omega) (by rw [c43]; rfl) (by decide) ?_
                        refine jr_iload_n dX5_ofTwo_283 1 rfl ?_
                        refine jr_iload_n dX5_ofTwo_284 2 rfl ?_
                        refine jr_icmp_le (t := 293) dX5_ofTwo_285 (by decide) h2 h3 (fun c25 => ?_) (fun c25 => ?_)
                        · refine jr_iload_n dX5_ofTwo_293 2 rfl ?_
                          refine jr_i2l dX5_ofTwo_294 h3 ?_
                          refine jr_sub [] rfl ?_
                          exact jj_X5_ofTwo_B295 G v3 (jl_n36 h3) s0
                        · refine jr_iload_n dX5_ofTwo_288 1 rfl ?_
                          refine jr_i2l dX5_ofTwo_289 h2 ?_
                          refine jr_goto (t := 295) dX5_ofTwo_290 (by decide) ?_
                          refine jr_sub [] rfl ?_
                          exact jj_X5_ofTwo_B295 G v2 (jl_n36 h2) s0
                      rcases Decidable.em (v1 = 51) with c44 | c44
                      · refine jr_tabIn (t := 283) dX5_ofTwo_1 h1 (by omega) (by omega) (by rw [c44]; rfl) (by decide) ?_
                        refine jr_iload_n dX5_ofTwo_283 1 rfl ?_
                        refine jr_iload_n dX5_ofTwo_284 2 rfl ?_
                        refine jr_icmp_le (t := 293) dX5_ofTwo_285 (by decide) h2 h3 (fun c25 => ?_) (fun c25 => ?_)
                        · refine jr_iload_n dX5_ofTwo_293 2 rfl ?_
                          refine jr_i2l dX5_ofTwo_294 h3 ?_
                          refine jr_sub [] rfl ?_
                          exact jj_X5_ofTwo_B295 G v3 (jl_n36 h3) s0
                        · refine jr_iload_n dX5_ofTwo_288 1 rfl ?_
                          refine jr_i2l dX5_ofTwo_289 h2 ?_
                          refine jr_goto (t := 295) dX5_ofTwo_290 (by decide) ?_
                          refine jr_sub [] rfl ?_
                          exact jj_X5_ofTwo_B295 G v2 (jl_n36 h2) s0
                      rcases Decidable.em (v1 = 52) with c45 | c45
                      · refine jr_tabIn (t := 283) dX5_ofTwo_1 h1 (by omega) (by omega) (by rw [c45]; rfl) (by decide) ?_
                        refine jr_iload_n dX5_ofTwo_283 1 rfl ?_
                        refine jr_iload_n dX5_ofTwo_284 2 rfl ?_
                        refine jr_icmp_le (t := 293) dX5_ofTwo_285 (by decide) h2 h3 (fun c25 => ?_) (fun c25 => ?_)
                        · refine jr_iload_n dX5_ofTwo_293 2 rfl ?_
                          refine jr_i2l dX5_ofTwo_294 h3 ?_
                          refine jr_sub [] rfl ?_
                          exact jj_X5_ofTwo_B295 G v3 (jl_n36 h3) s0
                        · refine jr_iload_n dX5_ofTwo_288 1 rfl ?_
                          refine jr_i2l dX5_ofTwo_289 h2 ?_
                          refine jr_goto (t := 295) dX5_ofTwo_290 (by decide) ?_
                          refine jr_sub [] rfl ?_
                          exact jj_X5_ofTwo_B295 G v2 (jl_n36 h2) s0
                      rcases Decidable.em (v1 = 53) with c46 | c46
                      · refine jr_tabIn (t := 283) dX5_ofTwo_1 h1 (by omega) (by omega) (by rw [c46]; rfl) (by decide) ?_
                        refine jr_iload_n dX5_ofTwo_283 1 rfl ?_
                        refine jr_iload_n dX5_ofTwo_284 2 rfl ?_
                        refine jr_icmp_le (t := 293) dX5_ofTwo_285 (by decide) h2 h3 (fun c25 => ?_) (fun c25 => ?_)
                        · refine jr_iload_n dX5_ofTwo_293 2 rfl ?_
                          refine jr_i2l dX5_ofTwo_294 h3 ?_
                          refine jr_sub [] rfl ?_
                          exact jj_X5_ofTwo_B295 G v3 (jl_n36 h3) s0
                        · refine jr_iload_n dX5_ofTwo_288 1 rfl ?_
                          refine jr_i2l dX5_ofTwo_289 h2 ?_
                          refine jr_goto (t := 295) dX5_ofTwo_290 (by decide) ?_
                          refine jr_sub [] rfl ?_
                          exact jj_X5_ofTwo_B295 G v2 (jl_n36 h2) s0
                      rcases Decidable.em (v1 = 54) with c47 | c47
                      · refine jr_tabIn (t := 283) dX5_ofTwo_1 h1 (by omega) (by omega) (by rw [c47]; rfl) (by decide) ?_
                        refine jr_iload_n dX5_ofTwo_283 1 rfl ?_
                        refine jr_iload_n dX5_ofTwo_284 2 rfl ?_
                        refine jr_icmp_le (t := 293) dX5_ofTwo_285 (by decide) h2 h3 (fun c25 => ?_) (fun c25 => ?_)
                        · refine jr_iload_n dX5_ofTwo_293 2 rfl ?_
                          refine jr_i2l dX5_ofTwo_294 h3 ?_
                          refine jr_sub [] rfl ?_
                          exact jj_X5_ofTwo_B295 G v3 (jl_n36 h3) s0
                        · refine jr_iload_n dX5_ofTwo_288 1 rfl ?_
                          refine jr_i2l dX5_ofTwo_289 h2 ?_
                          refine jr_goto (t := 295) dX5_ofTwo_290 (by decide) ?_
                          refine jr_sub [] rfl ?_
                          exact jj_X5_ofTwo_B295 G v2 (jl_n36 h2) s0
                      rcases Decidable.em (v1 = 55) with c48 | c48
                      · refine jr_tabIn (t := 283) dX5_ofTwo_1 h1 (by omega) (by omega) (by rw [c48]; rfl) (by decide) ?_
                        refine jr_iload_n dX5_ofTwo_283 1 rfl ?_
                        refine jr_iload_n dX5_ofTwo_284 2 rfl ?_
                        refine jr_icmp_le (t := 293) dX5_ofTwo_285 (by decide) h2 h3 (fun c25 => ?_) (fun c25 => ?_)
                        · refine jr_iload_n dX5_ofTwo_293 2 rfl ?_
                          refine jr_i2l dX5_ofTwo_294 h3 ?_
                          refine jr_sub [] rfl ?_
                          exact jj_X5_ofTwo_B295 G v3 (jl_n36 h3) s0
                        · refine jr_iload_n dX5_ofTwo_288 1 rfl ?_
                          refine jr_i2l dX5_ofTwo_289 h2 ?_
                          refine jr_goto (t := 295) dX5_ofTwo_290 (by decide) ?_
                          refine jr_sub [] rfl ?_
                          exact jj_X5_ofTwo_B295 G v2 (jl_n36 h2) s0
                      rcases Decidable.em (v1 = 56) with c49 | c49
                      · refine jr_tabIn (t := 283) dX5_ofTwo_1 h1 (by omega) (by omega) (by rw [c49]; rfl) (by decide) ?_
                        refine jr_iload_n dX5_ofTwo_283 1 rfl ?_
                        refine jr_iload_n dX5_ofTwo_284 2 rfl ?_
                        refine jr_icmp_le (t := 293) dX5_ofTwo_285 (by decide) h2 h3 (fun c25 => ?_) (fun c25 => ?_)
                        · refine jr_iload_n dX5_ofTwo_293 2 rfl ?_
                          refine jr_i2l dX5_ofTwo_294 h3 ?_
                          refine jr_sub [] rfl ?_
                          exact jj_X5_ofTwo_B295 G v3 (jl_n36 h3) s0
                        · refine jr_iload_n dX5_ofTwo_288 1 rfl ?_
                          refine jr_i2l dX5_ofTwo_289 h2 ?_
                          refine jr_goto (t := 295) dX5_ofTwo_290 (by decide) ?_
                          refine jr_sub [] rfl ?_
                          exact jj_X5_ofTwo_B295 G v2 (jl_n36 h2) s0
                      rcases Decidable.em (v1 = 57) with c50 | c50
                      · refine jr_tabIn (t := 283) dX5_ofTwo_1 h1 (by omega) (by omega) (by rw [c50]; rfl) (by decide) ?_
                        refine jr_iload_n dX5_ofTwo_283 1 rfl ?_
                        refine jr_iload_n dX5_ofTwo_284 2 rfl ?_
                        refine jr_icmp_le (t := 293) dX5_ofTwo_285 (by decide) h2 h3 (fun c25 => ?_) (fun c25 => ?_)
                        · refine jr_iload_n dX5_ofTwo_293 2 rfl ?_
                          refine jr_i2l dX5_ofTwo_294 h3 ?_
                          refine jr_sub [] rfl ?_
                          exact jj_X5_ofTwo_B295 G v3 (jl_n36 h3) s0
                        · refine jr_iload_n dX5_ofTwo_288 1 rfl ?_
                          refine jr_i2l dX5_ofTwo_289 h2 ?_
                          refine jr_goto (t := 295) dX5_ofTwo_290 (by decide) ?_
                          refine jr_sub [] rfl ?_
                          exact jj_X5_ofTwo_B295 G v2 (jl_n36 h2) s0
                      rcases Decidable.em (v1 = 58) with c51 | c51
                      · refine jr_tabIn (t := 283) dX5_ofTwo_1 h1 (by omega) (by omega) (by rw [c51]; rfl) (by decide) ?_
                        refine jr_iload_n dX5_ofTwo_283 1 rfl ?_
                        refine jr_iload_n dX5_ofTwo_284 2 rfl ?_
                        refine jr_icmp_le (t := 293) dX5_ofTwo_285 (by decide) h2 h3 (fun c25 => ?_) (fun c25 => ?_)
                        · refine jr_iload_n dX5_ofTwo_293 2 rfl ?_
                          refine jr_i2l dX5_ofTwo_294 h3 ?_
                          refine jr_sub [] rfl ?_
                          exact jj_X5_ofTwo_B295 G v3 (jl_n36 h3) s0
                        · refine jr_iload_n dX5_ofTwo_288 1 rfl ?_
                          refine jr_i2l dX5_ofTwo_289 h2 ?_
                          refine jr_goto (t := 295) dX5_ofTwo_290 (by decide) ?_
                          refine jr_sub [] rfl ?_
                          exact jj_X5_ofTwo_B295 G v2 (jl_n36 h2) s0
                      rcases Decidable.em (v1 = 59) with c52 | c52
                      · refine jr_tabIn (t := 283) dX5_ofTwo_1 h1 (by omega) (by omega) (by rw [c52]; rfl) (by decide) ?_
                        refine jr_iload_n dX5_ofTwo_283 1 rfl ?_
                        refine jr_iload_n dX5_ofTwo_284 2 rfl ?_
                        refine jr_icmp_le (t := 293) dX5_ofTwo_285 (by decide) h2 h3 (fun c25 => ?_) (fun c25 => ?_)
                        · refine jr_iload_n dX5_ofTwo_293 2 rfl ?_
                          refine jr_i2l dX5_ofTwo_294 h3 ?_
                          refine jr_sub [] rfl ?_
                          exact jj_X5_ofTwo_B295 G v3 (jl_n36 h3) s0
                        · refine jr_iload_n dX5_ofTwo_288 1 rfl ?_
                          refine jr_i2l dX5_ofTwo_289 h2 ?_
                          refine jr_goto (t := 295) dX5_ofTwo_290 (by decide) ?_
                          refine jr_sub [] rfl ?_
                          exact jj_X5_ofTwo_B295 G v2 (jl_n36 h2) s0
                      refine jr_tabOut (t := 283) dX5_ofTwo_1 h1 (by omega) (by decide) ?_
                      refine jr_iload_n dX5_ofTwo_283 1 rfl ?_
                      refine jr_iload_n dX5_ofTwo_284 2 rfl ?_
                      refine jr_icmp_le (t := 293) dX5_ofTwo_285 (by decide) h2 h3 (fun c25 => ?_) (fun c25 => ?_)
                      · refine jr_iload_n dX5_ofTwo_293 2 rfl ?_
                        refine jr_i2l dX5_ofTwo_294 h3 ?_
                        refine jr_sub [] rfl ?_
                        exact jj_X5_ofTwo_B295 G v3 (jl_n36 h3) s0
                      · refine jr_iload_n dX5_ofTwo_288 1 rfl ?_
                        refine jr_i2l dX5_ofTwo_289 h2 ?_
                        refine jr_goto (t := 295) dX5_ofTwo_290 (by decide) ?_
                        refine jr_sub [] rfl ?_
                        exact jj_X5_ofTwo_B295 G v2 (jl_n36 h2) s0
