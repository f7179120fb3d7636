def jf_X6_searchTelling_B94 (R36 : Int → Int → jl_Mm → jl_O) (R44 : Int → Int → Int → jl_Mm → jl_O) (l2 : Int) (l3 : Int) (l4 : Int) (s0 : jl_Mm) : jl_O :=
  R44 l2 l3 (jl_add l4 1) s0
set_option maxRecDepth 20000 in
set_option maxHeartbeats 2000000 in
theorem jj_X6_searchTelling_B94 (G : jl_GC) (R36 : Int → Int → jl_Mm → jl_O) (R44 : Int → Int → Int → jl_Mm → jl_O) (hR36 : ∀ (l2 : Int) (l3 : Int) (_hl2 : jl_n3 l2) (_hl3 : jl_n3 l3) (s0 : jl_Mm), j2 G jM_X6_searchTelling 36 [(0, jl_vr G 200), (2, jl_vi l2), (3, jl_vi l3)] [] s0 (R36 l2 l3 s0)) (hR44 : ∀ (l2 : Int) (l3 : Int) (l4 : Int) (_hl2 : jl_n3 l2) (_hl3 : jl_n3 l3) (_hl4 : jl_n3 l4) (s0 : jl_Mm), j2 G jM_X6_searchTelling 44 [(0, jl_vr G 200), (2, jl_vi l2), (3, jl_vi l3), (4, jl_vi l4)] [] s0 (R44 l2 l3 l4 s0)) (l2 : Int) (l3 : Int) (l4 : Int) (hl2 : jl_n3 l2) (hl3 : jl_n3 l3) (hl4 : jl_n3 l4) (s0 : jl_Mm) : j2 G jM_X6_searchTelling 94 [(0, jl_vr G 200), (2, jl_vi l2), (3, jl_vi l3), (4, jl_vi l4)] [] s0 (jf_X6_searchTelling_B94 R36 R44 l2 l3 l4 s0) := by
  refine jr_iinc (j := 3) (lv := [(4, jl_vi (jl_add l4 1)), (0, jl_vr G 200), (2, jl_vi l2), (3, jl_vi l3)]) dX6_searchTelling_94 rfl (Nat.le_of_ble_eq_true rfl) rfl ?_
  refine jr_goto (t := 44) dX6_searchTelling_97 (by decide) ?_
  refine jr_sub [1, 2, 3, 0] rfl ?_
  exact hR44 l2 l3 (jl_add l4 1) hl2 hl3 (jl_n3_to _) s0
def jf_X6_searchTelling_L44 (R36 : Int → Int → jl_Mm → jl_O) : Nat → Int → Int → Int → jl_Mm → jl_O
  | 0, _, _, _, _ => none
  | n + 1, l2, l3, l4, s0 =>
    if 0 ≤ s0 190 0 ∧ (jl_kd (jl_gr s0 190 0)).1 = 8 then if jl_g s0 (jl_gr s0 190 0) 1 ≤ l4 then (R36 l2 (jl_add l3 1) s0) else (jl_bd (jf_X6_mostLeft l3 l4 s0) fun r11 s12 => if jl_g s12 200 10 ≤ r11 then (jf_X6_searchTelling_B94 (R36) (jf_X6_searchTelling_L44 R36 n) l2 l3 l4 s12) else (jl_lm (jl_up s12 200 8 l3) fun s14 => jl_lm (jl_up s14 200 9 l4) fun s15 => jl_lm (jl_up s15 200 10 r11) fun s16 => jf_X6_searchTelling_B94 (R36) (jf_X6_searchTelling_L44 R36 n) l2 l3 l4 s16)) else none
set_option maxRecDepth 20000 in
set_option maxHeartbeats 2000000 in
theorem jj_X6_searchTelling_L44 (G : jl_GC) (R36 : Int → Int → jl_Mm → jl_O) (hR36 : ∀ (l2 : Int) (l3 : Int) (_hl2 : jl_n3 l2) (_hl3 : jl_n3 l3) (s0 : jl_Mm), j2 G jM_X6_searchTelling 36 [(0, jl_vr G 200), (2, jl_vi l2), (3, jl_vi l3)] [] s0 (R36 l2 l3 s0)) : ∀ (n : Nat) (l2 : Int) (l3 : Int) (l4 : Int) (hl2 : jl_n3 l2) (hl3 : jl_n3 l3) (hl4 : jl_n3 l4) (s0 : jl_Mm), j2 G jM_X6_searchTelling 44 [(0, jl_vr G 200), (2, jl_vi l2), (3, jl_vi l3), (4, jl_vi l4)] [] s0 (jf_X6_searchTelling_L44 R36 n l2 l3 l4 s0) := by
  intro n
  induction n with
  | zero =>
    intros
    exact jr_none
  | succ n ih =>
    intro l2 l3 l4 hl2 hl3 hl4 s0
    refine jr_iload dX6_searchTelling_44 3 rfl ?_
    refine jr_aload_n dX6_searchTelling_46 0 rfl ?_
    refine jr_getk (i := 1) jc_6 jk_200 (by decide) (Nat.le_of_ble_eq_true rfl) jlk_200_1 jw_385 dX6_searchTelling_47 ?_
    refine jr_grd (fun g9 => ?_)
    refine jr_getrN (i := 0) jc_5 jk_190 (by decide) (Nat.le_of_ble_eq_true rfl) jlk_190_0 jft_5_0 g9.1 jw_321 dX6_searchTelling_50 ?_
    refine jr_getiN (i := 1) jc_8 (jl_kd1 g9.2) (jl_kdlt g9.2 (by decide)) (Nat.le_of_ble_eq_true rfl) (js8n_1 g9.2) jft_8_1 jw_90 dX6_searchTelling_53 ?_
    refine jr_icmp_ge (t := 100) dX6_searchTelling_56 (by decide) hl4 (jl_n3_to _) (fun c10 => ?_) (fun c10 => ?_)
    · refine jr_iinc (j := 2) (lv := [(3, jl_vi (jl_add l3 1)), (0, jl_vr G 200), (2, jl_vi l2), (4, jl_vi l4)]) dX6_searchTelling_100 rfl (Nat.le_of_ble_eq_true rfl) rfl ?_
      refine jr_goto (t := 36) dX6_searchTelling_103 (by decide) ?_
      refine jr_sub [1, 2, 0] rfl ?_
      exact hR36 l2 (jl_add l3 1) hl2 (jl_n3_to _) s0
    · refine jr_aload_n dX6_searchTelling_59 0 rfl ?_
      refine jr_iload_n dX6_searchTelling_60 2 rfl ?_
      refine jr_iload dX6_searchTelling_61 3 rfl ?_
      refine j2_callVi (As := [jl_vi l3, jl_vi l4]) dX6_searchTelling_63 (jt_X6_mostLeft G l3 l4 hl3 hl4 s0) jv_X6_mostLeft ⟨rfl, rfl, rfl⟩ jw_1066 jk_200 (by decide) (by decide) rfl ⟨Nat.le_of_ble_eq_true rfl, Nat.le_of_ble_eq_true rfl⟩ rfl (Nat.le_of_ble_eq_true rfl) (fun r11 s12 hr11 => ?_)
      refine jr_istore (lv := [(5, jl_vi r11), (0, jl_vr G 200), (2, jl_vi l2), (3, jl_vi l3), (4, jl_vi l4)]) dX6_searchTelling_66 (Nat.le_of_ble_eq_true rfl) rfl ?_
      refine jr_iload dX6_searchTelling_68 0 rfl ?_
      refine jr_aload_n dX6_searchTelling_70 1 rfl ?_
      refine jr_geti (i := 10) jc_6 jk_200 (by decide) (Nat.le_of_ble_eq_true rfl) jlk_200_10 jft_6_10 jw_399 dX6_searchTelling_71 ?_
      refine jr_icmp_ge (t := 94) dX6_searchTelling_74 (by decide) hr11 (jl_n3_to _) (fun c13 => ?_) (fun c13 => ?_)
      · refine jr_sub [1, 2, 3, 4] rfl ?_
        exact jj_X6_searchTelling_B94 G (R36) (jf_X6_searchTelling_L44 R36 n) (hR36) (ih) l2 l3 l4 hl2 hl3 hl4 s12
      · refine jr_aload_n dX6_searchTelling_77 1 rfl ?_
        refine jr_iload_n dX6_searchTelling_78 3 rfl ?_
        refine jr_puti (i := 8) jc_6 jk_200 (by decide) (Nat.le_of_ble_eq_true rfl) jlk_200_8 jft_6_8 rfl jw_395 rfl dX6_searchTelling_79 ?_
        refine jr_lm (fun s14 => ?_)
        refine jr_aload_n dX6_searchTelling_82 1 rfl ?_
        refine jr_iload dX6_searchTelling_83 4 rfl ?_
        refine jr_puti (i := 9) jc_6 jk_200 (by decide) (Nat.le_of_ble_eq_true rfl) jlk_200_9 jft_6_9 rfl jw_397 rfl dX6_searchTelling_85 ?_
        refine jr_lm (fun s15 => ?_)
        refine jr_aload_n dX6_searchTelling_88 1 rfl ?_
        refine jr_iload dX6_searchTelling_89 0 rfl ?_
        refine jr_puti (i := 10) jc_6 jk_200 (by decide) (Nat.le_of_ble_eq_true rfl) jlk_200_10 jft_6_10 rfl jw_399 rfl dX6_searchTelling_91 ?_
        refine jr_lm (fun s16 => ?_)
        refine jr_sub [1, 2, 3, 4] rfl ?_
        exact jj_X6_searchTelling_B94 G (R36) (jf_X6_searchTelling_L44 R36 n) (hR36) (ih) l2 l3 l4 hl2 hl3 hl4 s16
def jf_X6_searchTelling_L36 : Nat → Int → Int → jl_Mm → jl_O
  | 0, _, _, _ => none
  | n + 1, l2, l3, s0 =>
    if l2 < l3 then (some (0, s0)) else (jf_X6_searchTelling_L44 (jf_X6_searchTelling_L36 n) jl_fu l2 l3 (0 : Int) s0)
set_option maxRecDepth 20000 in
set_option maxHeartbeats 2000000 in
theorem jj_X6_searchTelling_L36 (G : jl_GC) : ∀ (n : Nat) (l2 : Int) (l3 : Int) (hl2 : jl_n3 l2) (hl3 : jl_n3 l3) (s0 : jl_Mm), j2 G jM_X6_searchTelling 36 [(0, jl_vr G 200), (2, jl_vi l2), (3, jl_vi l3)] [] s0 (jf_X6_searchTelling_L36 n l2 l3 s0) := by
  intro n
  induction n with
  | zero =>
    intros
    exact jr_none
  | succ n ih =>
    intro l2 l3 hl2 hl3 s0
    refine jr_iload_n dX6_searchTelling_36 2 rfl ?_
    refine jr_iload_n dX6_searchTelling_37 1 rfl ?_
    refine jr_icmp_gt (t := 106) dX6_searchTelling_38 (by decide) hl3 hl2 (fun c8 => ?_) (fun c8 => ?_)
    · exact jr_ret_v rfl dX6_searchTelling_106
    · refine jr_iconst dX6_searchTelling_41 ?_
      refine jr_istore (lv := [(4, jl_vi (0 : Int)), (0, jl_vr G 200), (2, jl_vi l2), (3, jl_vi l3)]) dX6_searchTelling_42 (Nat.le_of_ble_eq_true rfl) rfl ?_
      refine jr_sub [1, 2, 3, 0] rfl ?_
      exact jj_X6_searchTelling_L44 G (jf_X6_searchTelling_L36 n) (ih) jl_fu l2 l3 (0 : Int) hl2 hl3 (jl_nlit rfl) s0
def jf_X6_searchTelling (v1 : Int) (s0 : jl_Mm) : jl_O :=
  jl_bd (jf_X1_reach (30 : Int) s0) fun r1 s2 => jl_bd (jf_X6_tallyAll v1 r1 s2) fun r3 s4 => jl_lm (jl_up s4 200 8 (1 : Int)) fun s5 => jl_lm (jl_up s5 200 9 (0 : Int)) fun s6 => jl_lm (jl_up s6 200 10 (jl_g s6 200 6)) fun s7 => jf_X6_searchTelling_L36 jl_fu r1 (1 : Int) s7
set_option maxRecDepth 20000 in
set_option maxHeartbeats 2000000 in
theorem jt_X6_searchTelling (G : jl_GC) (v1 : Int) (h1 : jl_n3 v1) (s0 : jl_Mm) : jC2 G jM_X6_searchTelling [jl_vr G 200, jl_vi v1] s0 (jf_X6_searchTelling v1 s0) := by
  refine jl_met (plainFor_of_name rfl) (Nat.le_of_ble_eq_true rfl) ?_
  show j2 G jM_X6_searchTelling 0 [(0, jl_vr G 200), (1, jl_vi v1)] [] s0 _
  refine jr_aload_n dX6_searchTelling_0 0 rfl ?_
  refine jr_getk (i := 0) jc_6 jk_200 (by decide) (Nat.le_of_ble_eq_true rfl) jlk_200_0 jw_384 dX6_searchTelling_1 ?_
  refine jr_bipush dX6_searchTelling_4 (by decide) ?_
  refine j2_callVi (As := [jl_vi (30 : Int)]) dX6_searchTelling_6 (jt_X1_reach G (30 : Int) (jl_nlit rfl) s0) jv_X1_reach ⟨rfl, rfl, rfl⟩ jw_1040 jk_195 (by decide) (by decide) rfl ⟨Nat.le_of_ble_eq_true rfl, Nat.le_of_ble_eq_true rfl⟩ rfl (Nat.le_of_ble_eq_true rfl) (fun r1 s2 hr1 => ?_)
  refine jr_istore_n (lv := [(2, jl_vi r1), (0, jl_vr G 200), (1, jl_vi v1)]) dX6_searchTelling_9 rfl (Nat.le_of_ble_eq_true rfl) rfl ?_
  refine jr_aload_n dX6_searchTelling_10 1 rfl ?_
  refine jr_iload_n dX6_searchTelling_11 2 rfl ?_
  refine jr_iload_n dX6_searchTelling_12 0 rfl ?_
  refine j2_callVv (As := [jl_vi v1, jl_vi r1]) dX6_searchTelling_13 (jt_X6_tallyAll G v1 r1 h1 hr1 s2) jv_X6_tallyAll ⟨rfl, rfl, rfl⟩ jw_1059 jk_200 (by decide) (by decide) rfl ⟨Nat.le_of_ble_eq_true rfl, Nat.le_of_ble_eq_true rfl⟩ rfl (Nat.le_of_ble_eq_true rfl) (fun r3 s4 hr3 => ?_)
  refine jr_aload_n dX6_searchTelling_16 1 rfl ?_
  refine jr_iconst dX6_searchTelling_17 ?_
  refine jr_puti (i := 8) jc_6 jk_200 (by decide) (Nat.le_of_ble_eq_true rfl) jlk_200_8 jft_6_8 rfl jw_395 rfl dX6_searchTelling_18 ?_
  refine jr_lm (fun s5 => ?_)
  refine jr_aload_n dX6_searchTelling_21 1 rfl ?_
  refine jr_iconst dX6_searchTelling_22 ?_
  refine jr_puti (i := 9) jc_6 jk_200 (by decide) (Nat.le_of_ble_eq_true rfl) jlk_200_9 jft_6_9 rfl jw_397 rfl dX6_searchTelling_23 ?_
  refine jr_lm (fun s6 => ?_)
  refine jr_aload_n dX6_searchTelling_26 1 rfl ?_
  refine jr_aload_n dX6_searchTelling_27 1 rfl ?_
  refine jr_geti (i := 6) jc_6 jk_200 (by decide) (Nat.le_of_ble_eq_true rfl) jlk_200_6 jft_6_6 jw_392 dX6_searchTelling_28 ?_
  refine jr_puti (i := 10) jc_6 jk_200 (by decide) (Nat.le_of_ble_eq_true rfl) jlk_200_10 jft_6_10 rfl jw_399 rfl dX6_searchTelling_31 ?_
  refine jr_lm (fun s7 => ?_)
  refine jr_iconst dX6_searchTelling_34 ?_
  refine jr_istore_n (lv := [(3, jl_vi (1 : Int)), (2, jl_vi r1), (0, jl_vr G 200), (1, jl_vi v1)]) dX6_searchTelling_35 rfl (Nat.le_of_ble_eq_true rfl) rfl ?_
  refine jr_sub [2, 1, 0] rfl ?_
  exact jj_X6_searchTelling_L36 G jl_fu r1 (1 : Int) hr1 (jl_nlit rfl) s7
def jf_X11_tells_B30 (s0 : jl_Mm) : jl_O :=
  some ((-1 : Int), s0)
set_option maxRecDepth 20000 in
set_option maxHeartbeats 2000000 in
theorem jj_X11_tells_B30 (G : jl_GC) (s0 : jl_Mm) : j2 G jM_X11_tells 30 [] [] s0 (jf_X11_tells_B30 s0) := by
  refine jr_iconst dX11_tells_30 ?_
  exact jr_ret_i rfl (jl_nlit rfl) dX11_tells_31
def jf_X11_tells (v1 : Int) (v2 : Int) (s0 : jl_Mm) : jl_O :=
  if v2 < (0 : Int) then (jf_X11_tells_B30 s0) else (if (2 : Int) < v2 then (jf_X11_tells_B30 s0) else (jl_bd (jf_X11_isLit v1 s0) fun r3 s4 => if r3 = (0 : Int) then (jf_X11_tells_B30 s4) else (if jl_g s4 40 0 < (999 : Int) then (jl_bd (jf_X6_gather v1 s4) fun r7 s8 => if jl_g s8 200 6 = (0 : Int) then (some ((-1 : Int), s8)) else (jl_bd (jf_X6_searchTelling v1 s8) fun r10 s11 => if v2 = 0 then (some (jl_g s11 200 8, s11)) else if v2 = 1 then (some (jl_g s11 200 9, s11)) else (some (jl_g s11 200 10, s11)))) else (jf_X11_tells_B30 s4))))
set_option maxRecDepth 20000 in
set_option maxHeartbeats 2000000 in
theorem jt_X11_tells (G : jl_GC) (v1 : Int) (v2 : Int) (h1 : jl_n3 v1) (h2 : jl_n3 v2) (s0 : jl_Mm) : jC2 G jM_X11_tells [jl_vr G 0, jl_vi v1, jl_vi v2] s0 (jf_X11_tells v1 v2 s0) := by
  refine jl_met (plainFor_of_name rfl) (Nat.le_of_ble_eq_true rfl) ?_
  show j2 G jM_X11_tells 0 [(0, jl_vr G 0), (1, jl_vi v1), (2, jl_vi v2)] [] s0 _
  refine jr_iload_n dX11_tells_0 2 rfl ?_
  refine jr_if_lt (t := 30) dX11_tells_1 (by decide) h2 (fun c1 => ?_) (fun c1 => ?_)
  · refine jr_sub [] rfl ?_
    exact jj_X11_tells_B30 G s0
  · refine jr_iload_n dX11_tells_4 2 rfl ?_
    refine jr_iconst dX11_tells_5 ?_
    refine jr_icmp_gt (t := 30) dX11_tells_6 (by decide) h2 (jl_nlit rfl) (fun c2 => ?_) (fun c2 => ?_)
    · refine jr_sub [] rfl ?_
      exact jj_X11_tells_B30 G s0
    · refine jr_aload_n dX11_tells_9 0 rfl ?_
      refine jr_iload_n dX11_tells_10 1 rfl ?_
      refine j2_callVz (As := [jl_vi v1]) dX11_tells_11 (jt_X11_isLit G v1 h1 s0) jv_X11_isLit ⟨rfl, rfl, rfl⟩ jw_940 jk_0 (by decide) (by decide) rfl ⟨Nat.le_of_ble_eq_true rfl, Nat.le_of_ble_eq_true rfl⟩ rfl (Nat.le_of_ble_eq_true rfl) (fun r3 s4 hr3 => ?_)
      refine jr_if_eq (t := 30) dX11_tells_14 (by decide) (jl_nz hr3) (fun c5 => ?_) (fun c5 => ?_)
      · refine jr_sub [] rfl ?_
        exact jj_X11_tells_B30 G s4
      · refine jr_aload_n dX11_tells_17 0 rfl ?_
        refine jr_getk (i := 6) jc_11 jk_0 (by decide) (Nat.le_of_ble_eq_true rfl) jlk_0_6 jw_430 dX11_tells_18 ?_
        refine jr_getiN (i := 0) jc_7 jk_40 (by decide) (Nat.le_of_ble_eq_true rfl) jlk_40_0 jft_7_0 jw_239 dX11_tells_21 ?_
        refine jr_sipush dX11_tells_24 (by decide) ?_
        refine jr_icmp_lt (t := 32) dX11_tells_27 (by decide) (jl_n3_to _) (jl_nlit rfl) (fun c6 => ?_) (fun c6 => ?_)
        · refine jr_aload_n dX11_tells_32 0 rfl ?_
          refine jr_getk (i := 11) jc_11 jk_0 (by decide) (Nat.le_of_ble_eq_true rfl) jlk_0_11 jw_435 dX11_tells_33 ?_
          refine jr_iload_n dX11_tells_36 1 rfl ?_
          refine j2_callVv (As := [jl_vi v1]) dX11_tells_37 (jt_X6_gather G v1 h1 s4) jv_X6_gather ⟨rfl, rfl, rfl⟩ jw_1031 jk_200 (by decide) (by decide) rfl ⟨Nat.le_of_ble_eq_true rfl, Nat.le_of_ble_eq_true rfl⟩ rfl (Nat.le_of_ble_eq_true rfl) (fun r7 s8 hr7 => ?_)
          refine jr_aload_n dX11_tells_40 0 rfl ?_
          refine jr_getk (i := 11) jc_11 jk_0 (by decide) (Nat.le_of_ble_eq_true rfl) jlk_0_11 jw_435 dX11_tells_41 ?_
          refine jr_getiN (i := 6) jc_6 jk_200 (by decide) (Nat.le_of_ble_eq_true rfl) jlk_200_6 jft_6_6 jw_393 dX11_tells_44 ?_
          refine jr_if_ne (t := 52) dX11_tells_47 (by decide) (jl_n3_to _) (fun c9 => ?_) (fun c9 => ?_)
          · refine jr_iconst dX11_tells_50 ?_
            exact jr_ret_i rfl (jl_nlit rfl) dX11_tells_51
          · refine jr_aload_n dX11_tells_52 0 rfl ?_
            refine jr_getk (i := 11) jc_11 jk_0 (by decide) (Nat.le_of_ble_eq_true rfl) jlk_0_11 jw_435 dX11_tells_53 ?_
            refine jr_iload_n dX11_tells_56 1 rfl ?_
            refine j2_callVv (As := [jl_vi v1]) dX11_tells_57 (jt_X6_searchTelling G v1 h1 s8) jv_X6_searchTelling ⟨rfl, rfl, rfl⟩ jw_1055 jk_200 (by decide) (by decide) rfl ⟨Nat.le_of_ble_eq_true rfl, Nat.le_of_ble_eq_true rfl⟩ rfl (Nat.le_of_ble_eq_true rfl) (fun r10 s11 hr10 => ?_)
            refine jr_iload_n dX11_tells_60 2 rfl ?_
            refine jr_ite (fun c12 => ?_) (fun c12 => ?_)
            · refine jr_look (t := 88) (off := 27) dX11_tells_61 h2 (by decide) (by rw [c12] <;> rfl) (by decide) ?_
              refine jr_aload_n dX11_tells_88 0 rfl ?_
              refine jr_getk (i := 11) jc_11 jk_0 (by decide) (Nat.le_of_ble_eq_true rfl) jlk_0_11 jw_435 dX11_tells_89 ?_
              refine jr_getiN (i := 8) jc_6 jk_200 (by decide) (Nat.le_of_ble_eq_true rfl) jlk_200_8 jft_6_8 jw_396 dX11_tells_92 ?_
              exact jr_ret_i rfl (jl_n3_to _) dX11_tells_95
            · skip
              refine jr_ite (fun c13 => ?_) (fun c13 => ?_)
              · refine jr_look (t := 96) (off := 35) dX11_tells_61 h2 (by decide) (by rw [c13] <;> rfl) (by decide) ?_
                refine jr_aload_n dX11_tells_96 0 rfl ?_
                refine jr_getk (i := 11) jc_11 jk_0 (by decide) (Nat.le_of_ble_eq_true rfl) jlk_0_11 jw_435 dX11_tells_97 ?_
                refine jr_getiN (i := 9) jc_6 jk_200 (by decide) (Nat.le_of_ble_eq_true rfl) jlk_200_9 jft_6_9 jw_398 dX11_tells_100 ?_
                exact jr_ret_i rfl (jl_n3_to _) dX11_tells_103
              · skip
                refine jr_look (t := 104) (off := 43) dX11_tells_61 h2 (by decide) (by simp [Op.lookupswitch.offset, Ne.symm c12, Ne.symm c13]) (by decide) ?_
                refine jr_aload_n dX11_tells_104 0 rfl ?_
                refine jr_getk (i := 11) jc_11 jk_0 (by decide) (Nat.le_of_ble_eq_true rfl) jlk_0_11 jw_435 dX11_tells_105 ?_
                refine jr_getiN (i := 10) jc_6 jk_200 (by decide) (Nat.le_of_ble_eq_true rfl) jlk_200_10 jft_6_10 jw_400 dX11_tells_108 ?_
                exact jr_ret_i rfl (jl_n3_to _) dX11_tells_111
        · refine jr_sub [] rfl ?_
          exact jj_X11_tells_B30 G s4
def jf_X2_copyFrom (q0 : Nat) (q1 : Nat) (s0 : jl_Mm) : jl_O :=
  if (jl_kd q0).1 = 2 then if (jl_kd q1).1 = 2 then jl_lm (jl_up s0 q0 2 (jl_g s0 q1 2)) fun s1 => jl_lm (jl_up s1 q0 3 (jl_g s1 q1 3)) fun s2 => if (0 ≤ (0 : Int) ∧ 0 ≤ (0 : Int) ∧ 0 ≤ (40 : Int)) ∧ (0 : Int) + (40 : Int) ≤ ((40 : Nat) : Int) ∧ (0 : Int) + (40 : Int) ≤ ((40 : Nat) : Int) then jl_lm (jl_cp s2 (q1 + 1) (((0 : Int) : Int).toNat) (q0 + 1) (((0 : Int) : Int).toNat) (((40 : Int) : Int).toNat)) fun s4 => if (0 ≤ (0 : Int) ∧ 0 ≤ (0 : Int) ∧ 0 ≤ (40 : Int)) ∧ (0 : Int) + (40 : Int) ≤ ((40 : Nat) : Int) ∧ (0 : Int) + (40 : Int) ≤ ((40 : Nat) : Int) then jl_lm (jl_cp s4 (q1 + 2) (((0 : Int) : Int).toNat) (q0 + 2) (((0 : Int) : Int).toNat) (((40 : Int) : Int).toNat)) fun s6 => some (0, s6) else none else none else none else none
set_option maxRecDepth 20000 in
set_option maxHeartbeats 2000000 in
theorem jt_X2_copyFrom (G : jl_GC) (q0 : Nat) (q1 : Nat) (s0 : jl_Mm) : jC2 G jM_X2_copyFrom [jl_vr G q0, jl_vr G q1] s0 (jf_X2_copyFrom q0 q1 s0) := by
  refine jl_met (plainFor_of_name rfl) (Nat.le_of_ble_eq_true rfl) ?_
  show j2 G jM_X2_copyFrom 0 [(0, jl_vr G q0), (1, jl_vr G q1)] [] s0 _
  refine jr_grd (fun gp0 => ?_)
  refine jr_grd (fun gp1 => ?_)
  refine jr_aload_n dX2_copyFrom_0 0 rfl ?_
  refine jr_aload_n dX2_copyFrom_1 1 rfl ?_
  refine jr_geti (i := 2) jc_2 (jl_kd1 gp1) (jl_kdlt gp1 (by decide)) (Nat.le_of_ble_eq_true rfl) (js2n_2 gp1) jft_2_2 jw_275 dX2_copyFrom_2 ?_
  refine jr_puti (i := 2) jc_2 (jl_kd1 gp0) (jl_kdlt gp0 (by decide)) (Nat.le_of_ble_eq_true rfl) (js2n_2 gp0) jft_2_2 rfl jw_275 rfl dX2_copyFrom_5 ?_
  refine jr_lm (fun s1 => ?_)
  refine jr_aload_n dX2_copyFrom_8 0 rfl ?_
  refine jr_aload_n dX2_copyFrom_9 1 rfl ?_
  refine jr_geti (i := 3) jc_2 (jl_kd1 gp1) (jl_kdlt gp1 (by decide)) (Nat.le_of_ble_eq_true rfl) (js2n_3 gp1) jft_2_3 jw_276 dX2_copyFrom_10 ?_
  refine jr_puti (i := 3) jc_2 (jl_kd1 gp0) (jl_kdlt gp0 (by decide)) (Nat.le_of_ble_eq_true rfl) (js2n_3 gp0) jft_2_3 rfl jw_276 rfl dX2_copyFrom_13 ?_
  refine jr_lm (fun s2 => ?_)
  refine jr_aload_n dX2_copyFrom_16 1 rfl ?_
  refine jr_getk (i := 0) jc_2 (jl_kd1 gp1) (jl_kdlt gp1 (by decide)) (Nat.le_of_ble_eq_true rfl) (js2_0 gp1) jw_273 dX2_copyFrom_17 ?_
  refine jr_iconst dX2_copyFrom_20 ?_
  refine jr_aload_n dX2_copyFrom_21 0 rfl ?_
  refine jr_getk (i := 0) jc_2 (jl_kd1 gp0) (jl_kdlt gp0 (by decide)) (Nat.le_of_ble_eq_true rfl) (js2_0 gp0) jw_273 dX2_copyFrom_22 ?_
  refine jr_iconst dX2_copyFrom_25 ?_
  refine jr_bipush dX2_copyFrom_26 (by decide) ?_
  refine jr_grd (fun g3 => ?_)
  refine jr_copy dX2_copyFrom_28 (js2k_0 gp1) (jl_kdl (js2k_0 gp1) (by decide)) (js2k_0 gp0) (jl_kdl (js2k_0 gp0) (by decide)) (jl_nlit rfl) (jl_nlit rfl) (jl_nlit rfl) g3 jw_1083 (Nat.le_of_ble_eq_true rfl) (Nat.le_of_ble_eq_true rfl) ?_
  refine jr_lm (fun s4 => ?_)
  refine jr_aload_n dX2_copyFrom_31 1 rfl ?_
  refine jr_getk (i := 1) jc_2 (jl_kd1 gp1) (jl_kdlt gp1 (by decide)) (Nat.le_of_ble_eq_true rfl) (js2_1 gp1) jw_274 dX2_copyFrom_32 ?_
  refine jr_iconst dX2_copyFrom_35 ?_
  refine jr_aload_n dX2_copyFrom_36 0 rfl ?_
  refine jr_getk (i := 1) jc_2 (jl_kd1 gp0) (jl_kdlt gp0 (by decide)) (Nat.le_of_ble_eq_true rfl) (js2_1 gp0) jw_274 dX2_copyFrom_37 ?_
  refine jr_iconst dX2_copyFrom_40 ?_
  refine jr_bipush dX2_copyFrom_41 (by decide) ?_
  refine jr_grd (fun g5 => ?_)
  refine jr_copy dX2_copyFrom_43 (js2k_1 gp1) (jl_kdl (js2k_1 gp1) (by decide)) (js2k_1 gp0) (jl_kdl (js2k_1 gp0) (by decide)) (jl_nlit rfl) (jl_nlit rfl) (jl_nlit rfl) g5 jw_1083 (Nat.le_of_ble_eq_true rfl) (Nat.le_of_ble_eq_true rfl) ?_
  refine jr_lm (fun s6 => ?_)
  exact jr_ret_v rfl dX2_copyFrom_46
def jf_X3_remember (q1 : Nat) (q2 : Nat) (s0 : jl_Mm) : jl_O :=
  if (jl_kd q1).1 = 7 then if (jl_kd q2).1 = 2 then if 0 ≤ jl_g s0 47 2 ∧ jl_g s0 47 2 < ((20 : Nat) : Int) then jl_bd (jf_X7_copyFrom (50 + 7 * (jl_g s0 47 2).toNat) q1 s0) fun r2 s3 => if 0 ≤ jl_g s3 47 2 ∧ jl_g s3 47 2 < ((20 : Nat) : Int) then jl_bd (jf_X2_copyFrom (54 + 7 * (jl_g s3 47 2).toNat) q2 s3) fun r5 s6 => jl_lm (jl_up s6 47 2 (jl_rem (jl_add (jl_g s6 47 2) (1 : Int)) (20 : Int))) fun s7 => jl_bd (jf_J9_min_7cf53 (20 : Int) (jl_add (jl_g s7 47 3) (1 : Int)) s7) fun r8 s9 => jl_lm (jl_up s9 47 3 r8) fun s10 => some (0, s10) else none else none else none else none
set_option maxRecDepth 20000 in
set_option maxHeartbeats 2000000 in
theorem jt_X3_remember (G : jl_GC) (q1 : Nat) (q2 : Nat) (s0 : jl_Mm) : jC2 G jM_X3_remember [jl_vr G 47, jl_vr G q1, jl_vr G q2] s0 (jf_X3_remember q1 q2 s0) := by
  refine jl_met (plainFor_of_name rfl) (Nat.le_of_ble_eq_true rfl) ?_
  show j2 G jM_X3_remember 0 [(0, jl_vr G 47), (1, jl_vr G q1), (2, jl_vr G q2)] [] s0 _
  refine jr_grd (fun gp1 => ?_)
  refine jr_grd (fun gp2 => ?_)
  refine jr_aload_n dX3_remember_0 0 rfl ?_
  refine jr_getk (i := 0) jc_3 jk_47 (by decide) (Nat.le_of_ble_eq_true rfl) jlk_47_0 jw_299 dX3_remember_1 ?_
  refine jr_aload_n dX3_remember_4 0 rfl ?_
  refine jr_geti (i := 2) jc_3 jk_47 (by decide) (Nat.le_of_ble_eq_true rfl) jlk_47_2 jft_3_2 jw_301 dX3_remember_5 ?_
  refine jr_grd (fun g1 => ?_)
  refine jr_aaload jk_48 (Or.inl ⟨rfl, rfl⟩) (by decide) (jl_n3_to _) g1 (ja48 g1) dX3_remember_8 ?_
  refine jr_aload_n dX3_remember_9 1 rfl ?_
  refine j2_callVv (As := [jl_vr G q1]) dX3_remember_10 (jt_X7_copyFrom G (50 + 7 * (jl_g s0 47 2).toNat) q1 s0) jv_X7_copyFrom ⟨rfl, rfl, rfl⟩ jw_1078 (jl_kd1 (ja48k g1)) (by decide) (jl_kdlt (ja48k g1) (by decide)) rfl ⟨Nat.le_of_ble_eq_true rfl, Nat.le_of_ble_eq_true rfl⟩ rfl (Nat.le_of_ble_eq_true rfl) (fun r2 s3 hr2 => ?_)
  refine jr_aload_n dX3_remember_13 0 rfl ?_
  refine jr_getk (i := 1) jc_3 jk_47 (by decide) (Nat.le_of_ble_eq_true rfl) jlk_47_1 jw_300 dX3_remember_14 ?_
  refine jr_aload_n dX3_remember_17 0 rfl ?_
  refine jr_geti (i := 2) jc_3 jk_47 (by decide) (Nat.le_of_ble_eq_true rfl) jlk_47_2 jft_3_2 jw_301 dX3_remember_18 ?_
  refine jr_grd (fun g4 => ?_)
  refine jr_aaload jk_49 (Or.inr ⟨rfl, rfl⟩) (by decide) (jl_n3_to _) g4 (ja49 g4) dX3_remember_21 ?_
  refine jr_aload_n dX3_remember_22 2 rfl ?_
  refine j2_callVv (As := [jl_vr G q2]) dX3_remember_23 (jt_X2_copyFrom G (54 + 7 * (jl_g s3 47 2).toNat) q2 s3) jv_X2_copyFrom ⟨rfl, rfl, rfl⟩ jw_1079 (jl_kd1 (ja49k g4)) (by decide) (jl_kdlt (ja49k g4) (by decide)) rfl ⟨Nat.le_of_ble_eq_true rfl, Nat.le_of_ble_eq_true rfl⟩ rfl (Nat.le_of_ble_eq_true rfl) (fun r5 s6 hr5 => ?_)
  refine jr_aload_n dX3_remember_26 0 rfl ?_
  refine jr_aload_n dX3_remember_27 0 rfl ?_
  refine jr_geti (i := 2) jc_3 jk_47 (by decide) (Nat.le_of_ble_eq_true rfl) jlk_47_2 jft_3_2 jw_301 dX3_remember_28 ?_
  refine jr_iconst dX3_remember_31 ?_
  refine jr_iadd dX3_remember_32 ?_
  refine jr_bipush dX3_remember_33 (by decide) ?_
  refine jr_irem dX3_remember_35 (jl_nlit rfl) (by decide) ?_
  refine jr_puti (i := 2) jc_3 jk_47 (by decide) (Nat.le_of_ble_eq_true rfl) jlk_47_2 jft_3_2 rfl jw_301 rfl dX3_remember_36 ?_
  refine jr_lm (fun s7 => ?_)
  refine jr_aload_n dX3_remember_39 0 rfl ?_
  refine jr_bipush dX3_remember_40 (by decide) ?_
  refine jr_aload_n dX3_remember_42 0 rfl ?_
  refine jr_geti (i := 3) jc_3 jk_47 (by decide) (Nat.le_of_ble_eq_true rfl) jlk_47_3 jft_3_3 jw_302 dX3_remember_43 ?_
  refine jr_iconst dX3_remember_46 ?_
  refine jr_iadd dX3_remember_47 ?_
  refine j2_callSi (As := [jl_vi (20 : Int), jl_vi (jl_add (jl_g s7 47 3) (1 : Int))]) dX3_remember_48 (jt_J9_min_7cf53 G (20 : Int) (jl_add (jl_g s7 47 3) (1 : Int)) (jl_nlit rfl) (jl_n3_to _) s7) jv_J9_min_7cf53 ⟨rfl, rfl, rfl⟩ jw_1084 ⟨Nat.le_of_ble_eq_true rfl, Nat.le_of_ble_eq_true rfl⟩ rfl (Nat.le_of_ble_eq_true rfl) (fun r8 s9 hr8 => ?_)
  refine jr_puti (i := 3) jc_3 jk_47 (by decide) (Nat.le_of_ble_eq_true rfl) jlk_47_3 jft_3_3 rfl jw_302 rfl dX3_remember_51 ?_
  refine jr_lm (fun s10 => ?_)
  exact jr_ret_v rfl dX3_remember_54
def jf_X11_light_B38 (s0 : jl_Mm) : jl_O :=
  jl_bd (jf_X11_deny (2 : Int) s0) fun r4 s5 => jl_zb r4 s5
set_option maxRecDepth 20000 in
set_option maxHeartbeats 2000000 in
theorem jj_X11_light_B38 (G : jl_GC) (s0 : jl_Mm) : j2 G jM_X11_light 38 [(0, jl_vr G 0)] [] s0 (jf_X11_light_B38 s0) := by
  refine jr_aload_n dX11_light_38 0 rfl ?_
  refine jr_iconst dX11_light_39 ?_
  refine j2_callVz (As := [jl_vi (2 : Int)]) dX11_light_40 (jt_X11_deny G (2 : Int) (jl_nlit rfl) s0) jv_X11_deny ⟨rfl, rfl, rfl⟩ jw_495 jk_0 (by decide) (by decide) rfl ⟨Nat.le_of_ble_eq_true rfl, Nat.le_of_ble_eq_true rfl⟩ rfl (Nat.le_of_ble_eq_true rfl) (fun r4 s5 hr4 => ?_)
  exact jr_ret_z rfl dX11_light_43
def jf_X11_light (v1 : Int) (v2 : Int) (s0 : jl_Mm) : jl_O :=
  jl_bd (jf_X11_isLie v1 s0) fun r1 s2 => if r1 = (0 : Int) then (jf_X11_light_B38 s2) else (jl_bd (jf_X11_isLit v1 s2) fun r6 s7 => if r6 = (0 : Int) then (if v2 < (1 : Int) then (jf_X11_light_B38 s7) else (if (99 : Int) < v2 then (jf_X11_light_B38 s7) else (if v2 ≤ jl_g s7 40 1 then (jl_bd (jf_X3_remember 40 44 s7) fun r12 s13 => jl_bd (jf_X7_kindle 40 v1 v2 s13) fun r14 s15 => jl_zb (1 : Int) s15) else (jf_X11_light_B38 s7)))) else (jf_X11_light_B38 s7))
set_option maxRecDepth 20000 in
set_option maxHeartbeats 2000000 in
theorem jt_X11_light (G : jl_GC) (v1 : Int) (v2 : Int) (h1 : jl_n3 v1) (h2 : jl_n3 v2) (s0 : jl_Mm) : jC2 G jM_X11_light [jl_vr G 0, jl_vi v1, jl_vi v2] s0 (jf_X11_light v1 v2 s0) := by
  refine jl_met (plainFor_of_name rfl) (Nat.le_of_ble_eq_true rfl) ?_
  show j2 G jM_X11_light 0 [(0, jl_vr G 0), (1, jl_vi v1), (2, jl_vi v2)] [] s0 _
  refine jr_aload_n dX11_light_0 0 rfl ?_
  refine jr_iload_n dX11_light_1 1 rfl ?_
  refine j2_callVz (As := [jl_vi v1]) dX11_light_2 (jt_X11_isLie G v1 h1 s0) jv_X11_isLie ⟨rfl, rfl, rfl⟩ jw_837 jk_0 (by decide) (by decide) rfl ⟨Nat.le_of_ble_eq_true rfl, Nat.le_of_ble_eq_true rfl⟩ rfl (Nat.le_of_ble_eq_true rfl) (fun r1 s2 hr1 => ?_)
  refine jr_if_eq (t := 38) dX11_light_5 (by decide) (jl_nz hr1) (fun c3 => ?_) (fun c3 => ?_)
  · refine jr_sub [0] rfl ?_
    exact jj_X11_light_B38 G s2
  · refine jr_aload_n dX11_light_8 0 rfl ?_
    refine jr_iload_n dX11_light_9 1 rfl ?_
    refine j2_callVz (As := [jl_vi v1]) dX11_light_10 (jt_X11_isLit G v1 h1 s2) jv_X11_isLit ⟨rfl, rfl, rfl⟩ jw_940 jk_0 (by decide) (by decide) rfl ⟨Nat.le_of_ble_eq_true rfl, Nat.le_of_ble_eq_true rfl⟩ rfl (Nat.le_of_ble_eq_true rfl) (fun r6 s7 hr6 => ?_)
    refine jr_if_ne (t := 38) dX11_light_13 (by decide) (jl_nz hr6) (fun c8 => ?_) (fun c8 => ?_)
    · refine jr_iload_n dX11_light_16 2 rfl ?_
      refine jr_iconst dX11_light_17 ?_
      refine jr_icmp_lt (t := 38) dX11_light_18 (by decide) h2 (jl_nlit rfl) (fun c9 => ?_) (fun c9 => ?_)
      · refine jr_sub [0] rfl ?_
        exact jj_X11_light_B38 G s7
      · refine jr_iload_n dX11_light_21 2 rfl ?_
        refine jr_bipush dX11_light_22 (by decide) ?_
        refine jr_icmp_gt (t := 38) dX11_light_24 (by decide) h2 (jl_nlit rfl) (fun c10 => ?_) (fun c10 => ?_)
        · refine jr_sub [0] rfl ?_
          exact jj_X11_light_B38 G s7
        · refine jr_iload_n dX11_light_27 2 rfl ?_
          refine jr_aload_n dX11_light_28 0 rfl ?_
          refine jr_getk (i := 6) jc_11 jk_0 (by decide) (Nat.le_of_ble_eq_true rfl) jlk_0_6 jw_430 dX11_light_29 ?_
          refine jr_getiN (i := 1) jc_7 jk_40 (by decide) (Nat.le_of_ble_eq_true rfl) jlk_40_1 jft_7_1 jw_242 dX11_light_32 ?_
          refine jr_icmp_le (t := 44) dX11_light_35 (by decide) h2 (jl_n3_to _) (fun c11 => ?_) (fun c11 => ?_)
          · refine jr_aload_n dX11_light_44 0 rfl ?_
            refine jr_getk (i := 8) jc_11 jk_0 (by decide) (Nat.le_of_ble_eq_true rfl) jlk_0_8 jw_432 dX11_light_45 ?_
            refine jr_aload_n dX11_light_48 0 rfl ?_
            refine jr_getk (i := 6) jc_11 jk_0 (by decide) (Nat.le_of_ble_eq_true rfl) jlk_0_6 jw_430 dX11_light_49 ?_
            refine jr_aload_n dX11_light_52 0 rfl ?_
            refine jr_getk (i := 7) jc_11 jk_0 (by decide) (Nat.le_of_ble_eq_true rfl) jlk_0_7 jw_431 dX11_light_53 ?_
            refine j2_callVv (As := [jl_vr G 40, jl_vr G 44]) dX11_light_56 (jt_X3_remember G 40 44 s7) jv_X3_remember ⟨rfl, rfl, rfl⟩ jw_1074 jk_47 (by decide) (by decide) rfl ⟨Nat.le_of_ble_eq_true rfl, Nat.le_of_ble_eq_true rfl⟩ rfl (Nat.le_of_ble_eq_true rfl) (fun r12 s13 hr12 => ?_)
            refine jr_aload_n dX11_light_59 0 rfl ?_
            refine jr_getk (i := 6) jc_11 jk_0 (by decide) (Nat.le_of_ble_eq_true rfl) jlk_0_6 jw_430 dX11_light_60 ?_
            refine jr_iload_n dX11_light_63 1 rfl ?_
            refine jr_iload_n dX11_light_64 2 rfl ?_
            refine j2_callVv (As := [jl_vi v1, jl_vi v2]) dX11_light_65 (jt_X7_kindle G 40 v1 v2 h1 h2 s13) jv_X7_kindle ⟨rfl, rfl, rfl⟩ jw_1085 jk_40 (by decide) (by decide) rfl ⟨Nat.le_of_ble_eq_true rfl, Nat.le_of_ble_eq_true rfl⟩ rfl (Nat.le_of_ble_eq_true rfl) (fun r14 s15 hr14 => ?_)
            refine jr_iconst dX11_light_68 ?_
            exact jr_ret_z rfl dX11_light_69
          · refine jr_sub [0] rfl ?_
            exact jj_X11_light_B38 G s7
    · refine jr_sub [0] rfl ?_
      exact jj_X11_light_B38 G s7
def jf_X11_snuff (v1 : Int) (s0 : jl_Mm) : jl_O :=
  jl_bd (jf_X11_isLit v1 s0) fun r1 s2 => if r1 = (0 : Int) then (jl_bd (jf_X11_refuse (2 : Int) s2) fun r8 s9 => some (r8, s9)) else (jl_bd (jf_X3_remember 40 44 s2) fun r4 s5 => jl_bd (jf_X7_quench 40 v1 s5) fun r6 s7 => some (r6, s7))
set_option maxRecDepth 20000 in
set_option maxHeartbeats 2000000 in
theorem jt_X11_snuff (G : jl_GC) (v1 : Int) (h1 : jl_n3 v1) (s0 : jl_Mm) : jC2 G jM_X11_snuff [jl_vr G 0, jl_vi v1] s0 (jf_X11_snuff v1 s0) := by
  refine jl_met (plainFor_of_name rfl) (Nat.le_of_ble_eq_true rfl) ?_
  show j2 G jM_X11_snuff 0 [(0, jl_vr G 0), (1, jl_vi v1)] [] s0 _
  refine jr_aload_n dX11_snuff_0 0 rfl ?_
  refine jr_iload_n dX11_snuff_1 1 rfl ?_
  refine j2_callVz (As := [jl_vi v1]) dX11_snuff_2 (jt_X11_isLit G v1 h1 s0) jv_X11_isLit ⟨rfl, rfl, rfl⟩ jw_940 jk_0 (by decide) (by decide) rfl ⟨Nat.le_of_ble_eq_true rfl, Nat.le_of_ble_eq_true rfl⟩ rfl (Nat.le_of_ble_eq_true rfl) (fun r1 s2 hr1 => ?_)
  refine jr_if_ne (t := 14) dX11_snuff_5 (by decide) (jl_nz hr1) (fun c3 => ?_) (fun c3 => ?_)
  · refine jr_aload_n dX11_snuff_8 0 rfl ?_
    refine jr_iconst dX11_snuff_9 ?_
    refine j2_callVi (As := [jl_vi (2 : Int)]) dX11_snuff_10 (jt_X11_refuse G (2 : Int) (jl_nlit rfl) s2) jv_X11_refuse ⟨rfl, rfl, rfl⟩ jw_483 jk_0 (by decide) (by decide) rfl ⟨Nat.le_of_ble_eq_true rfl, Nat.le_of_ble_eq_true rfl⟩ rfl (Nat.le_of_ble_eq_true rfl) (fun r8 s9 hr8 => ?_)
    exact jr_ret_i rfl hr8 dX11_snuff_13
  · refine jr_aload_n dX11_snuff_14 0 rfl ?_
    refine jr_getk (i := 8) jc_11 jk_0 (by decide) (Nat.le_of_ble_eq_true rfl) jlk_0_8 jw_432 dX11_snuff_15 ?_
    refine jr_aload_n dX11_snuff_18 0 rfl ?_
    refine jr_getk (i := 6) jc_11 jk_0 (by decide) (Nat.le_of_ble_eq_true rfl) jlk_0_6 jw_430 dX11_snuff_19 ?_
    refine jr_aload_n dX11_snuff_22 0 rfl ?_
    refine jr_getk (i := 7) jc_11 jk_0 (by decide) (Nat.le_of_ble_eq_true rfl) jlk_0_7 jw_431 dX11_snuff_23 ?_
    refine j2_callVv (As := [jl_vr G 40, jl_vr G 44]) dX11_snuff_26 (jt_X3_remember G 40 44 s2) jv_X3_remember ⟨rfl, rfl, rfl⟩ jw_1074 jk_47 (by decide) (by decide) rfl ⟨Nat.le_of_ble_eq_true rfl, Nat.le_of_ble_eq_true rfl⟩ rfl (Nat.le_of_ble_eq_true rfl) (fun r4 s5 hr4 => ?_)
    refine jr_aload_n dX11_snuff_29 0 rfl ?_
    refine jr_getk (i := 6) jc_11 jk_0 (by decide) (Nat.le_of_ble_eq_true rfl) jlk_0_6 jw_430 dX11_snuff_30 ?_
    refine jr_iload_n dX11_snuff_33 1 rfl ?_
    refine j2_callVi (As := [jl_vi v1]) dX11_snuff_34 (jt_X7_quench G 40 v1 h1 s5) jv_X7_quench ⟨rfl, rfl, rfl⟩ jw_1090 jk_40 (by decide) (by decide) rfl ⟨Nat.le_of_ble_eq_true rfl, Nat.le_of_ble_eq_true rfl⟩ rfl (Nat.le_of_ble_eq_true rfl) (fun r6 s7 hr6 => ?_)
    exact jr_ret_i rfl hr6 dX11_snuff_37
def jf_X11_move_B29 (s0 : jl_Mm) : jl_O :=
  jl_bd (jf_X11_deny (2 : Int) s0) fun r4 s5 => jl_zb r4 s5
set_option maxRecDepth 20000 in
set_option maxHeartbeats 2000000 in
theorem jj_X11_move_B29 (G : jl_GC) (s0 : jl_Mm) : j2 G jM_X11_move 29 [(0, jl_vr G 0)] [] s0 (jf_X11_move_B29 s0) := by
  refine jr_aload_n dX11_move_29 0 rfl ?_
  refine jr_iconst dX11_move_30 ?_
  refine j2_callVz (As := [jl_vi (2 : Int)]) dX11_move_31 (jt_X11_deny G (2 : Int) (jl_nlit rfl) s0) jv_X11_deny ⟨rfl, rfl, rfl⟩ jw_495 jk_0 (by decide) (by decide) rfl ⟨Nat.le_of_ble_eq_true rfl, Nat.le_of_ble_eq_true rfl⟩ rfl (Nat.le_of_ble_eq_true rfl) (fun r4 s5 hr4 => ?_)
  exact jr_ret_z rfl dX11_move_34
def jf_X11_move (v1 : Int) (v2 : Int) (s0 : jl_Mm) : jl_O :=
  jl_bd (jf_X11_isPerson v1 s0) fun r1 s2 => if r1 = (0 : Int) then (jf_X11_move_B29 s2) else (jl_bd (jf_X11_isWindow v2 s2) fun r6 s7 => if r6 = (0 : Int) then (jf_X11_move_B29 s7) else (if 0 ≤ v1 ∧ v1 < ((6 : Nat) : Int) then if jl_g s7 41 (v1).toNat = v2 then (jf_X11_move_B29 s7) else (jl_bd (jf_X3_remember 40 44 s7) fun r11 s12 => if 0 ≤ v1 ∧ v1 < ((6 : Nat) : Int) then jl_lm (jl_up s12 41 (v1).toNat v2) fun s14 => jl_zb (1 : Int) s14 else none) else none))
set_option maxRecDepth 20000 in
set_option maxHeartbeats 2000000 in
theorem jt_X11_move (G : jl_GC) (v1 : Int) (v2 : Int) (h1 : jl_n3 v1) (h2 : jl_n3 v2) (s0 : jl_Mm) : jC2 G jM_X11_move [jl_vr G 0, jl_vi v1, jl_vi v2] s0 (jf_X11_move v1 v2 s0) := by
  refine jl_met (plainFor_of_name rfl) (Nat.le_of_ble_eq_true rfl) ?_
  show j2 G jM_X11_move 0 [(0, jl_vr G 0), (1, jl_vi v1), (2, jl_vi v2)] [] s0 _
  refine jr_aload_n dX11_move_0 0 rfl ?_
  refine jr_iload_n dX11_move_1 1 rfl ?_
  refine j2_callVz (As := [jl_vi v1]) dX11_move_2 (jt_X11_isPerson G v1 h1 s0) jv_X11_isPerson ⟨rfl, rfl, rfl⟩ jw_830 jk_0 (by decide) (by decide) rfl ⟨Nat.le_of_ble_eq_true rfl, Nat.le_of_ble_eq_true rfl⟩ rfl (Nat.le_of_ble_eq_true rfl) (fun r1 s2 hr1 => ?_)
  refine jr_if_eq (t := 29) dX11_move_5 (by decide) (jl_nz hr1) (fun c3 => ?_) (fun c3 => ?_)
  · refine jr_sub [0] rfl ?_
    exact jj_X11_move_B29 G s2
  · refine jr_aload_n dX11_move_8 0 rfl ?_
    refine jr_iload_n dX11_move_9 2 rfl ?_
    refine j2_callVz (As := [jl_vi v2]) dX11_move_10 (jt_X11_isWindow G v2 h2 s2) jv_X11_isWindow ⟨rfl, rfl, rfl⟩ jw_862 jk_0 (by decide) (by decide) rfl ⟨Nat.le_of_ble_eq_true rfl, Nat.le_of_ble_eq_true rfl⟩ rfl (Nat.le_of_ble_eq_true rfl) (fun r6 s7 hr6 => ?_)
    refine jr_if_eq (t := 29) dX11_move_13 (by decide) (jl_nz hr6) (fun c8 => ?_) (fun c8 => ?_)
    · refine jr_sub [0] rfl ?_
      exact jj_X11_move_B29 G s7
    · refine jr_aload_n dX11_move_16 0 rfl ?_
      refine jr_getk (i := 6) jc_11 jk_0 (by decide) (Nat.le_of_ble_eq_true rfl) jlk_0_6 jw_430 dX11_move_17 ?_
      refine jr_getkN (i := 2) jc_7 jk_40 (by decide) (Nat.le_of_ble_eq_true rfl) jlk_40_2 jw_247 dX11_move_20 ?_
      refine jr_iload_n dX11_move_23 1 rfl ?_
      refine jr_grd (fun g9 => ?_)
      refine jr_iaload jk_41 (by decide) h1 g9 dX11_move_24 ?_
      refine jr_iload_n dX11_move_25 2 rfl ?_
      refine jr_icmp_ne (t := 35) dX11_move_26 (by decide) (jl_n3_to _) h2 (fun c10 => ?_) (fun c10 => ?_)
      · refine jr_sub [0] rfl ?_
        exact jj_X11_move_B29 G s7
      · refine jr_aload_n dX11_move_35 0 rfl ?_
        refine jr_getk (i := 8) jc_11 jk_0 (by decide) (Nat.le_of_ble_eq_true rfl) jlk_0_8 jw_432 dX11_move_36 ?_
        refine jr_aload_n dX11_move_39 0 rfl ?_
        refine jr_getk (i := 6) jc_11 jk_0 (by decide) (Nat.le_of_ble_eq_true rfl) jlk_0_6 jw_430 dX11_move_40 ?_
        refine jr_aload_n dX11_move_43 0 rfl ?_
        refine jr_getk (i := 7) jc_11 jk_0 (by decide) (Nat.le_of_ble_eq_true rfl) jlk_0_7 jw_431 dX11_move_44 ?_
        refine j2_callVv (As := [jl_vr G 40, jl_vr G 44]) dX11_move_47 (jt_X3_remember G 40 44 s7) jv_X3_remember ⟨rfl, rfl, rfl⟩ jw_1074 jk_47 (by decide) (by decide) rfl ⟨Nat.le_of_ble_eq_true rfl, Nat.le_of_ble_eq_true rfl⟩ rfl (Nat.le_of_ble_eq_true rfl) (fun r11 s12 hr11 => ?_)
        refine jr_aload_n dX11_move_50 0 rfl ?_
        refine jr_getk (i := 6) jc_11 jk_0 (by decide) (Nat.le_of_ble_eq_true rfl) jlk_0_6 jw_430 dX11_move_51 ?_
        refine jr_getkN (i := 2) jc_7 jk_40 (by decide) (Nat.le_of_ble_eq_true rfl) jlk_40_2 jw_247 dX11_move_54 ?_
        refine jr_iload_n dX11_move_57 1 rfl ?_
        refine jr_iload_n dX11_move_58 2 rfl ?_
        refine jr_grd (fun g13 => ?_)
        refine jr_iastore jk_41 (by decide) h1 g13 dX11_move_59 ?_
        refine jr_lm (fun s14 => ?_)
        refine jr_iconst dX11_move_60 ?_
        exact jr_ret_z rfl dX11_move_61
def jf_X11_buy_B32 (s0 : jl_Mm) : jl_O :=
  jl_bd (jf_X11_refuse (2 : Int) s0) fun r4 s5 => some (r4, s5)
set_option maxRecDepth 20000 in
set_option maxHeartbeats 2000000 in
theorem jj_X11_buy_B32 (G : jl_GC) (s0 : jl_Mm) : j2 G jM_X11_buy 32 [(0, jl_vr G 0)] [] s0 (jf_X11_buy_B32 s0) := by
  refine jr_aload_n dX11_buy_32 0 rfl ?_
  refine jr_iconst dX11_buy_33 ?_
  refine j2_callVi (As := [jl_vi (2 : Int)]) dX11_buy_34 (jt_X11_refuse G (2 : Int) (jl_nlit rfl) s0) jv_X11_refuse ⟨rfl, rfl, rfl⟩ jw_483 jk_0 (by decide) (by decide) rfl ⟨Nat.le_of_ble_eq_true rfl, Nat.le_of_ble_eq_true rfl⟩ rfl (Nat.le_of_ble_eq_true rfl) (fun r4 s5 hr4 => ?_)
  exact jr_ret_i rfl hr4 dX11_buy_37
def jf_X11_buy (v1 : Int) (s0 : jl_Mm) : jl_O :=
  jl_bd (jf_X11_hasStreet s0) fun r1 s2 => if r1 = (0 : Int) then (jf_X11_buy_B32 s2) else (if v1 < (1 : Int) then (jf_X11_buy_B32 s2) else (if (999 : Int) < v1 then (jf_X11_buy_B32 s2) else (if jl_g s2 40 1 < (999 : Int) then (jl_bd (jf_X3_remember 40 44 s2) fun r9 s10 => jl_bd (jf_X7_addTallow 40 v1 s10) fun r11 s12 => some (jl_g s12 40 1, s12)) else (jf_X11_buy_B32 s2))))
set_option maxRecDepth 20000 in
set_option maxHeartbeats 2000000 in
theorem jt_X11_buy (G : jl_GC) (v1 : Int) (h1 : jl_n3 v1) (s0 : jl_Mm) : jC2 G jM_X11_buy [jl_vr G 0, jl_vi v1] s0 (jf_X11_buy v1 s0) := by
  refine jl_met (plainFor_of_name rfl) (Nat.le_of_ble_eq_true rfl) ?_
  show j2 G jM_X11_buy 0 [(0, jl_vr G 0), (1, jl_vi v1)] [] s0 _
  refine jr_aload_n dX11_buy_0 0 rfl ?_
  refine j2_callVz (As := []) dX11_buy_1 (jt_X11_hasStreet G s0) jv_X11_hasStreet ⟨rfl, rfl, rfl⟩ jw_993 jk_0 (by decide) (by decide) rfl ⟨Nat.le_of_ble_eq_true rfl, Nat.le_of_ble_eq_true rfl⟩ rfl (Nat.le_of_ble_eq_true rfl) (fun r1 s2 hr1 => ?_)
  refine jr_if_eq (t := 32) dX11_buy_4 (by decide) (jl_nz hr1) (fun c3 => ?_) (fun c3 => ?_)
  · refine jr_sub [0] rfl ?_
    exact jj_X11_buy_B32 G s2
  · refine jr_iload_n dX11_buy_7 1 rfl ?_
    refine jr_iconst dX11_buy_8 ?_
    refine jr_icmp_lt (t := 32) dX11_buy_9 (by decide) h1 (jl_nlit rfl) (fun c6 => ?_) (fun c6 => ?_)
    · refine jr_sub [0] rfl ?_
      exact jj_X11_buy_B32 G s2
    · refine jr_iload_n dX11_buy_12 1 rfl ?_
      refine jr_sipush dX11_buy_13 (by decide) ?_
      refine jr_icmp_gt (t := 32) dX11_buy_16 (by decide) h1 (jl_nlit rfl) (fun c7 => ?_) (fun c7 => ?_)
      · refine jr_sub [0] rfl ?_
        exact jj_X11_buy_B32 G s2
      · refine jr_aload_n dX11_buy_19 0 rfl ?_
        refine jr_getk (i := 6) jc_11 jk_0 (by decide) (Nat.le_of_ble_eq_true rfl) jlk_0_6 jw_430 dX11_buy_20 ?_
        refine jr_getiN (i := 1) jc_7 jk_40 (by decide) (Nat.le_of_ble_eq_true rfl) jlk_40_1 jft_7_1 jw_242 dX11_buy_23 ?_
        refine jr_sipush dX11_buy_26 (by decide) ?_
        refine jr_icmp_lt (t := 38) dX11_buy_29 (by decide) (jl_n3_to _) (jl_nlit rfl) (fun c8 => ?_) (fun c8 => ?_)
        · refine jr_aload_n dX11_buy_38 0 rfl ?_
          refine jr_getk (i := 8) jc_11 jk_0 (by decide) (Nat.le_of_ble_eq_true rfl) jlk_0_8 jw_432 dX11_buy_39 ?_
          refine jr_aload_n dX11_buy_42 0 rfl ?_
          refine jr_getk (i := 6) jc_11 jk_0 (by decide) (Nat.le_of_ble_eq_true rfl) jlk_0_6 jw_430 dX11_buy_43 ?_
          refine jr_aload_n dX11_buy_46 0 rfl ?_
          refine jr_getk (i := 7) jc_11 jk_0 (by decide) (Nat.le_of_ble_eq_true rfl) jlk_0_7 jw_431 dX11_buy_47 ?_
          refine j2_callVv (As := [jl_vr G 40, jl_vr G 44]) dX11_buy_50 (jt_X3_remember G 40 44 s2) jv_X3_remember ⟨rfl, rfl, rfl⟩ jw_1074 jk_47 (by decide) (by decide) rfl ⟨Nat.le_of_ble_eq_true rfl, Nat.le_of_ble_eq_true rfl⟩ rfl (Nat.le_of_ble_eq_true rfl) (fun r9 s10 hr9 => ?_)
          refine jr_aload_n dX11_buy_53 0 rfl ?_
          refine jr_getk (i := 6) jc_11 jk_0 (by decide) (Nat.le_of_ble_eq_true rfl) jlk_0_6 jw_430 dX11_buy_54 ?_
          refine jr_iload_n dX11_buy_57 1 rfl ?_
          refine j2_callVv (As := [jl_vi v1]) dX11_buy_58 (jt_X7_addTallow G 40 v1 h1 s10) jv_X7_addTallow ⟨rfl, rfl, rfl⟩ jw_1099 jk_40 (by decide) (by decide) rfl ⟨Nat.le_of_ble_eq_true rfl, Nat.le_of_ble_eq_true rfl⟩ rfl (Nat.le_of_ble_eq_true rfl) (fun r11 s12 hr11 => ?_)
          refine jr_aload_n dX11_buy_61 0 rfl ?_
          refine jr_getk (i := 6) jc_11 jk_0 (by decide) (Nat.le_of_ble_eq_true rfl) jlk_0_6 jw_430 dX11_buy_62 ?_
          refine jr_getiN (i := 1) jc_7 jk_40 (by decide) (Nat.le_of_ble_eq_true rfl) jlk_40_1 jft_7_1 jw_242 dX11_buy_65 ?_
          exact jr_ret_i rfl (jl_n3_to _) dX11_buy_68
        · refine jr_sub [0] rfl ?_
          exact jj_X11_buy_B32 G s2
def jf_X2_add_B62 (s0 : jl_Mm) : jl_O :=
  some (0, s0)
set_option maxRecDepth 20000 in
set_option maxHeartbeats 2000000 in
theorem jj_X2_add_B62 (G : jl_GC) (s0 : jl_Mm) : j2 G jM_X2_add 62 [] [] s0 (jf_X2_add_B62 s0) := by
  exact jr_ret_v rfl dX2_add_62
def jf_X2_add (q0 : Nat) (v1 : Int) (v2 : Int) (s0 : jl_Mm) : jl_O :=
  if (jl_kd q0).1 = 2 then jl_let (jl_rem (jl_add (jl_g s0 q0 2) (jl_g s0 q0 3)) (40 : Int)) fun x1 => if 0 ≤ x1 ∧ x1 < ((40 : Nat) : Int) then jl_lm (jl_up s0 (q0 + 1) (x1).toNat v1) fun s3 => if 0 ≤ x1 ∧ x1 < ((40 : Nat) : Int) then jl_lm (jl_up s3 (q0 + 2) (x1).toNat v2) fun s5 => if (40 : Int) ≤ jl_g s5 q0 3 then (jl_lm (jl_up s5 q0 2 (jl_rem (jl_add (jl_g s5 q0 2) (1 : Int)) (40 : Int))) fun s7 => jf_X2_add_B62 s7) else (jl_lm (jl_up s5 q0 3 (jl_add (jl_g s5 q0 3) (1 : Int))) fun s8 => jf_X2_add_B62 s8) else none else none else none
set_option maxRecDepth 20000 in
set_option maxHeartbeats 2000000 in
theorem jt_X2_add (G : jl_GC) (q0 : Nat) (v1 : Int) (v2 : Int) (h1 : jl_n3 v1) (h2 : jl_n3 v2) (s0 : jl_Mm) : jC2 G jM_X2_add [jl_vr G q0, jl_vi v1, jl_vi v2] s0 (jf_X2_add q0 v1 v2 s0) := by
  refine jl_met (plainFor_of_name rfl) (Nat.le_of_ble_eq_true rfl) ?_
  show j2 G jM_X2_add 0 [(0, jl_vr G q0), (1, jl_vi v1), (2, jl_vi v2)] [] s0 _
  refine jr_grd (fun gp0 => ?_)
  refine jr_aload_n dX2_add_0 0 rfl ?_
  refine jr_geti (i := 2) jc_2 (jl_kd1 gp0) (jl_kdlt gp0 (by decide)) (Nat.le_of_ble_eq_true rfl) (js2n_2 gp0) jft_2_2 jw_275 dX2_add_1 ?_
  refine jr_aload_n dX2_add_4 0 rfl ?_
  refine jr_geti (i := 3) jc_2 (jl_kd1 gp0) (jl_kdlt gp0 (by decide)) (Nat.le_of_ble_eq_true rfl) (js2n_3 gp0) jft_2_3 jw_276 dX2_add_5 ?_
  refine jr_iadd dX2_add_8 ?_
  refine jr_bipush dX2_add_9 (by decide) ?_
  refine jr_irem dX2_add_11 (jl_nlit rfl) (by decide) ?_
  refine jr_let (jl_n3_to _) (fun x1 hx1 => ?_)
  refine jr_istore_n (lv := [(3, jl_vi x1), (0, jl_vr G q0), (1, jl_vi v1), (2, jl_vi v2)]) dX2_add_12 rfl (Nat.le_of_ble_eq_true rfl) rfl ?_
  refine jr_aload_n dX2_add_13 1 rfl ?_
  refine jr_getk (i := 0) jc_2 (jl_kd1 gp0) (jl_kdlt gp0 (by decide)) (Nat.le_of_ble_eq_true rfl) (js2_0 gp0) jw_273 dX2_add_14 ?_
  refine jr_iload_n dX2_add_17 0 rfl ?_
  refine jr_iload_n dX2_add_18 2 rfl ?_
  refine jr_grd (fun g2 => ?_)
  refine jr_iastore (js2k_0 gp0) (jl_kdl (js2k_0 gp0) (by decide)) hx1 g2 dX2_add_19 ?_
  refine jr_lm (fun s3 => ?_)
  refine jr_aload_n dX2_add_20 1 rfl ?_
  refine jr_getk (i := 1) jc_2 (jl_kd1 gp0) (jl_kdlt gp0 (by decide)) (Nat.le_of_ble_eq_true rfl) (js2_1 gp0) jw_274 dX2_add_21 ?_
  refine jr_iload_n dX2_add_24 0 rfl ?_
  refine jr_iload_n dX2_add_25 3 rfl ?_
  refine jr_grd (fun g4 => ?_)
  refine jr_iastore (js2k_1 gp0) (jl_kdl (js2k_1 gp0) (by decide)) hx1 g4 dX2_add_26 ?_
  refine jr_lm (fun s5 => ?_)
  refine jr_aload_n dX2_add_27 1 rfl ?_
  refine jr_geti (i := 3) jc_2 (jl_kd1 gp0) (jl_kdlt gp0 (by decide)) (Nat.le_of_ble_eq_true rfl) (js2n_3 gp0) jft_2_3 jw_276 dX2_add_28 ?_
  refine jr_bipush dX2_add_31 (by decide) ?_
  refine jr_icmp_ge (t := 49) dX2_add_33 (by decide) (jl_n3_to _) (jl_nlit rfl) (fun c6 => ?_) (fun c6 => ?_)
  · refine jr_aload_n dX2_add_49 1 rfl ?_
    refine jr_aload_n dX2_add_50 1 rfl ?_
    refine jr_geti (i := 2) jc_2 (jl_kd1 gp0) (jl_kdlt gp0 (by decide)) (Nat.le_of_ble_eq_true rfl) (js2n_2 gp0) jft_2_2 jw_275 dX2_add_51 ?_
    refine jr_iconst dX2_add_54 ?_
    refine jr_iadd dX2_add_55 ?_
    refine jr_bipush dX2_add_56 (by decide) ?_
    refine jr_irem dX2_add_58 (jl_nlit rfl) (by decide) ?_
    refine jr_puti (i := 2) jc_2 (jl_kd1 gp0) (jl_kdlt gp0 (by decide)) (Nat.le_of_ble_eq_true rfl) (js2n_2 gp0) jft_2_2 rfl jw_275 rfl dX2_add_59 ?_
    refine jr_lm (fun s7 => ?_)
    refine jr_sub [] rfl ?_
    exact jj_X2_add_B62 G s7
  · refine jr_aload_n dX2_add_36 1 rfl ?_
    refine jr_dup dX2_add_37 rfl ?_
    refine jr_geti (i := 3) jc_2 (jl_kd1 gp0) (jl_kdlt gp0 (by decide)) (Nat.le_of_ble_eq_true rfl) (js2n_3 gp0) jft_2_3 jw_276 dX2_add_38 ?_
    refine jr_iconst dX2_add_41 ?_
    refine jr_iadd dX2_add_42 ?_
    refine jr_puti (i := 3) jc_2 (jl_kd1 gp0) (jl_kdlt gp0 (by decide)) (Nat.le_of_ble_eq_true rfl) (js2n_3 gp0) jft_2_3 rfl jw_276 rfl dX2_add_43 ?_
    refine jr_lm (fun s8 => ?_)
    refine jr_goto (t := 62) dX2_add_46 (by decide) ?_
    refine jr_sub [] rfl ?_
    exact jj_X2_add_B62 G s8
def jf_X2_addAll_B23 (R2 : Nat → Int → Int → Int → jl_Mm → jl_O) (l0 : Nat) (l1 : Int) (l2 : Int) (l3 : Int) (s0 : jl_Mm) : jl_O :=
  R2 l0 l1 l2 (jl_add l3 1) s0
set_option maxRecDepth 20000 in
set_option maxHeartbeats 2000000 in
theorem jj_X2_addAll_B23 (G : jl_GC) (R2 : Nat → Int → Int → Int → jl_Mm → jl_O) (hR2 : ∀ (l0 : Nat) (l1 : Int) (l2 : Int) (l3 : Int) (_hl0 : (jl_kd l0).1 = 2) (_hl1 : jl_n3 l1) (_hl2 : jl_n3 l2) (_hl3 : jl_n3 l3) (s0 : jl_Mm), j2 G jM_X2_addAll 2 [(0, jl_vr G l0), (1, jl_vi l1), (2, jl_vi l2), (3, jl_vi l3)] [] s0 (R2 l0 l1 l2 l3 s0)) (l0 : Nat) (l1 : Int) (l2 : Int) (l3 : Int) (hl0 : (jl_kd l0).1 = 2) (hl1 : jl_n3 l1) (hl2 : jl_n3 l2) (hl3 : jl_n3 l3) (s0 : jl_Mm) : j2 G jM_X2_addAll 23 [(0, jl_vr G l0), (1, jl_vi l1), (2, jl_vi l2), (3, jl_vi l3)] [] s0 (jf_X2_addAll_B23 R2 l0 l1 l2 l3 s0) := by
  refine jr_iinc (j := 3) (lv := [(3, jl_vi (jl_add l3 1)), (0, jl_vr G l0), (1, jl_vi l1), (2, jl_vi l2)]) dX2_addAll_23 rfl (Nat.le_of_ble_eq_true rfl) rfl ?_
  refine jr_goto (t := 2) dX2_addAll_26 (by decide) ?_
  refine jr_sub [1, 2, 3, 0] rfl ?_
  exact hR2 l0 l1 l2 (jl_add l3 1) hl0 hl1 hl2 (jl_n3_to _) s0
def jf_X2_addAll_L2 : Nat → Nat → Int → Int → Int → jl_Mm → jl_O
  | 0, _, _, _, _, _ => none
  | n + 1, l0, l1, l2, l3, s0 =>
    if (8 : Int) ≤ l3 then (some (0, s0)) else (if jl_and (jl_shr l2 l3) (1 : Int) = (1 : Int) then (jl_bd (jf_X2_add l0 l1 l3 s0) fun r3 s4 => jf_X2_addAll_B23 (jf_X2_addAll_L2 n) l0 l1 l2 l3 s4) else (jf_X2_addAll_B23 (jf_X2_addAll_L2 n) l0 l1 l2 l3 s0))
set_option maxRecDepth 20000 in
set_option maxHeartbeats 2000000 in
theorem jj_X2_addAll_L2 (G : jl_GC) : ∀ (n : Nat) (l0 : Nat) (l1 : Int) (l2 : Int) (l3 : Int) (hl0 : (jl_kd l0).1 = 2) (hl1 : jl_n3 l1) (hl2 : jl_n3 l2) (hl3 : jl_n3 l3) (s0 : jl_Mm), j2 G jM_X2_addAll 2 [(0, jl_vr G l0), (1, jl_vi l1), (2, jl_vi l2), (3, jl_vi l3)] [] s0 (jf_X2_addAll_L2 n l0 l1 l2 l3 s0) := by
  intro n
  induction n with
  | zero =>
    intros
    exact jr_none
  | succ n ih =>
    intro l0 l1 l2 l3 hl0 hl1 hl2 hl3 s0
    refine jr_iload_n dX2_addAll_2 3 rfl ?_
    refine jr_bipush dX2_addAll_3 (by decide) ?_
    refine jr_icmp_ge (t := 29) dX2_addAll_5 (by decide) hl3 (jl_nlit rfl) (fun c1 => ?_) (fun c1 => ?_)
    · exact jr_ret_v rfl dX2_addAll_29
    · refine jr_iload_n dX2_addAll_8 2 rfl ?_
      refine jr_iload_n dX2_addAll_9 3 rfl ?_
      refine jr_ishr dX2_addAll_10 ?_
      refine jr_iconst dX2_addAll_11 ?_
      refine jr_iand dX2_addAll_12 ?_
      refine jr_iconst dX2_addAll_13 ?_
      refine jr_icmp_ne (t := 23) dX2_addAll_14 (by decide) (jl_n3_to _) (jl_nlit rfl) (fun c2 => ?_) (fun c2 => ?_)
      · refine jr_aload_n dX2_addAll_17 0 rfl ?_
        refine jr_iload_n dX2_addAll_18 1 rfl ?_
        refine jr_iload_n dX2_addAll_19 3 rfl ?_
        refine j2_callVv (As := [jl_vi l1, jl_vi l3]) dX2_addAll_20 (jt_X2_add G l0 l1 l3 hl1 hl3 s0) jv_X2_add ⟨rfl, rfl, rfl⟩ jw_1112 (jl_kd1 hl0) (by decide) (jl_kdlt hl0 (by decide)) rfl ⟨Nat.le_of_ble_eq_true rfl, Nat.le_of_ble_eq_true rfl⟩ rfl (Nat.le_of_ble_eq_true rfl) (fun r3 s4 hr3 => ?_)
        exact jj_X2_addAll_B23 G (jf_X2_addAll_L2 n) (ih) l0 l1 l2 l3 hl0 hl1 hl2 hl3 s4
      · exact jj_X2_addAll_B23 G (jf_X2_addAll_L2 n) (ih) l0 l1 l2 l3 hl0 hl1 hl2 hl3 s0
def jf_X2_addAll (q0 : Nat) (v1 : Int) (v2 : Int) (s0 : jl_Mm) : jl_O :=
  if (jl_kd q0).1 = 2 then jf_X2_addAll_L2 jl_fu q0 v1 v2 (0 : Int) s0 else none
set_option maxRecDepth 20000 in
set_option maxHeartbeats 2000000 in
theorem jt_X2_addAll (G : jl_GC) (q0 : Nat) (v1 : Int) (v2 : Int) (h1 : jl_n3 v1) (h2 : jl_n3 v2) (s0 : jl_Mm) : jC2 G jM_X2_addAll [jl_vr G q0, jl_vi v1, jl_vi v2] s0 (jf_X2_addAll q0 v1 v2 s0) := by
  refine jl_met (plainFor_of_name rfl) (Nat.le_of_ble_eq_true rfl) ?_
  show j2 G jM_X2_addAll 0 [(0, jl_vr G q0), (1, jl_vi v1), (2, jl_vi v2)] [] s0 _
  refine jr_grd (fun gp0 => ?_)
  refine jr_iconst dX2_addAll_0 ?_
  refine jr_istore_n (lv := [(3, jl_vi (0 : Int)), (0, jl_vr G q0), (1, jl_vi v1), (2, jl_vi v2)]) dX2_addAll_1 rfl (Nat.le_of_ble_eq_true rfl) rfl ?_
  refine jr_sub [1, 2, 3, 0] rfl ?_
  exact jj_X2_addAll_L2 G jl_fu q0 v1 v2 (0 : Int) gp0 h1 h2 (jl_nlit rfl) s0
def jf_X11_passNow (s0 : jl_Mm) : jl_O :=
  jl_let (jl_g s0 40 0) fun x1 => jl_bd (jf_X5_pass 40 s0) fun r2 s3 => jl_bd (jf_X2_addAll 44 x1 r2 s3) fun r4 s5 => jl_bd (jf_J6_bitCount_0f7a4 r2 s5) fun r6 s7 => some (r6, s7)
set_option maxRecDepth 20000 in
set_option maxHeartbeats 2000000 in
theorem jt_X11_passNow (G : jl_GC) (s0 : jl_Mm) : jC2 G jM_X11_passNow [jl_vr G 0] s0 (jf_X11_passNow s0) := by
  refine jl_met (plainFor_of_name rfl) (Nat.le_of_ble_eq_true rfl) ?_
  show j2 G jM_X11_passNow 0 [(0, jl_vr G 0)] [] s0 _
  refine jr_aload_n dX11_passNow_0 0 rfl ?_
  refine jr_getk (i := 6) jc_11 jk_0 (by decide) (Nat.le_of_ble_eq_true rfl) jlk_0_6 jw_430 dX11_passNow_1 ?_
  refine jr_getiN (i := 0) jc_7 jk_40 (by decide) (Nat.le_of_ble_eq_true rfl) jlk_40_0 jft_7_0 jw_239 dX11_passNow_4 ?_
  refine jr_let (jl_n3_to _) (fun x1 hx1 => ?_)
  refine jr_istore_n (lv := [(1, jl_vi x1), (0, jl_vr G 0)]) dX11_passNow_7 rfl (Nat.le_of_ble_eq_true rfl) rfl ?_
  refine jr_aload_n dX11_passNow_8 1 rfl ?_
  refine jr_getk (i := 9) jc_11 jk_0 (by decide) (Nat.le_of_ble_eq_true rfl) jlk_0_9 jw_433 dX11_passNow_9 ?_
  refine jr_aload_n dX11_passNow_12 1 rfl ?_
  refine jr_getk (i := 6) jc_11 jk_0 (by decide) (Nat.le_of_ble_eq_true rfl) jlk_0_6 jw_430 dX11_passNow_13 ?_
  refine j2_callVi (As := [jl_vr G 40]) dX11_passNow_16 (jt_X5_pass G 40 s0) jv_X5_pass ⟨rfl, rfl, rfl⟩ jw_907 jk_190 (by decide) (by decide) rfl ⟨Nat.le_of_ble_eq_true rfl, Nat.le_of_ble_eq_true rfl⟩ rfl (Nat.le_of_ble_eq_true rfl) (fun r2 s3 hr2 => ?_)
  refine jr_istore_n (lv := [(2, jl_vi r2), (1, jl_vi x1), (0, jl_vr G 0)]) dX11_passNow_19 rfl (Nat.le_of_ble_eq_true rfl) rfl ?_
  refine jr_aload_n dX11_passNow_20 2 rfl ?_
  refine jr_getk (i := 7) jc_11 jk_0 (by decide) (Nat.le_of_ble_eq_true rfl) jlk_0_7 jw_431 dX11_passNow_21 ?_
  refine jr_iload_n dX11_passNow_24 1 rfl ?_
  refine jr_iload_n dX11_passNow_25 0 rfl ?_
  refine j2_callVv (As := [jl_vi x1, jl_vi r2]) dX11_passNow_26 (jt_X2_addAll G 44 x1 r2 hx1 hr2 s3) jv_X2_addAll ⟨rfl, rfl, rfl⟩ jw_1108 jk_44 (by decide) (by decide) rfl ⟨Nat.le_of_ble_eq_true rfl, Nat.le_of_ble_eq_true rfl⟩ rfl (Nat.le_of_ble_eq_true rfl) (fun r4 s5 hr4 => ?_)
  refine jr_iload_n dX11_passNow_29 0 rfl ?_
  refine j2_callSi (As := [jl_vi r2]) dX11_passNow_30 (jt_J6_bitCount_0f7a4 G r2 hr2 s5) jv_J6_bitCount_0f7a4 ⟨rfl, rfl, rfl⟩ jw_783 ⟨Nat.le_of_ble_eq_true rfl, Nat.le_of_ble_eq_true rfl⟩ rfl (Nat.le_of_ble_eq_true rfl) (fun r6 s7 hr6 => ?_)
  exact jr_ret_i rfl hr6 dX11_passNow_33
def jf_X11_hours_B21 (s0 : jl_Mm) : jl_O :=
  jl_bd (jf_X11_refuse (3 : Int) s0) fun r4 s5 => some (r4, s5)
set_option maxRecDepth 20000 in
set_option maxHeartbeats 2000000 in
theorem jj_X11_hours_B21 (G : jl_GC) (s0 : jl_Mm) : j2 G jM_X11_hours 21 [(0, jl_vr G 0)] [] s0 (jf_X11_hours_B21 s0) := by
  refine jr_aload_n dX11_hours_21 0 rfl ?_
  refine jr_iconst dX11_hours_22 ?_
  refine j2_callVi (As := [jl_vi (3 : Int)]) dX11_hours_23 (jt_X11_refuse G (3 : Int) (jl_nlit rfl) s0) jv_X11_refuse ⟨rfl, rfl, rfl⟩ jw_483 jk_0 (by decide) (by decide) rfl ⟨Nat.le_of_ble_eq_true rfl, Nat.le_of_ble_eq_true rfl⟩ rfl (Nat.le_of_ble_eq_true rfl) (fun r4 s5 hr4 => ?_)
  exact jr_ret_i rfl hr4 dX11_hours_26
def jf_X11_hours_L46 : Nat → Int → Int → Int → jl_Mm → jl_O
  | 0, _, _, _, _ => none
  | n + 1, l1, l2, l3, s0 =>
    if l1 ≤ l3 then (some (l2, s0)) else (jl_bd (jf_X11_passNow s0) fun r12 s13 => jl_let (jl_add l2 r12) fun x14 => jf_X11_hours_L46 n l1 x14 (jl_add l3 1) s13)
set_option maxRecDepth 20000 in
set_option maxHeartbeats 2000000 in
theorem jj_X11_hours_L46 (G : jl_GC) : ∀ (n : Nat) (l1 : Int) (l2 : Int) (l3 : Int) (hl1 : jl_n3 l1) (hl2 : jl_n3 l2) (hl3 : jl_n3 l3) (s0 : jl_Mm), j2 G jM_X11_hours 46 [(0, jl_vr G 0), (1, jl_vi l1), (2, jl_vi l2), (3, jl_vi l3)] [] s0 (jf_X11_hours_L46 n l1 l2 l3 s0) := by
  intro n
  induction n with
  | zero =>
    intros
    exact jr_none
  | succ n ih =>
    intro l1 l2 l3 hl1 hl2 hl3 s0
    refine jr_iload_n dX11_hours_46 3 rfl ?_
    refine jr_iload_n dX11_hours_47 1 rfl ?_
    refine jr_icmp_ge (t := 64) dX11_hours_48 (by decide) hl3 hl1 (fun c11 => ?_) (fun c11 => ?_)
    · refine jr_iload_n dX11_hours_64 2 rfl ?_
      exact jr_ret_i rfl hl2 dX11_hours_65
    · refine jr_iload_n dX11_hours_51 2 rfl ?_
      refine jr_aload_n dX11_hours_52 0 rfl ?_
      refine j2_callVi (As := []) dX11_hours_53 (jt_X11_passNow G s0) jv_X11_passNow ⟨rfl, rfl, rfl⟩ jw_1104 jk_0 (by decide) (by decide) rfl ⟨Nat.le_of_ble_eq_true rfl, Nat.le_of_ble_eq_true rfl⟩ rfl (Nat.le_of_ble_eq_true rfl) (fun r12 s13 hr12 => ?_)
      refine jr_iadd dX11_hours_56 ?_
      refine jr_let (jl_n3_to _) (fun x14 hx14 => ?_)
      refine jr_istore_n (lv := [(2, jl_vi x14), (0, jl_vr G 0), (1, jl_vi l1), (3, jl_vi l3)]) dX11_hours_57 rfl (Nat.le_of_ble_eq_true rfl) rfl ?_
      refine jr_iinc (j := 3) (lv := [(3, jl_vi (jl_add l3 1)), (2, jl_vi x14), (0, jl_vr G 0), (1, jl_vi l1)]) dX11_hours_58 rfl (Nat.le_of_ble_eq_true rfl) rfl ?_
      refine jr_goto (t := 46) dX11_hours_61 (by decide) ?_
      refine jr_sub [2, 3, 1, 0] rfl ?_
      exact ih l1 x14 (jl_add l3 1) hl1 hx14 (jl_n3_to _) s13
def jf_X11_hours (v1 : Int) (s0 : jl_Mm) : jl_O :=
  jl_bd (jf_X11_hasStreet s0) fun r1 s2 => if r1 = (0 : Int) then (jf_X11_hours_B21 s2) else (jl_bd (jf_X1_comes v1 (1 : Int) (100 : Int) s2) fun r6 s7 => if r6 = (0 : Int) then (jf_X11_hours_B21 s7) else (jl_bd (jf_X3_remember 40 44 s7) fun r9 s10 => jf_X11_hours_L46 jl_fu v1 (0 : Int) (0 : Int) s10))
set_option maxRecDepth 20000 in
set_option maxHeartbeats 2000000 in
theorem jt_X11_hours (G : jl_GC) (v1 : Int) (h1 : jl_n3 v1) (s0 : jl_Mm) : jC2 G jM_X11_hours [jl_vr G 0, jl_vi v1] s0 (jf_X11_hours v1 s0) := by
  refine jl_met (plainFor_of_name rfl) (Nat.le_of_ble_eq_true rfl) ?_
  show j2 G jM_X11_hours 0 [(0, jl_vr G 0), (1, jl_vi v1)] [] s0 _
  refine jr_aload_n dX11_hours_0 0 rfl ?_
  refine j2_callVz (As := []) dX11_hours_1 (jt_X11_hasStreet G s0) jv_X11_hasStreet ⟨rfl, rfl, rfl⟩ jw_993 jk_0 (by decide) (by decide) rfl ⟨Nat.le_of_ble_eq_true rfl, Nat.le_of_ble_eq_true rfl⟩ rfl (Nat.le_of_ble_eq_true rfl) (fun r1 s2 hr1 => ?_)
  refine jr_if_eq (t := 21) dX11_hours_4 (by decide) (jl_nz hr1) (fun c3 => ?_) (fun c3 => ?_)
  · refine jr_sub [0] rfl ?_
    exact jj_X11_hours_B21 G s2
  · refine jr_aload_n dX11_hours_7 0 rfl ?_
    refine jr_getk (i := 10) jc_11 jk_0 (by decide) (Nat.le_of_ble_eq_true rfl) jlk_0_10 jw_434 dX11_hours_8 ?_
    refine jr_iload_n dX11_hours_11 1 rfl ?_
    refine jr_iconst dX11_hours_12 ?_
    refine jr_bipush dX11_hours_13 (by decide) ?_
    refine j2_callVz (As := [jl_vi v1, jl_vi (1 : Int), jl_vi (100 : Int)]) dX11_hours_15 (jt_X1_comes G v1 (1 : Int) (100 : Int) h1 (jl_nlit rfl) (jl_nlit rfl) s2) jv_X1_comes ⟨rfl, rfl, rfl⟩ jw_866 jk_195 (by decide) (by decide) rfl ⟨Nat.le_of_ble_eq_true rfl, Nat.le_of_ble_eq_true rfl⟩ rfl (Nat.le_of_ble_eq_true rfl) (fun r6 s7 hr6 => ?_)
    refine jr_if_ne (t := 27) dX11_hours_18 (by decide) (jl_nz hr6) (fun c8 => ?_) (fun c8 => ?_)
    · refine jr_sub [0] rfl ?_
      exact jj_X11_hours_B21 G s7
    · refine jr_aload_n dX11_hours_27 0 rfl ?_
      refine jr_getk (i := 8) jc_11 jk_0 (by decide) (Nat.le_of_ble_eq_true rfl) jlk_0_8 jw_432 dX11_hours_28 ?_
      refine jr_aload_n dX11_hours_31 0 rfl ?_
      refine jr_getk (i := 6) jc_11 jk_0 (by decide) (Nat.le_of_ble_eq_true rfl) jlk_0_6 jw_430 dX11_hours_32 ?_
      refine jr_aload_n dX11_hours_35 0 rfl ?_
      refine jr_getk (i := 7) jc_11 jk_0 (by decide) (Nat.le_of_ble_eq_true rfl) jlk_0_7 jw_431 dX11_hours_36 ?_
      refine j2_callVv (As := [jl_vr G 40, jl_vr G 44]) dX11_hours_39 (jt_X3_remember G 40 44 s7) jv_X3_remember ⟨rfl, rfl, rfl⟩ jw_1074 jk_47 (by decide) (by decide) rfl ⟨Nat.le_of_ble_eq_true rfl, Nat.le_of_ble_eq_true rfl⟩ rfl (Nat.le_of_ble_eq_true rfl) (fun r9 s10 hr9 => ?_)
      refine jr_iconst dX11_hours_42 ?_
      refine jr_istore_n (lv := [(2, jl_vi (0 : Int)), (0, jl_vr G 0), (1, jl_vi v1)]) dX11_hours_43 rfl (Nat.le_of_ble_eq_true rfl) rfl ?_
      refine jr_iconst dX11_hours_44 ?_
      refine jr_istore_n (lv := [(3, jl_vi (0 : Int)), (2, jl_vi (0 : Int)), (0, jl_vr G 0), (1, jl_vi v1)]) dX11_hours_45 rfl (Nat.le_of_ble_eq_true rfl) rfl ?_
      refine jr_sub [2, 3, 1, 0] rfl ?_
      exact jj_X11_hours_L46 G jl_fu v1 (0 : Int) (0 : Int) h1 (jl_nlit rfl) (jl_nlit rfl) s10
def jf_X11_draw_B39 (k0 : Int) (s0 : jl_Mm) : jl_O :=
  some (k0, s0)
set_option maxRecDepth 20000 in
set_option maxHeartbeats 2000000 in
theorem jj_X11_draw_B39 (G : jl_GC) (k0 : Int) (hk0 : jl_n3 k0) (s0 : jl_Mm) : j2 G jM_X11_draw 39 [] [jl_vi k0] s0 (jf_X11_draw_B39 k0 s0) := by
  exact jr_ret_i rfl hk0 dX11_draw_39
def jf_X11_draw (v1 : Int) (s0 : jl_Mm) : jl_O :=
  jl_lm (jl_up s0 0 17 (jl_l2i (jl_land (jl_ladd (jl_lmul (1103515245 : Int) (jl_g s0 0 17)) (12345 : Int)) (2147483647 : Int)))) fun s1 => if v1 ≤ (0 : Int) then (jf_X11_draw_B39 (0 : Int) s1) else (if ¬ v1 = 0 then jf_X11_draw_B39 (jl_rem (jl_div (jl_g s1 0 17) (64 : Int)) v1) s1 else none)
set_option maxRecDepth 20000 in
set_option maxHeartbeats 2000000 in
theorem jt_X11_draw (G : jl_GC) (v1 : Int) (h1 : jl_n3 v1) (s0 : jl_Mm) : jC2 G jM_X11_draw [jl_vr G 0, jl_vi v1] s0 (jf_X11_draw v1 s0) := by
  refine jl_met (plainFor_of_name rfl) (Nat.le_of_ble_eq_true rfl) ?_
  show j2 G jM_X11_draw 0 [(0, jl_vr G 0), (1, jl_vi v1)] [] s0 _
  refine jr_aload_n dX11_draw_0 0 rfl ?_
  refine jr_ldc2_w (v := 1103515245) dX11_draw_1 jw_1124 (by decide) ?_
  refine jr_aload_n dX11_draw_4 0 rfl ?_
  refine jr_geti (i := 17) jc_11 jk_0 (by decide) (Nat.le_of_ble_eq_true rfl) jlk_0_17 jft_11_17 jw_441 dX11_draw_5 ?_
  refine jr_i2l dX11_draw_8 (jl_n3_to _) ?_
  refine jr_lmul dX11_draw_9 ?_
  refine jr_ldc2_w (v := 12345) dX11_draw_10 jw_1125 (by decide) ?_
  refine jr_ladd dX11_draw_13 ?_
  refine jr_ldc2_w (v := 2147483647) dX11_draw_14 jw_1126 (by decide) ?_
  refine jr_land dX11_draw_17 ?_
  refine jr_l2i dX11_draw_18 ?_
  refine jr_puti (i := 17) jc_11 jk_0 (by decide) (Nat.le_of_ble_eq_true rfl) jlk_0_17 jft_11_17 rfl jw_441 rfl dX11_draw_19 ?_
  refine jr_lm (fun s1 => ?_)
  refine jr_iload_n dX11_draw_22 1 rfl ?_
  refine jr_if_le (t := 38) dX11_draw_23 (by decide) h1 (fun c2 => ?_) (fun c2 => ?_)
  · refine jr_iconst dX11_draw_38 ?_
    refine jr_sub [] rfl ?_
    exact jj_X11_draw_B39 G (0 : Int) (jl_nlit rfl) s1
  · refine jr_aload_n dX11_draw_26 0 rfl ?_
    refine jr_geti (i := 17) jc_11 jk_0 (by decide) (Nat.le_of_ble_eq_true rfl) jlk_0_17 jft_11_17 jw_441 dX11_draw_27 ?_
    refine jr_bipush dX11_draw_30 (by decide) ?_
    refine jr_idiv dX11_draw_32 (jl_nlit rfl) (by decide) ?_
    refine jr_iload_n dX11_draw_33 1 rfl ?_
    refine jr_grd (fun g3 => ?_)
    refine jr_irem dX11_draw_34 h1 g3 ?_
    refine jr_goto (t := 39) dX11_draw_35 (by decide) ?_
    refine jr_sub [] rfl ?_
    exact jj_X11_draw_B39 G (jl_rem (jl_div (jl_g s1 0 17) (64 : Int)) v1) (jl_n3_to _) s1
def jf_X11_chance_B21 (s0 : jl_Mm) : jl_O :=
  jl_bd (jf_X11_refuse (3 : Int) s0) fun r4 s5 => some (r4, s5)
set_option maxRecDepth 20000 in
set_option maxHeartbeats 2000000 in
theorem jj_X11_chance_B21 (G : jl_GC) (s0 : jl_Mm) : j2 G jM_X11_chance 21 [(0, jl_vr G 0)] [] s0 (jf_X11_chance_B21 s0) := by
  refine jr_aload_n dX11_chance_21 0 rfl ?_
  refine jr_iconst dX11_chance_22 ?_
  refine j2_callVi (As := [jl_vi (3 : Int)]) dX11_chance_23 (jt_X11_refuse G (3 : Int) (jl_nlit rfl) s0) jv_X11_refuse ⟨rfl, rfl, rfl⟩ jw_483 jk_0 (by decide) (by decide) rfl ⟨Nat.le_of_ble_eq_true rfl, Nat.le_of_ble_eq_true rfl⟩ rfl (Nat.le_of_ble_eq_true rfl) (fun r4 s5 hr4 => ?_)
  exact jr_ret_i rfl hr4 dX11_chance_26
def jf_X11_chance_B106 (R46 : Int → Int → Int → jl_Mm → jl_O) (l1 : Int) (l2 : Int) (l3 : Int) (s0 : jl_Mm) : jl_O :=
  jl_bd (jf_X11_passNow s0) fun r16 s17 => R46 l1 l2 (jl_add l3 1) s17
set_option maxRecDepth 20000 in
set_option maxHeartbeats 2000000 in
theorem jj_X11_chance_B106 (G : jl_GC) (R46 : Int → Int → Int → jl_Mm → jl_O) (hR46 : ∀ (l1 : Int) (l2 : Int) (l3 : Int) (_hl1 : jl_n3 l1) (_hl2 : jl_n3 l2) (_hl3 : jl_n3 l3) (s0 : jl_Mm), j2 G jM_X11_chance 46 [(0, jl_vr G 0), (1, jl_vi l1), (2, jl_vi l2), (3, jl_vi l3)] [] s0 (R46 l1 l2 l3 s0)) (l1 : Int) (l2 : Int) (l3 : Int) (hl1 : jl_n3 l1) (hl2 : jl_n3 l2) (hl3 : jl_n3 l3) (s0 : jl_Mm) : j2 G jM_X11_chance 106 [(0, jl_vr G 0), (1, jl_vi l1), (2, jl_vi l2), (3, jl_vi l3)] [] s0 (jf_X11_chance_B106 R46 l1 l2 l3 s0) := by
  refine jr_aload_n dX11_chance_106 0 rfl ?_
  refine j2_callVi (As := []) dX11_chance_107 (jt_X11_passNow G s0) jv_X11_passNow ⟨rfl, rfl, rfl⟩ jw_1104 jk_0 (by decide) (by decide) rfl ⟨Nat.le_of_ble_eq_true rfl, Nat.le_of_ble_eq_true rfl⟩ rfl (Nat.le_of_ble_eq_true rfl) (fun r16 s17 hr16 => ?_)
  refine jr_pop dX11_chance_110 rfl ?_
  refine jr_iinc (j := 3) (lv := [(3, jl_vi (jl_add l3 1)), (0, jl_vr G 0), (1, jl_vi l1), (2, jl_vi l2)]) dX11_chance_111 rfl (Nat.le_of_ble_eq_true rfl) rfl ?_
  refine jr_goto (t := 46) dX11_chance_114 (by decide) ?_
  refine jr_sub [1, 2, 3, 0] rfl ?_
  exact hR46 l1 l2 (jl_add l3 1) hl1 hl2 (jl_n3_to _) s17
def jf_X11_chance_L46 : Nat → Int → Int → Int → jl_Mm → jl_O
  | 0, _, _, _, _ => none
  | n + 1, l1, l2, l3, s0 =>
    if l1 ≤ l3 then (some (l2, s0)) else (jl_bd (jf_X11_draw (100 : Int) s0) fun r12 s13 => if 0 ≤ s13 0 2 ∧ (jl_kd (jl_gr s13 0 2)).1 = 8 then if jl_g s13 (jl_gr s13 0 2) 6 ≤ r12 then (jf_X11_chance_B106 (jf_X11_chance_L46 n) l1 l2 l3 s13) else (if 0 ≤ s13 0 2 ∧ (jl_kd (jl_gr s13 0 2)).1 = 8 then jl_bd (jf_X11_draw (jl_g s13 (jl_gr s13 0 2) 1) s13) fun r19 s20 => jl_bd (jf_X5_blow 40 r19 s20) fun r21 s22 => jl_bd (jf_X2_addAll 44 (jl_g s13 40 0) r21 s22) fun r23 s24 => jf_X11_chance_B106 (jf_X11_chance_L46 n) l1 (jl_add l2 1) l3 s24 else none) else none)
set_option maxRecDepth 20000 in
set_option maxHeartbeats 2000000 in
theorem jj_X11_chance_L46 (G : jl_GC) : ∀ (n : Nat) (l1 : Int) (l2 : Int) (l3 : Int) (hl1 : jl_n3 l1) (hl2 : jl_n3 l2) (hl3 : jl_n3 l3) (s0 : jl_Mm), j2 G jM_X11_chance 46 [(0, jl_vr G 0), (1, jl_vi l1), (2, jl_vi l2), (3, jl_vi l3)] [] s0 (jf_X11_chance_L46 n l1 l2 l3 s0) := by
  intro n
  induction n with
  | zero =>
    intros
    exact jr_none
  | succ n ih =>
    intro l1 l2 l3 hl1 hl2 hl3 s0
    refine jr_iload_n dX11_chance_46 3 rfl ?_
    refine jr_iload_n dX11_chance_47 1 rfl ?_
    refine jr_icmp_ge (t := 117) dX11_chance_48 (by decide) hl3 hl1 (fun c11 => ?_) (fun c11 => ?_)
    · refine jr_iload_n dX11_chance_117 2 rfl ?_
      exact jr_ret_i rfl hl2 dX11_chance_118
    · refine jr_aload_n dX11_chance_51 0 rfl ?_
      refine jr_bipush dX11_chance_52 (by decide) ?_
      refine j2_callVi (As := [jl_vi (100 : Int)]) dX11_chance_54 (jt_X11_draw G (100 : Int) (jl_nlit rfl) s0) jv_X11_draw ⟨rfl, rfl, rfl⟩ jw_1120 jk_0 (by decide) (by decide) rfl ⟨Nat.le_of_ble_eq_true rfl, Nat.le_of_ble_eq_true rfl⟩ rfl (Nat.le_of_ble_eq_true rfl) (fun r12 s13 hr12 => ?_)
      refine jr_aload_n dX11_chance_57 0 rfl ?_
      refine jr_grd (fun g14 => ?_)
      refine jr_getr (i := 2) jc_11 jk_0 (by decide) (Nat.le_of_ble_eq_true rfl) jlk_0_2 jft_11_2 g14.1 jw_426 dX11_chance_58 ?_
      refine jr_getiN (i := 6) jc_8 (jl_kd1 g14.2) (jl_kdlt g14.2 (by decide)) (Nat.le_of_ble_eq_true rfl) (js8n_6 g14.2) jft_8_6 jw_115 dX11_chance_61 ?_
      refine jr_icmp_ge (t := 106) dX11_chance_64 (by decide) hr12 (jl_n3_to _) (fun c15 => ?_) (fun c15 => ?_)
      · exact jj_X11_chance_B106 G (jf_X11_chance_L46 n) (ih) l1 l2 l3 hl1 hl2 hl3 s13
      · refine jr_iinc (j := 2) (lv := [(2, jl_vi (jl_add l2 1)), (0, jl_vr G 0), (1, jl_vi l1), (3, jl_vi l3)]) dX11_chance_67 rfl (Nat.le_of_ble_eq_true rfl) rfl ?_
        refine jr_aload_n dX11_chance_70 1 rfl ?_
        refine jr_getk (i := 7) jc_11 jk_0 (by decide) (Nat.le_of_ble_eq_true rfl) jlk_0_7 jw_431 dX11_chance_71 ?_
        refine jr_aload_n dX11_chance_74 1 rfl ?_
        refine jr_getk (i := 6) jc_11 jk_0 (by decide) (Nat.le_of_ble_eq_true rfl) jlk_0_6 jw_430 dX11_chance_75 ?_
        refine jr_getiN (i := 0) jc_7 jk_40 (by decide) (Nat.le_of_ble_eq_true rfl) jlk_40_0 jft_7_0 jw_239 dX11_chance_78 ?_
        refine jr_aload_n dX11_chance_81 1 rfl ?_
        refine jr_getk (i := 9) jc_11 jk_0 (by decide) (Nat.le_of_ble_eq_true rfl) jlk_0_9 jw_433 dX11_chance_82 ?_
        refine jr_aload_n dX11_chance_85 1 rfl ?_
        refine jr_getk (i := 6) jc_11 jk_0 (by decide) (Nat.le_of_ble_eq_true rfl) jlk_0_6 jw_430 dX11_chance_86 ?_
        refine jr_aload_n dX11_chance_89 1 rfl ?_
        refine jr_aload_n dX11_chance_90 1 rfl ?_
        refine jr_grd (fun g18 => ?_)
        refine jr_getr (i := 2) jc_11 jk_0 (by decide) (Nat.le_of_ble_eq_true rfl) jlk_0_2 jft_11_2 g18.1 jw_426 dX11_chance_91 ?_
        refine jr_getiN (i := 1) jc_8 (jl_kd1 g18.2) (jl_kdlt g18.2 (by decide)) (Nat.le_of_ble_eq_true rfl) (js8n_1 g18.2) jft_8_1 jw_91 dX11_chance_94 ?_
        refine j2_callVi (As := [jl_vi (jl_g s13 (jl_gr s13 0 2) 1)]) dX11_chance_97 (jt_X11_draw G (jl_g s13 (jl_gr s13 0 2) 1) (jl_n3_to _) s13) jv_X11_draw ⟨rfl, rfl, rfl⟩ jw_1120 jk_0 (by decide) (by decide) rfl ⟨Nat.le_of_ble_eq_true rfl, Nat.le_of_ble_eq_true rfl⟩ rfl (Nat.le_of_ble_eq_true rfl) (fun r19 s20 hr19 => ?_)
        refine j2_callVi (As := [jl_vr G 40, jl_vi r19]) dX11_chance_100 (jt_X5_blow G 40 r19 hr19 s20) jv_X5_blow ⟨rfl, rfl, rfl⟩ jw_1127 jk_190 (by decide) (by decide) rfl ⟨Nat.le_of_ble_eq_true rfl, Nat.le_of_ble_eq_true rfl⟩ rfl (Nat.le_of_ble_eq_true rfl) (fun r21 s22 hr21 => ?_)
        refine j2_callVv (As := [jl_vi (jl_g s13 40 0), jl_vi r21]) dX11_chance_103 (jt_X2_addAll G 44 (jl_g s13 40 0) r21 (jl_n3_to _) hr21 s22) jv_X2_addAll ⟨rfl, rfl, rfl⟩ jw_1108 jk_44 (by decide) (by decide) rfl ⟨Nat.le_of_ble_eq_true rfl, Nat.le_of_ble_eq_true rfl⟩ rfl (Nat.le_of_ble_eq_true rfl) (fun r23 s24 hr23 => ?_)
        refine jr_sub [1, 2, 0, 3] rfl ?_
        exact jj_X11_chance_B106 G (jf_X11_chance_L46 n) (ih) l1 (jl_add l2 1) l3 hl1 (jl_n3_to _) hl3 s24
def jf_X11_chance (v1 : Int) (s0 : jl_Mm) : jl_O :=
  jl_bd (jf_X11_hasStreet s0) fun r1 s2 => if r1 = (0 : Int) then (jf_X11_chance_B21 s2) else (jl_bd (jf_X1_comes v1 (1 : Int) (100 : Int) s2) fun r6 s7 => if r6 = (0 : Int) then (jf_X11_chance_B21 s7) else (jl_bd (jf_X3_remember 40 44 s7) fun r9 s10 => jf_X11_chance_L46 jl_fu v1 (0 : Int) (0 : Int) s10))
set_option maxRecDepth 20000 in
set_option maxHeartbeats 2000000 in
theorem jt_X11_chance (G : jl_GC) (v1 : Int) (h1 : jl_n3 v1) (s0 : jl_Mm) : jC2 G jM_X11_chance [jl_vr G 0, jl_vi v1] s0 (jf_X11_chance v1 s0) := by
  refine jl_met (plainFor_of_name rfl) (Nat.le_of_ble_eq_true rfl) ?_
  show j2 G jM_X11_chance 0 [(0, jl_vr G 0), (1, jl_vi v1)] [] s0 _
  refine jr_aload_n dX11_chance_0 0 rfl ?_
  refine j2_callVz (As := []) dX11_chance_1 (jt_X11_hasStreet G s0) jv_X11_hasStreet ⟨rfl, rfl, rfl⟩ jw_993 jk_0 (by decide) (by decide) rfl ⟨Nat.le_of_ble_eq_true rfl, Nat.le_of_ble_eq_true rfl⟩ rfl (Nat.le_of_ble_eq_true rfl) (fun r1 s2 hr1 => ?_)
  refine jr_if_eq (t := 21) dX11_chance_4 (by decide) (jl_nz hr1) (fun c3 => ?_) (fun c3 => ?_)
  · refine jr_sub [0] rfl ?_
    exact jj_X11_chance_B21 G s2
  · refine jr_aload_n dX11_chance_7 0 rfl ?_
    refine jr_getk (i := 10) jc_11 jk_0 (by decide) (Nat.le_of_ble_eq_true rfl) jlk_0_10 jw_434 dX11_chance_8 ?_
    refine jr_iload_n dX11_chance_11 1 rfl ?_
    refine jr_iconst dX11_chance_12 ?_
    refine jr_bipush dX11_chance_13 (by decide) ?_
    refine j2_callVz (As := [jl_vi v1, jl_vi (1 : Int), jl_vi (100 : Int)]) dX11_chance_15 (jt_X1_comes G v1 (1 : Int) (100 : Int) h1 (jl_nlit rfl) (jl_nlit rfl) s2) jv_X1_comes ⟨rfl, rfl, rfl⟩ jw_866 jk_195 (by decide) (by decide) rfl ⟨Nat.le_of_ble_eq_true rfl, Nat.le_of_ble_eq_true rfl⟩ rfl (Nat.le_of_ble_eq_true rfl) (fun r6 s7 hr6 => ?_)
    refine jr_if_ne (t := 27) dX11_chance_18 (by decide) (jl_nz hr6) (fun c8 => ?_) (fun c8 => ?_)
    · refine jr_sub [0] rfl ?_
      exact jj_X11_chance_B21 G s7
    · refine jr_aload_n dX11_chance_27 0 rfl ?_
      refine jr_getk (i := 8) jc_11 jk_0 (by decide) (Nat.le_of_ble_eq_true rfl) jlk_0_8 jw_432 dX11_chance_28 ?_
      refine jr_aload_n dX11_chance_31 0 rfl ?_
      refine jr_getk (i := 6) jc_11 jk_0 (by decide) (Nat.le_of_ble_eq_true rfl) jlk_0_6 jw_430 dX11_chance_32 ?_
      refine jr_aload_n dX11_chance_35 0 rfl ?_
      refine jr_getk (i := 7) jc_11 jk_0 (by decide) (Nat.le_of_ble_eq_true rfl) jlk_0_7 jw_431 dX11_chance_36 ?_
      refine j2_callVv (As := [jl_vr G 40, jl_vr G 44]) dX11_chance_39 (jt_X3_remember G 40 44 s7) jv_X3_remember ⟨rfl, rfl, rfl⟩ jw_1074 jk_47 (by decide) (by decide) rfl ⟨Nat.le_of_ble_eq_true rfl, Nat.le_of_ble_eq_true rfl⟩ rfl (Nat.le_of_ble_eq_true rfl) (fun r9 s10 hr9 => ?_)
      refine jr_iconst dX11_chance_42 ?_
      refine jr_istore_n (lv := [(2, jl_vi (0 : Int)), (0, jl_vr G 0), (1, jl_vi v1)]) dX11_chance_43 rfl (Nat.le_of_ble_eq_true rfl) rfl ?_
      refine jr_iconst dX11_chance_44 ?_
      refine jr_istore_n (lv := [(3, jl_vi (0 : Int)), (2, jl_vi (0 : Int)), (0, jl_vr G 0), (1, jl_vi v1)]) dX11_chance_45 rfl (Nat.le_of_ble_eq_true rfl) rfl ?_
      refine jr_sub [2, 3, 1, 0] rfl ?_
      exact jj_X11_chance_L46 G jl_fu v1 (0 : Int) (0 : Int) h1 (jl_nlit rfl) (jl_nlit rfl) s10
def jf_X3_recall (q1 : Nat) (q2 : Nat) (s0 : jl_Mm) : jl_O :=
  if (jl_kd q1).1 = 7 then if (jl_kd q2).1 = 2 then if jl_g s0 47 3 = (0 : Int) then (jl_zb (0 : Int) s0) else (jl_lm (jl_up s0 47 3 (jl_sub (jl_g s0 47 3) (1 : Int))) fun s2 => jl_lm (jl_up s2 47 2 (jl_rem (jl_sub (jl_add (jl_g s2 47 2) (20 : Int)) (1 : Int)) (20 : Int))) fun s3 => if 0 ≤ jl_g s3 47 2 ∧ jl_g s3 47 2 < ((20 : Nat) : Int) then jl_bd (jf_X7_copyFrom q1 (50 + 7 * (jl_g s3 47 2).toNat) s3) fun r5 s6 => if 0 ≤ jl_g s6 47 2 ∧ jl_g s6 47 2 < ((20 : Nat) : Int) then jl_bd (jf_X2_copyFrom q2 (54 + 7 * (jl_g s6 47 2).toNat) s6) fun r8 s9 => jl_zb (1 : Int) s9 else none else none) else none else none
set_option maxRecDepth 20000 in
set_option maxHeartbeats 2000000 in
theorem jt_X3_recall (G : jl_GC) (q1 : Nat) (q2 : Nat) (s0 : jl_Mm) : jC2 G jM_X3_recall [jl_vr G 47, jl_vr G q1, jl_vr G q2] s0 (jf_X3_recall q1 q2 s0) := by
  refine jl_met (plainFor_of_name rfl) (Nat.le_of_ble_eq_true rfl) ?_
  show j2 G jM_X3_recall 0 [(0, jl_vr G 47), (1, jl_vr G q1), (2, jl_vr G q2)] [] s0 _
  refine jr_grd (fun gp1 => ?_)
  refine jr_grd (fun gp2 => ?_)
  refine jr_aload_n dX3_recall_0 0 rfl ?_
  refine jr_geti (i := 3) jc_3 jk_47 (by decide) (Nat.le_of_ble_eq_true rfl) jlk_47_3 jft_3_3 jw_302 dX3_recall_1 ?_
  refine jr_if_ne (t := 9) dX3_recall_4 (by decide) (jl_n3_to _) (fun c1 => ?_) (fun c1 => ?_)
  · refine jr_iconst dX3_recall_7 ?_
    exact jr_ret_z rfl dX3_recall_8
  · refine jr_aload_n dX3_recall_9 0 rfl ?_
    refine jr_dup dX3_recall_10 rfl ?_
    refine jr_geti (i := 3) jc_3 jk_47 (by decide) (Nat.le_of_ble_eq_true rfl) jlk_47_3 jft_3_3 jw_302 dX3_recall_11 ?_
    refine jr_iconst dX3_recall_14 ?_
    refine jr_isub dX3_recall_15 ?_
    refine jr_puti (i := 3) jc_3 jk_47 (by decide) (Nat.le_of_ble_eq_true rfl) jlk_47_3 jft_3_3 rfl jw_302 rfl dX3_recall_16 ?_
    refine jr_lm (fun s2 => ?_)
    refine jr_aload_n dX3_recall_19 0 rfl ?_
    refine jr_aload_n dX3_recall_20 0 rfl ?_
    refine jr_geti (i := 2) jc_3 jk_47 (by decide) (Nat.le_of_ble_eq_true rfl) jlk_47_2 jft_3_2 jw_301 dX3_recall_21 ?_
    refine jr_bipush dX3_recall_24 (by decide) ?_
    refine jr_iadd dX3_recall_26 ?_
    refine jr_iconst dX3_recall_27 ?_
    refine jr_isub dX3_recall_28 ?_
    refine jr_bipush dX3_recall_29 (by decide) ?_
    refine jr_irem dX3_recall_31 (jl_nlit rfl) (by decide) ?_
    refine jr_puti (i := 2) jc_3 jk_47 (by decide) (Nat.le_of_ble_eq_true rfl) jlk_47_2 jft_3_2 rfl jw_301 rfl dX3_recall_32 ?_
    refine jr_lm (fun s3 => ?_)
    refine jr_aload_n dX3_recall_35 1 rfl ?_
    refine jr_aload_n dX3_recall_36 0 rfl ?_
    refine jr_getk (i := 0) jc_3 jk_47 (by decide) (Nat.le_of_ble_eq_true rfl) jlk_47_0 jw_299 dX3_recall_37 ?_
    refine jr_aload_n dX3_recall_40 0 rfl ?_
    refine jr_geti (i := 2) jc_3 jk_47 (by decide) (Nat.le_of_ble_eq_true rfl) jlk_47_2 jft_3_2 jw_301 dX3_recall_41 ?_
    refine jr_grd (fun g4 => ?_)
    refine jr_aaload jk_48 (Or.inl ⟨rfl, rfl⟩) (by decide) (jl_n3_to _) g4 (ja48 g4) dX3_recall_44 ?_
    refine j2_callVv (As := [jl_vr G (50 + 7 * (jl_g s3 47 2).toNat)]) dX3_recall_45 (jt_X7_copyFrom G q1 (50 + 7 * (jl_g s3 47 2).toNat) s3) jv_X7_copyFrom ⟨rfl, rfl, rfl⟩ jw_1078 (jl_kd1 gp1) (by decide) (jl_kdlt gp1 (by decide)) rfl ⟨Nat.le_of_ble_eq_true rfl, Nat.le_of_ble_eq_true rfl⟩ rfl (Nat.le_of_ble_eq_true rfl) (fun r5 s6 hr5 => ?_)
    refine jr_aload_n dX3_recall_48 2 rfl ?_
    refine jr_aload_n dX3_recall_49 0 rfl ?_
    refine jr_getk (i := 1) jc_3 jk_47 (by decide) (Nat.le_of_ble_eq_true rfl) jlk_47_1 jw_300 dX3_recall_50 ?_
    refine jr_aload_n dX3_recall_53 0 rfl ?_
    refine jr_geti (i := 2) jc_3 jk_47 (by decide) (Nat.le_of_ble_eq_true rfl) jlk_47_2 jft_3_2 jw_301 dX3_recall_54 ?_
    refine jr_grd (fun g7 => ?_)
    refine jr_aaload jk_49 (Or.inr ⟨rfl, rfl⟩) (by decide) (jl_n3_to _) g7 (ja49 g7) dX3_recall_57 ?_
    refine j2_callVv (As := [jl_vr G (54 + 7 * (jl_g s6 47 2).toNat)]) dX3_recall_58 (jt_X2_copyFrom G q2 (54 + 7 * (jl_g s6 47 2).toNat) s6) jv_X2_copyFrom ⟨rfl, rfl, rfl⟩ jw_1079 (jl_kd1 gp2) (by decide) (jl_kdlt gp2 (by decide)) rfl ⟨Nat.le_of_ble_eq_true rfl, Nat.le_of_ble_eq_true rfl⟩ rfl (Nat.le_of_ble_eq_true rfl) (fun r8 s9 hr8 => ?_)
    refine jr_iconst dX3_recall_61 ?_
    exact jr_ret_z rfl dX3_recall_62
def jf_X11_undo_B31 (k0 : Int) (s0 : jl_Mm) : jl_O :=
  jl_zb k0 s0
set_option maxRecDepth 20000 in
set_option maxHeartbeats 2000000 in
theorem jj_X11_undo_B31 (G : jl_GC) (k0 : Int) (hk0 : jl_n3 k0) (s0 : jl_Mm) : j2 G jM_X11_undo 31 [] [jl_vi k0] s0 (jf_X11_undo_B31 k0 s0) := by
  exact jr_ret_z rfl dX11_undo_31
def jf_X11_undo_B26 (s0 : jl_Mm) : jl_O :=
  jf_X11_undo_B31 (1 : Int) s0
set_option maxRecDepth 20000 in
set_option maxHeartbeats 2000000 in
theorem jj_X11_undo_B26 (G : jl_GC) (s0 : jl_Mm) : j2 G jM_X11_undo 26 [] [] s0 (jf_X11_undo_B26 s0) := by
  refine jr_iconst dX11_undo_26 ?_
  refine jr_goto (t := 31) dX11_undo_27 (by decide) ?_
  exact jj_X11_undo_B31 G (1 : Int) (jl_nlit rfl) s0
def jf_X11_undo (s0 : jl_Mm) : jl_O :=
  jl_bd (jf_X3_recall 40 44 s0) fun r1 s2 => if r1 = (0 : Int) then (jl_bd (jf_X11_deny (4 : Int) s2) fun r4 s5 => if r4 = (0 : Int) then (jf_X11_undo_B31 (0 : Int) s5) else (jf_X11_undo_B26 s5)) else (jf_X11_undo_B26 s2)
set_option maxRecDepth 20000 in
set_option maxHeartbeats 2000000 in
theorem jt_X11_undo (G : jl_GC) (s0 : jl_Mm) : jC2 G jM_X11_undo [jl_vr G 0] s0 (jf_X11_undo s0) := by
  refine jl_met (plainFor_of_name rfl) (Nat.le_of_ble_eq_true rfl) ?_
  show j2 G jM_X11_undo 0 [(0, jl_vr G 0)] [] s0 _
  refine jr_aload_n dX11_undo_0 0 rfl ?_
  refine jr_getk (i := 8) jc_11 jk_0 (by decide) (Nat.le_of_ble_eq_true rfl) jlk_0_8 jw_432 dX11_undo_1 ?_
  refine jr_aload_n dX11_undo_4 0 rfl ?_
  refine jr_getk (i := 6) jc_11 jk_0 (by decide) (Nat.le_of_ble_eq_true rfl) jlk_0_6 jw_430 dX11_undo_5 ?_
  refine jr_aload_n dX11_undo_8 0 rfl ?_
  refine jr_getk (i := 7) jc_11 jk_0 (by decide) (Nat.le_of_ble_eq_true rfl) jlk_0_7 jw_431 dX11_undo_9 ?_
  refine j2_callVz (As := [jl_vr G 40, jl_vr G 44]) dX11_undo_12 (jt_X3_recall G 40 44 s0) jv_X3_recall ⟨rfl, rfl, rfl⟩ jw_1132 jk_47 (by decide) (by decide) rfl ⟨Nat.le_of_ble_eq_true rfl, Nat.le_of_ble_eq_true rfl⟩ rfl (Nat.le_of_ble_eq_true rfl) (fun r1 s2 hr1 => ?_)
  refine jr_if_ne (t := 26) dX11_undo_15 (by decide) (jl_nz hr1) (fun c3 => ?_) (fun c3 => ?_)
  · refine jr_aload_n dX11_undo_18 0 rfl ?_
    refine jr_iconst dX11_undo_19 ?_
    refine j2_callVz (As := [jl_vi (4 : Int)]) dX11_undo_20 (jt_X11_deny G (4 : Int) (jl_nlit rfl) s2) jv_X11_deny ⟨rfl, rfl, rfl⟩ jw_495 jk_0 (by decide) (by decide) rfl ⟨Nat.le_of_ble_eq_true rfl, Nat.le_of_ble_eq_true rfl⟩ rfl (Nat.le_of_ble_eq_true rfl) (fun r4 s5 hr4 => ?_)
    refine jr_if_eq (t := 30) dX11_undo_23 (by decide) (jl_nz hr4) (fun c6 => ?_) (fun c6 => ?_)
    · refine jr_iconst dX11_undo_30 ?_
      refine jr_sub [] rfl ?_
      exact jj_X11_undo_B31 G (0 : Int) (jl_nlit rfl) s5
    · refine jr_sub [] rfl ?_
      exact jj_X11_undo_B26 G s5
  · refine jr_sub [] rfl ?_
    exact jj_X11_undo_B26 G s2
def jf_X11_seed (v1 : Int) (s0 : jl_Mm) : jl_O :=
  if (0 : Int) ≤ v1 then (jl_lm (jl_up s0 0 17 v1) fun s2 => jl_zb (1 : Int) s2) else (jl_bd (jf_X11_deny (5 : Int) s0) fun r3 s4 => jl_zb r3 s4)
set_option maxRecDepth 20000 in
set_option maxHeartbeats 2000000 in
theorem jt_X11_seed (G : jl_GC) (v1 : Int) (h1 : jl_n3 v1) (s0 : jl_Mm) : jC2 G jM_X11_seed [jl_vr G 0, jl_vi v1] s0 (jf_X11_seed v1 s0) := by
  refine jl_met (plainFor_of_name rfl) (Nat.le_of_ble_eq_true rfl) ?_
  show j2 G jM_X11_seed 0 [(0, jl_vr G 0), (1, jl_vi v1)] [] s0 _
  refine jr_iload_n dX11_seed_0 1 rfl ?_
  refine jr_if_ge (t := 10) dX11_seed_1 (by decide) h1 (fun c1 => ?_) (fun c1 => ?_)
  · refine jr_aload_n dX11_seed_10 0 rfl ?_
    refine jr_iload_n dX11_seed_11 1 rfl ?_
    refine jr_puti (i := 17) jc_11 jk_0 (by decide) (Nat.le_of_ble_eq_true rfl) jlk_0_17 jft_11_17 rfl jw_441 rfl dX11_seed_12 ?_
    refine jr_lm (fun s2 => ?_)
    refine jr_iconst dX11_seed_15 ?_
    exact jr_ret_z rfl dX11_seed_16
  · refine jr_aload_n dX11_seed_4 0 rfl ?_
    refine jr_iconst dX11_seed_5 ?_
    refine j2_callVz (As := [jl_vi (5 : Int)]) dX11_seed_6 (jt_X11_deny G (5 : Int) (jl_nlit rfl) s0) jv_X11_deny ⟨rfl, rfl, rfl⟩ jw_495 jk_0 (by decide) (by decide) rfl ⟨Nat.le_of_ble_eq_true rfl, Nat.le_of_ble_eq_true rfl⟩ rfl (Nat.le_of_ble_eq_true rfl) (fun r3 s4 hr3 => ?_)
    exact jr_ret_z rfl dX11_seed_9
def jf_X4_readQuestion_B76 (l2 : Int) (s0 : jl_Mm) : jl_O :=
  some (l2, s0)
set_option maxRecDepth 20000 in
set_option maxHeartbeats 2000000 in
theorem jj_X4_readQuestion_B76 (G : jl_GC) (l2 : Int) (hl2 : jl_n3 l2) (s0 : jl_Mm) : j2 G jM_X4_readQuestion 76 [(2, jl_vi l2)] [] s0 (jf_X4_readQuestion_B76 l2 s0) := by
  refine jr_iload_n dX4_readQuestion_76 0 rfl ?_
  exact jr_ret_i rfl hl2 dX4_readQuestion_77
def jf_X4_readQuestion_B59 (l2 : Int) (s0 : jl_Mm) : jl_O :=
  jl_bd (jf_X4_peek s0) fun r12 s13 => if r12 = (-1 : Int) then (jf_X4_readQuestion_B76 l2 s13) else (jl_bd (jf_X4_fail (1 : Int) (jl_g s13 38 4) s13) fun r15 s16 => jf_X4_readQuestion_B76 l2 s16)
set_option maxRecDepth 20000 in
set_option maxHeartbeats 2000000 in
theorem jj_X4_readQuestion_B59 (G : jl_GC) (l2 : Int) (hl2 : jl_n3 l2) (s0 : jl_Mm) : j2 G jM_X4_readQuestion 59 [(0, jl_vr G 38), (2, jl_vi l2)] [] s0 (jf_X4_readQuestion_B59 l2 s0) := by
  refine jr_aload_n dX4_readQuestion_59 0 rfl ?_
  refine j2_callVi (As := []) dX4_readQuestion_60 (jt_X4_peek G s0) jv_X4_peek ⟨rfl, rfl, rfl⟩ jw_531 jk_38 (by decide) (by decide) rfl ⟨Nat.le_of_ble_eq_true rfl, Nat.le_of_ble_eq_true rfl⟩ rfl (Nat.le_of_ble_eq_true rfl) (fun r12 s13 hr12 => ?_)
  refine jr_iconst dX4_readQuestion_63 ?_
  refine jr_icmp_eq (t := 76) dX4_readQuestion_64 (by decide) hr12 (jl_nlit rfl) (fun c14 => ?_) (fun c14 => ?_)
  · refine jr_sub [1] rfl ?_
    exact jj_X4_readQuestion_B76 G l2 hl2 s13
  · refine jr_aload_n dX4_readQuestion_67 0 rfl ?_
    refine jr_iconst dX4_readQuestion_68 ?_
    refine jr_aload_n dX4_readQuestion_69 0 rfl ?_
    refine jr_geti (i := 4) jc_4 jk_38 (by decide) (Nat.le_of_ble_eq_true rfl) jlk_38_4 jft_4_4 jw_189 dX4_readQuestion_70 ?_
    refine j2_callVv (As := [jl_vi (1 : Int), jl_vi (jl_g s13 38 4)]) dX4_readQuestion_73 (jt_X4_fail G (1 : Int) (jl_g s13 38 4) (jl_nlit rfl) (jl_n3_to _) s13) jv_X4_fail ⟨rfl, rfl, rfl⟩ jw_618 jk_38 (by decide) (by decide) rfl ⟨Nat.le_of_ble_eq_true rfl, Nat.le_of_ble_eq_true rfl⟩ rfl (Nat.le_of_ble_eq_true rfl) (fun r15 s16 hr15 => ?_)
    refine jr_sub [1] rfl ?_
    exact jj_X4_readQuestion_B76 G l2 hl2 s16
def jf_X4_readQuestion (q1 : Nat) (s0 : jl_Mm) : jl_O :=
  if (jl_kd q1).1 = 0 then jl_bd (jf_X4_start q1 s0) fun r1 s2 => jl_bd (jf_X4_peekWord s2) fun r3 s4 => if (32 : Int) ≤ r3 then (jl_lm (jl_up s4 38 4 (jl_g s4 38 5)) fun s6 => jl_bd (jf_X4_allow (0 : Int) (67076104 : Int) s6) fun r7 s8 => if (34 : Int) < r3 then (jl_bd (jf_X4_grp 60 3 0 s8) fun r10 s11 => jf_X4_readQuestion_B59 r3 s11) else (jl_bd (jf_X4_grp 60 0 0 s8) fun r17 s18 => jf_X4_readQuestion_B59 r3 s18)) else (jl_bd (jf_X4_fail (1 : Int) (jl_g s4 38 4) s4) fun r19 s20 => some (r3, s20)) else none
set_option maxRecDepth 20000 in
set_option maxHeartbeats 2000000 in
theorem jt_X4_readQuestion (G : jl_GC) (q1 : Nat) (s0 : jl_Mm) : jC2 G jM_X4_readQuestion [jl_vr G 38, jl_vr G q1] s0 (jf_X4_readQuestion q1 s0) := by
  refine jl_met (plainFor_of_name rfl) (Nat.le_of_ble_eq_true rfl) ?_
  show j2 G jM_X4_readQuestion 0 [(0, jl_vr G 38), (1, jl_vr G q1)] [] s0 _
  refine jr_grd (fun gp1 => ?_)
  refine jr_aload_n dX4_readQuestion_0 0 rfl ?_
  refine jr_aload_n dX4_readQuestion_1 1 rfl ?_
  refine j2_callVv (As := [jl_vr G q1]) dX4_readQuestion_2 (jt_X4_start G q1 s0) jv_X4_start ⟨rfl, rfl, rfl⟩ jw_1149 jk_38 (by decide) (by decide) rfl ⟨Nat.le_of_ble_eq_true rfl, Nat.le_of_ble_eq_true rfl⟩ rfl (Nat.le_of_ble_eq_true rfl) (fun r1 s2 hr1 => ?_)
  refine jr_aload_n dX4_readQuestion_5 0 rfl ?_
  refine j2_callVi (As := []) dX4_readQuestion_6 (jt_X4_peekWord G s2) jv_X4_peekWord ⟨rfl, rfl, rfl⟩ jw_627 jk_38 (by decide) (by decide) rfl ⟨Nat.le_of_ble_eq_true rfl, Nat.le_of_ble_eq_true rfl⟩ rfl (Nat.le_of_ble_eq_true rfl) (fun r3 s4 hr3 => ?_)
  refine jr_istore_n (lv := [(2, jl_vi r3), (0, jl_vr G 38), (1, jl_vr G q1)]) dX4_readQuestion_9 rfl (Nat.le_of_ble_eq_true rfl) rfl ?_
  refine jr_iload_n dX4_readQuestion_10 0 rfl ?_
  refine jr_bipush dX4_readQuestion_11 (by decide) ?_
  refine jr_icmp_ge (t := 27) dX4_readQuestion_13 (by decide) hr3 (jl_nlit rfl) (fun c5 => ?_) (fun c5 => ?_)
  · refine jr_aload_n dX4_readQuestion_27 1 rfl ?_
    refine jr_aload_n dX4_readQuestion_28 1 rfl ?_
    refine jr_geti (i := 5) jc_4 jk_38 (by decide) (Nat.le_of_ble_eq_true rfl) jlk_38_5 jft_4_5 jw_191 dX4_readQuestion_29 ?_
    refine jr_puti (i := 4) jc_4 jk_38 (by decide) (Nat.le_of_ble_eq_true rfl) jlk_38_4 jft_4_4 rfl jw_189 rfl dX4_readQuestion_32 ?_
    refine jr_lm (fun s6 => ?_)
    refine jr_aload_n dX4_readQuestion_35 1 rfl ?_
    refine jr_iconst dX4_readQuestion_36 ?_
    refine jr_ldc (v := 67076104) dX4_readQuestion_37 jw_1150 (by decide) ?_
    refine j2_callVv (As := [jl_vi (0 : Int), jl_vi (67076104 : Int)]) dX4_readQuestion_39 (jt_X4_allow G (0 : Int) (67076104 : Int) (jl_nlit rfl) (jl_nlit rfl) s6) jv_X4_allow ⟨rfl, rfl, rfl⟩ jw_1151 jk_38 (by decide) (by decide) rfl ⟨Nat.le_of_ble_eq_true rfl, Nat.le_of_ble_eq_true rfl⟩ rfl (Nat.le_of_ble_eq_true rfl) (fun r7 s8 hr7 => ?_)
    refine jr_iload_n dX4_readQuestion_42 0 rfl ?_
    refine jr_bipush dX4_readQuestion_43 (by decide) ?_
    refine jr_icmp_gt (t := 55) dX4_readQuestion_45 (by decide) hr3 (jl_nlit rfl) (fun c9 => ?_) (fun c9 => ?_)
    · refine jr_aload_n dX4_readQuestion_55 1 rfl ?_
      refine j2_callVv (As := []) dX4_readQuestion_56 ((jt_X4_grp G 60).2.2.2.1 s8) (jv_X4_sum 60) ⟨rfl, rfl, rfl⟩ jw_702 jk_38 (by decide) (by decide) rfl ⟨Nat.le_of_ble_eq_true rfl, Nat.le_of_ble_eq_true rfl⟩ rfl (Nat.le_of_ble_eq_true rfl) (fun r10 s11 hr10 => ?_)
      refine jr_sub [1, 0] rfl ?_
      exact jj_X4_readQuestion_B59 G r3 hr3 s11
    · refine jr_aload_n dX4_readQuestion_48 1 rfl ?_
      refine j2_callVv (As := []) dX4_readQuestion_49 ((jt_X4_grp G 60).1 s8) (jv_X4_test 60) ⟨rfl, rfl, rfl⟩ jw_734 jk_38 (by decide) (by decide) rfl ⟨Nat.le_of_ble_eq_true rfl, Nat.le_of_ble_eq_true rfl⟩ rfl (Nat.le_of_ble_eq_true rfl) (fun r17 s18 hr17 => ?_)
      refine jr_goto (t := 59) dX4_readQuestion_52 (by decide) ?_
      refine jr_sub [1, 0] rfl ?_
      exact jj_X4_readQuestion_B59 G r3 hr3 s18
  · refine jr_aload_n dX4_readQuestion_16 1 rfl ?_
    refine jr_iconst dX4_readQuestion_17 ?_
    refine jr_aload_n dX4_readQuestion_18 1 rfl ?_
    refine jr_geti (i := 4) jc_4 jk_38 (by decide) (Nat.le_of_ble_eq_true rfl) jlk_38_4 jft_4_4 jw_189 dX4_readQuestion_19 ?_
    refine j2_callVv (As := [jl_vi (1 : Int), jl_vi (jl_g s4 38 4)]) dX4_readQuestion_22 (jt_X4_fail G (1 : Int) (jl_g s4 38 4) (jl_nlit rfl) (jl_n3_to _) s4) jv_X4_fail ⟨rfl, rfl, rfl⟩ jw_618 jk_38 (by decide) (by decide) rfl ⟨Nat.le_of_ble_eq_true rfl, Nat.le_of_ble_eq_true rfl⟩ rfl (Nat.le_of_ble_eq_true rfl) (fun r19 s20 hr19 => ?_)
    refine jr_iload_n dX4_readQuestion_25 0 rfl ?_
    exact jr_ret_i rfl hr3 dX4_readQuestion_26
def jf_X5_joined_B55 (k0 : Int) (s0 : jl_Mm) : jl_O :=
  some (k0, s0)
set_option maxRecDepth 20000 in
set_option maxHeartbeats 2000000 in
theorem jj_X5_joined_B55 (G : jl_GC) (k0 : Int) (hk0 : jl_n6 k0) (s0 : jl_Mm) : j2 G jM_X5_joined 55 [] [jl_vl k0] s0 (jf_X5_joined_B55 k0 s0) := by
  exact jr_ret_l rfl hk0 dX5_joined_55
def jf_X5_joined_B54 (l1 : Int) (s0 : jl_Mm) : jl_O :=
  jf_X5_joined_B55 l1 s0
set_option maxRecDepth 20000 in
set_option maxHeartbeats 2000000 in
theorem jj_X5_joined_B54 (G : jl_GC) (l1 : Int) (hl1 : jl_n6 l1) (s0 : jl_Mm) : j2 G jM_X5_joined 54 [(1, jl_vl l1)] [] s0 (jf_X5_joined_B54 l1 s0) := by
  refine jr_lload_n dX5_joined_54 0 rfl ?_
  refine jr_sub [] rfl ?_
  exact jj_X5_joined_B55 G l1 hl1 s0
def jf_X5_joined_B67 (k0 : Int) (s0 : jl_Mm) : jl_O :=
  some (k0, s0)
set_option maxRecDepth 20000 in
set_option maxHeartbeats 2000000 in
theorem jj_X5_joined_B67 (G : jl_GC) (k0 : Int) (hk0 : jl_n6 k0) (s0 : jl_Mm) : j2 G jM_X5_joined 67 [] [jl_vl k0] s0 (jf_X5_joined_B67 k0 s0) := by
  exact jr_ret_l rfl hk0 dX5_joined_67
def jf_X5_joined_B93 (k0 : Int) (s0 : jl_Mm) : jl_O :=
  some (k0, s0)
set_option maxRecDepth 20000 in
set_option maxHeartbeats 2000000 in
theorem jj_X5_joined_B93 (G : jl_GC) (k0 : Int) (hk0 : jl_n6 k0) (s0 : jl_Mm) : j2 G jM_X5_joined 93 [] [jl_vl k0] s0 (jf_X5_joined_B93 k0 s0) := by
  exact jr_ret_l rfl hk0 dX5_joined_93
def jf_X5_joined_B86 (l4 : Int) (s0 : jl_Mm) : jl_O :=
  jf_X5_joined_B93 l4 s0
set_option maxRecDepth 20000 in
set_option maxHeartbeats 2000000 in
theorem jj_X5_joined_B86 (G : jl_GC) (l4 : Int) (hl4 : jl_n3 l4) (s0 : jl_Mm) : j2 G jM_X5_joined 86 [(4, jl_vi l4)] [] s0 (jf_X5_joined_B86 l4 s0) := by
  refine jr_iload dX5_joined_86 0 rfl ?_
  refine jr_i2l dX5_joined_88 hl4 ?_
  refine jr_goto (t := 93) dX5_joined_89 (by decide) ?_
  refine jr_sub [] rfl ?_
  exact jj_X5_joined_B93 G l4 (jl_n36 hl4) s0
def jf_X5_joined_B113 (k0 : Int) (s0 : jl_Mm) : jl_O :=
  some (k0, s0)
set_option maxRecDepth 20000 in
set_option maxHeartbeats 2000000 in
theorem jj_X5_joined_B113 (G : jl_GC) (k0 : Int) (hk0 : jl_n6 k0) (s0 : jl_Mm) : j2 G jM_X5_joined 113 [] [jl_vl k0] s0 (jf_X5_joined_B113 k0 s0) := by
  exact jr_ret_l rfl hk0 dX5_joined_113
def jf_X5_joined_B106 (l4 : Int) (s0 : jl_Mm) : jl_O :=
  jf_X5_joined_B113 l4 s0
set_option maxRecDepth 20000 in
set_option maxHeartbeats 2000000 in
theorem jj_X5_joined_B106 (G : jl_GC) (l4 : Int) (hl4 : jl_n3 l4) (s0 : jl_Mm) : j2 G jM_X5_joined 106 [(4, jl_vi l4)] [] s0 (jf_X5_joined_B106 l4 s0) := by
  refine jr_iload dX5_joined_106 0 rfl ?_
  refine jr_i2l dX5_joined_108 hl4 ?_
  refine jr_goto (t := 113) dX5_joined_109 (by decide) ?_
  refine jr_sub [] rfl ?_
  exact jj_X5_joined_B113 G l4 (jl_n36 hl4) s0
def jf_X5_joined (v1 : Int) (v2 : Int) (v3 : Int) (v4 : Int) (s0 : jl_Mm) : jl_O :=
  if v1 = 32 then (if jl_lcmp v2 (-1 : Int) = (0 : Int) then (if v4 = (0 : Int) then (jf_X5_joined_B54 v2 s0) else (jf_X5_joined_B55 v3 s0)) else (jf_X5_joined_B54 v2 s0)) else if v1 = 33 then (if v4 = (0 : Int) then (jf_X5_joined_B67 v2 s0) else (jf_X5_joined_B67 v3 s0)) else if v1 = 34 then (some (jl_ladd v2 v4, s0)) else if v1 = 35 then (some (jl_ladd v2 v4, s0)) else if v1 = 36 then (if v3 = (0 : Int) then (jf_X5_joined_B86 v4 s0) else (if jl_lcmp v4 v2 ≤ (0 : Int) then (jf_X5_joined_B93 v2 s0) else (jf_X5_joined_B86 v4 s0))) else (if v3 = (0 : Int) then (jf_X5_joined_B106 v4 s0) else (if (0 : Int) ≤ jl_lcmp v4 v2 then (jf_X5_joined_B113 v2 s0) else (jf_X5_joined_B106 v4 s0)))
set_option maxRecDepth 20000 in
set_option maxHeartbeats 2000000 in
theorem jt_X5_joined (G : jl_GC) (v1 : Int) (v2 : Int) (v3 : Int) (v4 : Int) (h1 : jl_n3 v1) (h2 : jl_n6 v2) (h3 : jl_n3 v3) (h4 : jl_n3 v4) (s0 : jl_Mm) : jC2 G jM_X5_joined [jl_vi v1, jl_vl v2, jl_vi v3, jl_vi v4] s0 (jf_X5_joined v1 v2 v3 v4 s0) := by
  refine jl_met (plainFor_of_name rfl) (Nat.le_of_ble_eq_true rfl) ?_
  show j2 G jM_X5_joined 0 [(0, jl_vi v1), (1, jl_vl v2), (3, jl_vi v3), (4, jl_vi v4)] [] s0 _
  refine jr_iload_n dX5_joined_0 0 rfl ?_
  refine jr_ite (fun c1 => ?_) (fun c1 => ?_)
  · refine jr_tabIn (t := 36) dX5_joined_1 h1 (by omega) (by omega) (by rw [c1]; rfl) (by decide) ?_
    refine jr_lload_n dX5_joined_36 1 rfl ?_
    refine jr_ldc2_w (v := -1) dX5_joined_37 jw_1157 (by decide) ?_
    refine jr_lcmp dX5_joined_40 ?_
    refine jr_if_ne (t := 54) dX5_joined_41 (by decide) (jl_n3_to _) (fun c2 => ?_) (fun c2 => ?_)
    · refine jr_iload dX5_joined_44 3 rfl ?_
      refine jr_if_eq (t := 54) dX5_joined_46 (by decide) h4 (fun c3 => ?_) (fun c3 => ?_)
      · refine jr_sub [1] rfl ?_
        exact jj_X5_joined_B54 G v2 h2 s0
      · refine jr_iload_n dX5_joined_49 2 rfl ?_
        refine jr_i2l dX5_joined_50 h3 ?_
        refine jr_goto (t := 55) dX5_joined_51 (by decide) ?_
        refine jr_sub [] rfl ?_
        exact jj_X5_joined_B55 G v3 (jl_n36 h3) s0
    · refine jr_sub [1] rfl ?_
      exact jj_X5_joined_B54 G v2 h2 s0
  · skip
    refine jr_ite (fun c4 => ?_) (fun c4 => ?_)
    · refine jr_tabIn (t := 56) dX5_joined_1 h1 (by omega) (by omega) (by rw [c4]; rfl) (by decide) ?_
      refine jr_iload dX5_joined_56 3 rfl ?_
      refine jr_if_eq (t := 66) dX5_joined_58 (by decide) h4 (fun c5 => ?_) (fun c5 => ?_)
      · refine jr_lload_n dX5_joined_66 1 rfl ?_
        refine jr_sub [] rfl ?_
        exact jj_X5_joined_B67 G v2 h2 s0
      · refine jr_iload_n dX5_joined_61 2 rfl ?_
        refine jr_i2l dX5_joined_62 h3 ?_
        refine jr_goto (t := 67) dX5_joined_63 (by decide) ?_
        refine jr_sub [] rfl ?_
        exact jj_X5_joined_B67 G v3 (jl_n36 h3) s0
    · skip
      refine jr_ite (fun c6 => ?_) (fun c6 => ?_)
      · refine jr_tabIn (t := 68) dX5_joined_1 h1 (by omega) (by omega) (by rw [c6]; rfl) (by decide) ?_
        refine jr_lload_n dX5_joined_68 1 rfl ?_
        refine jr_iload dX5_joined_69 3 rfl ?_
        refine jr_i2l dX5_joined_71 h4 ?_
        refine jr_ladd dX5_joined_72 ?_
        exact jr_ret_l rfl (jl_n6_to _) dX5_joined_73
      · skip
        refine jr_ite (fun c7 => ?_) (fun c7 => ?_)
        · refine jr_tabIn (t := 68) dX5_joined_1 h1 (by omega) (by omega) (by rw [c7]; rfl) (by decide) ?_
          refine jr_lload_n dX5_joined_68 1 rfl ?_
          refine jr_iload dX5_joined_69 3 rfl ?_
          refine jr_i2l dX5_joined_71 h4 ?_
          refine jr_ladd dX5_joined_72 ?_
          exact jr_ret_l rfl (jl_n6_to _) dX5_joined_73
        · skip
          refine jr_ite (fun c8 => ?_) (fun c8 => ?_)
          · refine jr_tabIn (t := 74) dX5_joined_1 h1 (by omega) (by omega) (by rw [c8]; rfl) (by decide) ?_
            refine jr_iload_n dX5_joined_74 2 rfl ?_
            refine jr_if_eq (t := 86) dX5_joined_75 (by decide) h3 (fun c9 => ?_) (fun c9 => ?_)
            · refine jr_sub [3] rfl ?_
              exact jj_X5_joined_B86 G v4 h4 s0
            · refine jr_iload dX5_joined_78 3 rfl ?_
              refine jr_i2l dX5_joined_80 h4 ?_
              refine jr_lload_n dX5_joined_81 1 rfl ?_
              refine jr_lcmp dX5_joined_82 ?_
              refine jr_if_le (t := 92) dX5_joined_83 (by decide) (jl_n3_to _) (fun c10 => ?_) (fun c10 => ?_)
              · refine jr_lload_n dX5_joined_92 1 rfl ?_
                refine jr_sub [] rfl ?_
                exact jj_X5_joined_B93 G v2 h2 s0
              · refine jr_sub [3] rfl ?_
                exact jj_X5_joined_B86 G v4 h4 s0
          · skip
            refine jr_tabOut (t := 94) dX5_joined_1 h1 (by omega) (by decide) ?_
            refine jr_iload_n dX5_joined_94 2 rfl ?_
            refine jr_if_eq (t := 106) dX5_joined_95 (by decide) h3 (fun c11 => ?_) (fun c11 => ?_)
            · refine jr_sub [3] rfl ?_
              exact jj_X5_joined_B106 G v4 h4 s0
            · refine jr_iload dX5_joined_98 3 rfl ?_
              refine jr_i2l dX5_joined_100 h4 ?_
              refine jr_lload_n dX5_joined_101 1 rfl ?_
              refine jr_lcmp dX5_joined_102 ?_
              refine jr_if_ge (t := 112) dX5_joined_103 (by decide) (jl_n3_to _) (fun c12 => ?_) (fun c12 => ?_)
              · refine jr_lload_n dX5_joined_112 1 rfl ?_
                refine jr_sub [] rfl ?_
                exact jj_X5_joined_B113 G v2 h2 s0
              · refine jr_sub [3] rfl ?_
                exact jj_X5_joined_B106 G v4 h4 s0
def jf_X5_answer_L66 : Nat → Nat → Nat → Int → Int → Int → Int → jl_Mm → jl_O
  | 0, _, _, _, _, _, _, _ => none
  | n + 1, l1, l2, l3, l4, l5, l7, s0 =>
    if 0 ≤ s0 190 0 ∧ (jl_kd (jl_gr s0 190 0)).1 = 8 then if jl_g s0 (jl_gr s0 190 0) 3 ≤ l7 then (some (l5, s0)) else (jl_lm (jl_up s0 192 (((23 : Int) : Int).toNat) (jl_and (jl_shr l4 l7) (1 : Int))) fun s8 => jl_bd (jf_X5_reckon l1 l7 l2 (0 : Int) s8) fun r9 s10 => jl_bd (jf_X5_joined l3 l5 l7 r9 s10) fun r11 s12 => jf_X5_answer_L66 n l1 l2 l3 l4 r11 (jl_add l7 1) s12) else none
set_option maxRecDepth 20000 in
set_option maxHeartbeats 2000000 in
theorem jj_X5_answer_L66 (G : jl_GC) : ∀ (n : Nat) (l1 : Nat) (l2 : Nat) (l3 : Int) (l4 : Int) (l5 : Int) (l7 : Int) (hl1 : (jl_kd l1).1 = 7) (hl2 : (jl_kd l2).1 = 0) (hl3 : jl_n3 l3) (hl4 : jl_n3 l4) (hl5 : jl_n6 l5) (hl7 : jl_n3 l7) (s0 : jl_Mm), j2 G jM_X5_answer 66 [(0, jl_vr G 190), (1, jl_vr G l1), (2, jl_vr G l2), (3, jl_vi l3), (4, jl_vi l4), (5, jl_vl l5), (7, jl_vi l7)] [] s0 (jf_X5_answer_L66 n l1 l2 l3 l4 l5 l7 s0) := by
  intro n
  induction n with
  | zero =>
    intros
    exact jr_none
  | succ n ih =>
    intro l1 l2 l3 l4 l5 l7 hl1 hl2 hl3 hl4 hl5 hl7 s0
    refine jr_iload dX5_answer_66 6 rfl ?_
    refine jr_aload_n dX5_answer_68 0 rfl ?_
    refine jr_grd (fun g6 => ?_)
    refine jr_getr (i := 0) jc_5 jk_190 (by decide) (Nat.le_of_ble_eq_true rfl) jlk_190_0 jft_5_0 g6.1 jw_319 dX5_answer_69 ?_
    refine jr_getiN (i := 3) jc_8 (jl_kd1 g6.2) (jl_kdlt g6.2 (by decide)) (Nat.le_of_ble_eq_true rfl) (js8n_3 g6.2) jft_8_3 jw_101 dX5_answer_72 ?_
    refine jr_icmp_ge (t := 117) dX5_answer_75 (by decide) hl7 (jl_n3_to _) (fun c7 => ?_) (fun c7 => ?_)
    · refine jr_lload dX5_answer_117 5 rfl ?_
      exact jr_ret_l rfl hl5 dX5_answer_119
    · refine jr_aload_n dX5_answer_78 0 rfl ?_
      refine jr_getk (i := 2) jc_5 jk_190 (by decide) (Nat.le_of_ble_eq_true rfl) jlk_190_2 jw_324 dX5_answer_79 ?_
      refine jr_bipush dX5_answer_82 (by decide) ?_
      refine jr_iload dX5_answer_84 4 rfl ?_
      refine jr_iload dX5_answer_86 6 rfl ?_
      refine jr_ishr dX5_answer_88 ?_
      refine jr_iconst dX5_answer_89 ?_
      refine jr_iand dX5_answer_90 ?_
      refine jr_iastore jk_192 (by decide) (jl_nlit rfl) ⟨by decide, by decide⟩ dX5_answer_91 ?_
      refine jr_lm (fun s8 => ?_)
      refine jr_iload_n dX5_answer_92 3 rfl ?_
      refine jr_lload dX5_answer_93 5 rfl ?_
      refine jr_iload dX5_answer_95 6 rfl ?_
      refine jr_aload_n dX5_answer_97 0 rfl ?_
      refine jr_aload_n dX5_answer_98 1 rfl ?_
      refine jr_iload dX5_answer_99 6 rfl ?_
      refine jr_aload_n dX5_answer_101 2 rfl ?_
      refine jr_iconst dX5_answer_102 ?_
      refine j2_callVi (As := [jl_vr G l1, jl_vi l7, jl_vr G l2, jl_vi (0 : Int)]) dX5_answer_103 (jt_X5_reckon G l1 l7 l2 (0 : Int) hl7 (jl_nlit rfl) s8) jv_X5_reckon ⟨rfl, rfl, rfl⟩ jw_793 jk_190 (by decide) (by decide) rfl ⟨Nat.le_of_ble_eq_true rfl, Nat.le_of_ble_eq_true rfl⟩ rfl (Nat.le_of_ble_eq_true rfl) (fun r9 s10 hr9 => ?_)
      refine j2_callSl (As := [jl_vi l3, jl_vl l5, jl_vi l7, jl_vi r9]) dX5_answer_106 (jt_X5_joined G l3 l5 l7 r9 hl3 hl5 hl7 hr9 s10) jv_X5_joined ⟨rfl, rfl, rfl⟩ jw_1159 ⟨Nat.le_of_ble_eq_true rfl, Nat.le_of_ble_eq_true rfl⟩ rfl (Nat.le_of_ble_eq_true rfl) (fun r11 s12 hr11 => ?_)
      refine jr_lstore (lv := [(5, jl_vl r11), (0, jl_vr G 190), (1, jl_vr G l1), (2, jl_vr G l2), (3, jl_vi l3), (4, jl_vi l4), (7, jl_vi l7)]) dX5_answer_109 (Nat.le_of_ble_eq_true rfl) rfl ?_
      refine jr_iinc (j := 6) (lv := [(7, jl_vi (jl_add l7 1)), (5, jl_vl r11), (0, jl_vr G 190), (1, jl_vr G l1), (2, jl_vr G l2), (3, jl_vi l3), (4, jl_vi l4)]) dX5_answer_111 rfl (Nat.le_of_ble_eq_true rfl) rfl ?_
      refine jr_goto (t := 66) dX5_answer_114 (by decide) ?_
      refine jr_sub [2, 3, 4, 5, 6, 1, 0] rfl ?_
      exact ih l1 l2 l3 l4 r11 (jl_add l7 1) hl1 hl2 hl3 hl4 hr11 (jl_n3_to _) s12
def jf_X5_answer_L31 : Nat → Nat → Nat → Int → Int → Int → Int → jl_Mm → jl_O
  | 0, _, _, _, _, _, _, _ => none
  | n + 1, l1, l2, l3, l4, l5, l7, s0 =>
    if 0 ≤ s0 190 0 ∧ (jl_kd (jl_gr s0 190 0)).1 = 8 then if jl_g s0 (jl_gr s0 190 0) 1 ≤ l7 then (jf_X5_answer_L66 jl_fu l1 l2 l3 l4 l5 (0 : Int) s0) else (jl_bd (jf_X5_litIn l1 l7 s0) fun r13 s14 => if 0 ≤ l7 ∧ l7 < ((30 : Nat) : Int) then jl_lm (jl_up s14 194 (l7).toNat r13) fun s16 => jf_X5_answer_L31 n l1 l2 l3 l4 l5 (jl_add l7 1) s16 else none) else none
set_option maxRecDepth 20000 in
set_option maxHeartbeats 2000000 in
theorem jj_X5_answer_L31 (G : jl_GC) : ∀ (n : Nat) (l1 : Nat) (l2 : Nat) (l3 : Int) (l4 : Int) (l5 : Int) (l7 : Int) (hl1 : (jl_kd l1).1 = 7) (hl2 : (jl_kd l2).1 = 0) (hl3 : jl_n3 l3) (hl4 : jl_n3 l4) (hl5 : jl_n6 l5) (hl7 : jl_n3 l7) (s0 : jl_Mm), j2 G jM_X5_answer 31 [(0, jl_vr G 190), (1, jl_vr G l1), (2, jl_vr G l2), (3, jl_vi l3), (4, jl_vi l4), (5, jl_vl l5), (7, jl_vi l7)] [] s0 (jf_X5_answer_L31 n l1 l2 l3 l4 l5 l7 s0) := by
  intro n
  induction n with
  | zero =>
    intros
    exact jr_none
  | succ n ih =>
    intro l1 l2 l3 l4 l5 l7 hl1 hl2 hl3 hl4 hl5 hl7 s0
    refine jr_iload dX5_answer_31 6 rfl ?_
    refine jr_aload_n dX5_answer_33 0 rfl ?_
    refine jr_grd (fun g4 => ?_)
    refine jr_getr (i := 0) jc_5 jk_190 (by decide) (Nat.le_of_ble_eq_true rfl) jlk_190_0 jft_5_0 g4.1 jw_319 dX5_answer_34 ?_
    refine jr_getiN (i := 1) jc_8 (jl_kd1 g4.2) (jl_kdlt g4.2 (by decide)) (Nat.le_of_ble_eq_true rfl) (js8n_1 g4.2) jft_8_1 jw_93 dX5_answer_37 ?_
    refine jr_icmp_ge (t := 63) dX5_answer_40 (by decide) hl7 (jl_n3_to _) (fun c5 => ?_) (fun c5 => ?_)
    · refine jr_iconst dX5_answer_63 ?_
      refine jr_istore (lv := [(7, jl_vi (0 : Int)), (0, jl_vr G 190), (1, jl_vr G l1), (2, jl_vr G l2), (3, jl_vi l3), (4, jl_vi l4), (5, jl_vl l5)]) dX5_answer_64 (Nat.le_of_ble_eq_true rfl) rfl ?_
      refine jr_sub [1, 2, 3, 4, 5, 6, 0] rfl ?_
      exact jj_X5_answer_L66 G jl_fu l1 l2 l3 l4 l5 (0 : Int) hl1 hl2 hl3 hl4 hl5 (jl_nlit rfl) s0
    · refine jr_aload_n dX5_answer_43 0 rfl ?_
      refine jr_getk (i := 4) jc_5 jk_190 (by decide) (Nat.le_of_ble_eq_true rfl) jlk_190_4 jw_326 dX5_answer_44 ?_
      refine jr_iload dX5_answer_47 6 rfl ?_
      refine jr_aload_n dX5_answer_49 0 rfl ?_
      refine jr_aload_n dX5_answer_50 1 rfl ?_
      refine jr_iload dX5_answer_51 6 rfl ?_
      refine j2_callVi (As := [jl_vr G l1, jl_vi l7]) dX5_answer_53 (jt_X5_litIn G l1 l7 hl7 s0) jv_X5_litIn ⟨rfl, rfl, rfl⟩ jw_1158 jk_190 (by decide) (by decide) rfl ⟨Nat.le_of_ble_eq_true rfl, Nat.le_of_ble_eq_true rfl⟩ rfl (Nat.le_of_ble_eq_true rfl) (fun r13 s14 hr13 => ?_)
      refine jr_grd (fun g15 => ?_)
      refine jr_iastore jk_194 (by decide) hl7 g15 dX5_answer_56 ?_
      refine jr_lm (fun s16 => ?_)
      refine jr_iinc (j := 6) (lv := [(7, jl_vi (jl_add l7 1)), (0, jl_vr G 190), (1, jl_vr G l1), (2, jl_vr G l2), (3, jl_vi l3), (4, jl_vi l4), (5, jl_vl l5)]) dX5_answer_57 rfl (Nat.le_of_ble_eq_true rfl) rfl ?_
      refine jr_goto (t := 31) dX5_answer_60 (by decide) ?_
      refine jr_sub [1, 2, 3, 4, 5, 6, 0] rfl ?_
      exact ih l1 l2 l3 l4 l5 (jl_add l7 1) hl1 hl2 hl3 hl4 hl5 (jl_n3_to _) s16
def jf_X5_answer_B26 (l1 : Nat) (l2 : Nat) (l3 : Int) (l4 : Int) (k0 : Int) (s0 : jl_Mm) : jl_O :=
  jf_X5_answer_L31 jl_fu l1 l2 l3 l4 k0 (0 : Int) s0
set_option maxRecDepth 20000 in
set_option maxHeartbeats 2000000 in
theorem jj_X5_answer_B26 (G : jl_GC) (l1 : Nat) (l2 : Nat) (l3 : Int) (l4 : Int) (k0 : Int) (hl1 : (jl_kd l1).1 = 7) (hl2 : (jl_kd l2).1 = 0) (hl3 : jl_n3 l3) (hl4 : jl_n3 l4) (hk0 : jl_n6 k0) (s0 : jl_Mm) : j2 G jM_X5_answer 26 [(0, jl_vr G 190), (1, jl_vr G l1), (2, jl_vr G l2), (3, jl_vi l3), (4, jl_vi l4)] [jl_vl k0] s0 (jf_X5_answer_B26 l1 l2 l3 l4 k0 s0) := by
  refine jr_lstore (lv := [(5, jl_vl k0), (0, jl_vr G 190), (1, jl_vr G l1), (2, jl_vr G l2), (3, jl_vi l3), (4, jl_vi l4)]) dX5_answer_26 (Nat.le_of_ble_eq_true rfl) rfl ?_
  refine jr_iconst dX5_answer_28 ?_
  refine jr_istore (lv := [(7, jl_vi (0 : Int)), (5, jl_vl k0), (0, jl_vr G 190), (1, jl_vr G l1), (2, jl_vr G l2), (3, jl_vi l3), (4, jl_vi l4)]) dX5_answer_29 (Nat.le_of_ble_eq_true rfl) rfl ?_
  refine jr_sub [2, 3, 4, 5, 6, 1, 0] rfl ?_
  exact jj_X5_answer_L31 G jl_fu l1 l2 l3 l4 k0 (0 : Int) hl1 hl2 hl3 hl4 hk0 (jl_nlit rfl) s0
def jf_X5_answer_B19 (l1 : Nat) (l2 : Nat) (l3 : Int) (l4 : Int) (s0 : jl_Mm) : jl_O :=
  jf_X5_answer_B26 l1 l2 l3 l4 (-1 : Int) s0
set_option maxRecDepth 20000 in
set_option maxHeartbeats 2000000 in
theorem jj_X5_answer_B19 (G : jl_GC) (l1 : Nat) (l2 : Nat) (l3 : Int) (l4 : Int) (hl1 : (jl_kd l1).1 = 7) (hl2 : (jl_kd l2).1 = 0) (hl3 : jl_n3 l3) (hl4 : jl_n3 l4) (s0 : jl_Mm) : j2 G jM_X5_answer 19 [(0, jl_vr G 190), (1, jl_vr G l1), (2, jl_vr G l2), (3, jl_vi l3), (4, jl_vi l4)] [] s0 (jf_X5_answer_B19 l1 l2 l3 l4 s0) := by
  refine jr_ldc2_w (v := -1) dX5_answer_19 jw_1157 (by decide) ?_
  refine jr_goto (t := 26) dX5_answer_22 (by decide) ?_
  exact jj_X5_answer_B26 G l1 l2 l3 l4 (-1 : Int) hl1 hl2 hl3 hl4 (jl_n6lit rfl) s0
def jf_X5_answer (q1 : Nat) (q2 : Nat) (v3 : Int) (s0 : jl_Mm) : jl_O :=
  if (jl_kd q1).1 = 7 then if (jl_kd q2).1 = 0 then jl_bd (jf_X5_believed q1 s0) fun r1 s2 => if v3 = (32 : Int) then (jf_X5_answer_B19 q1 q2 v3 r1 s2) else (if v3 = (33 : Int) then (jf_X5_answer_B19 q1 q2 v3 r1 s2) else (jf_X5_answer_B26 q1 q2 v3 r1 (0 : Int) s2)) else none else none
set_option maxRecDepth 20000 in
set_option maxHeartbeats 2000000 in
theorem jt_X5_answer (G : jl_GC) (q1 : Nat) (q2 : Nat) (v3 : Int) (h3 : jl_n3 v3) (s0 : jl_Mm) : jC2 G jM_X5_answer [jl_vr G 190, jl_vr G q1, jl_vr G q2, jl_vi v3] s0 (jf_X5_answer q1 q2 v3 s0) := by
  refine jl_met (plainFor_of_name rfl) (Nat.le_of_ble_eq_true rfl) ?_
  show j2 G jM_X5_answer 0 [(0, jl_vr G 190), (1, jl_vr G q1), (2, jl_vr G q2), (3, jl_vi v3)] [] s0 _
  refine jr_grd (fun gp1 => ?_)
  refine jr_grd (fun gp2 => ?_)
  refine jr_aload_n dX5_answer_0 0 rfl ?_
  refine jr_aload_n dX5_answer_1 1 rfl ?_
  refine j2_callVi (As := [jl_vr G q1]) dX5_answer_2 (jt_X5_believed G q1 s0) jv_X5_believed ⟨rfl, rfl, rfl⟩ jw_1156 jk_190 (by decide) (by decide) rfl ⟨Nat.le_of_ble_eq_true rfl, Nat.le_of_ble_eq_true rfl⟩ rfl (Nat.le_of_ble_eq_true rfl) (fun r1 s2 hr1 => ?_)
  refine jr_istore (lv := [(4, jl_vi r1), (0, jl_vr G 190), (1, jl_vr G q1), (2, jl_vr G q2), (3, jl_vi v3)]) dX5_answer_5 (Nat.le_of_ble_eq_true rfl) rfl ?_
  refine jr_iload_n dX5_answer_7 4 rfl ?_
  refine jr_bipush dX5_answer_8 (by decide) ?_
  refine jr_icmp_eq (t := 19) dX5_answer_10 (by decide) h3 (jl_nlit rfl) (fun c3 => ?_) (fun c3 => ?_)
  · refine jr_sub [1, 2, 3, 4, 0] rfl ?_
    exact jj_X5_answer_B19 G q1 q2 v3 r1 gp1 gp2 h3 hr1 s2
  · refine jr_iload_n dX5_answer_13 4 rfl ?_
    refine jr_bipush dX5_answer_14 (by decide) ?_
    refine jr_icmp_ne (t := 25) dX5_answer_16 (by decide) h3 (jl_nlit rfl) (fun c17 => ?_) (fun c17 => ?_)
    · refine jr_sub [1, 2, 3, 4, 0] rfl ?_
      exact jj_X5_answer_B19 G q1 q2 v3 r1 gp1 gp2 h3 hr1 s2
    · refine jr_lconst (v := 0) dX5_answer_25 (by decide) ?_
      refine jr_sub [1, 2, 3, 4, 0] rfl ?_
      exact jj_X5_answer_B26 G q1 q2 v3 r1 (0 : Int) gp1 gp2 h3 hr1 (jl_n6lit rfl) s2
def jf_X11_ask_B64 (k0 : Int) (s0 : jl_Mm) : jl_O :=
  some (k0, s0)
set_option maxRecDepth 20000 in
set_option maxHeartbeats 2000000 in
theorem jj_X11_ask_B64 (G : jl_GC) (k0 : Int) (hk0 : jl_n6 k0) (s0 : jl_Mm) : j2 G jM_X11_ask 64 [] [jl_vl k0] s0 (jf_X11_ask_B64 k0 s0) := by
  exact jr_ret_l rfl hk0 dX11_ask_64
def jf_X11_ask (s0 : jl_Mm) : jl_O :=
  jl_bd (jf_X11_hasStreet s0) fun r1 s2 => if r1 = (0 : Int) then (jl_lm (jl_up s2 1 1 (0 : Int)) fun s11 => some ((-1000000000000000 : Int), s11)) else (jl_bd (jf_X4_readQuestion 3 s2) fun r4 s5 => jl_bd (jf_X11_takeFault s5) fun r6 s7 => if jl_g s7 0 15 = (0 : Int) then (jl_bd (jf_X5_answer 40 3 r4 s7) fun r9 s10 => jf_X11_ask_B64 r9 s10) else (jf_X11_ask_B64 (-1000000000000000 : Int) s7))
set_option maxRecDepth 20000 in
set_option maxHeartbeats 2000000 in
theorem jt_X11_ask (G : jl_GC) (s0 : jl_Mm) : jC2 G jM_X11_ask [jl_vr G 0] s0 (jf_X11_ask s0) := by
  refine jl_met (plainFor_of_name rfl) (Nat.le_of_ble_eq_true rfl) ?_
  show j2 G jM_X11_ask 0 [(0, jl_vr G 0)] [] s0 _
  refine jr_aload_n dX11_ask_0 0 rfl ?_
  refine j2_callVz (As := []) dX11_ask_1 (jt_X11_hasStreet G s0) jv_X11_hasStreet ⟨rfl, rfl, rfl⟩ jw_993 jk_0 (by decide) (by decide) rfl ⟨Nat.le_of_ble_eq_true rfl, Nat.le_of_ble_eq_true rfl⟩ rfl (Nat.le_of_ble_eq_true rfl) (fun r1 s2 hr1 => ?_)
  refine jr_if_ne (t := 19) dX11_ask_4 (by decide) (jl_nz hr1) (fun c3 => ?_) (fun c3 => ?_)
  · refine jr_aload_n dX11_ask_7 0 rfl ?_
    refine jr_getk (i := 0) jc_11 jk_0 (by decide) (Nat.le_of_ble_eq_true rfl) jlk_0_0 jw_424 dX11_ask_8 ?_
    refine jr_iconst dX11_ask_11 ?_
    refine jr_putiN (i := 1) jc_10 jk_1 (by decide) (Nat.le_of_ble_eq_true rfl) jlk_1_1 jft_10_1 rfl jw_40 rfl dX11_ask_12 ?_
    refine jr_lm (fun s11 => ?_)
    refine jr_ldc2_w (v := -1000000000000000) dX11_ask_15 jw_1144 (by decide) ?_
    exact jr_ret_l rfl (jl_n6lit rfl) dX11_ask_18
  · refine jr_aload_n dX11_ask_19 0 rfl ?_
    refine jr_getk (i := 4) jc_11 jk_0 (by decide) (Nat.le_of_ble_eq_true rfl) jlk_0_4 jw_428 dX11_ask_20 ?_
    refine jr_aload_n dX11_ask_23 0 rfl ?_
    refine jr_getk (i := 1) jc_11 jk_0 (by decide) (Nat.le_of_ble_eq_true rfl) jlk_0_1 jw_425 dX11_ask_24 ?_
    refine j2_callVi (As := [jl_vr G 3]) dX11_ask_27 (jt_X4_readQuestion G 3 s2) jv_X4_readQuestion ⟨rfl, rfl, rfl⟩ jw_1145 jk_38 (by decide) (by decide) rfl ⟨Nat.le_of_ble_eq_true rfl, Nat.le_of_ble_eq_true rfl⟩ rfl (Nat.le_of_ble_eq_true rfl) (fun r4 s5 hr4 => ?_)
    refine jr_istore_n (lv := [(1, jl_vi r4), (0, jl_vr G 0)]) dX11_ask_30 rfl (Nat.le_of_ble_eq_true rfl) rfl ?_
    refine jr_aload_n dX11_ask_31 1 rfl ?_
    refine j2_callVv (As := []) dX11_ask_32 (jt_X11_takeFault G s5) jv_X11_takeFault ⟨rfl, rfl, rfl⟩ jw_747 jk_0 (by decide) (by decide) rfl ⟨Nat.le_of_ble_eq_true rfl, Nat.le_of_ble_eq_true rfl⟩ rfl (Nat.le_of_ble_eq_true rfl) (fun r6 s7 hr6 => ?_)
    refine jr_aload_n dX11_ask_35 1 rfl ?_
    refine jr_geti (i := 15) jc_11 jk_0 (by decide) (Nat.le_of_ble_eq_true rfl) jlk_0_15 jft_11_15 jw_439 dX11_ask_36 ?_
    refine jr_if_eq (t := 48) dX11_ask_39 (by decide) (jl_n3_to _) (fun c8 => ?_) (fun c8 => ?_)
    · refine jr_aload_n dX11_ask_48 1 rfl ?_
      refine jr_getk (i := 9) jc_11 jk_0 (by decide) (Nat.le_of_ble_eq_true rfl) jlk_0_9 jw_433 dX11_ask_49 ?_
      refine jr_aload_n dX11_ask_52 1 rfl ?_
      refine jr_getk (i := 6) jc_11 jk_0 (by decide) (Nat.le_of_ble_eq_true rfl) jlk_0_6 jw_430 dX11_ask_53 ?_
      refine jr_aload_n dX11_ask_56 1 rfl ?_
      refine jr_getk (i := 1) jc_11 jk_0 (by decide) (Nat.le_of_ble_eq_true rfl) jlk_0_1 jw_425 dX11_ask_57 ?_
      refine jr_iload_n dX11_ask_60 0 rfl ?_
      refine j2_callVl (As := [jl_vr G 40, jl_vr G 3, jl_vi r4]) dX11_ask_61 (jt_X5_answer G 40 3 r4 hr4 s7) jv_X5_answer ⟨rfl, rfl, rfl⟩ jw_1152 jk_190 (by decide) (by decide) rfl ⟨Nat.le_of_ble_eq_true rfl, Nat.le_of_ble_eq_true rfl⟩ rfl (Nat.le_of_ble_eq_true rfl) (fun r9 s10 hr9 => ?_)
      refine jr_sub [] rfl ?_
      exact jj_X11_ask_B64 G r9 hr9 s10
    · refine jr_ldc2_w (v := -1000000000000000) dX11_ask_42 jw_1144 (by decide) ?_
      refine jr_goto (t := 64) dX11_ask_45 (by decide) ?_
      refine jr_sub [] rfl ?_
      exact jj_X11_ask_B64 G (-1000000000000000 : Int) (jl_n6lit rfl) s7
def jf_X11_putPair (v1 : Int) (v2 : Int) (s0 : jl_Mm) : jl_O :=
  if 0 ≤ v1 ∧ v1 < ((27 : Nat) : Int) then jl_lm (jl_up s0 204 (v1).toNat (jl_shr v2 (8 : Int))) fun s2 => if 0 ≤ jl_add v1 (1 : Int) ∧ jl_add v1 (1 : Int) < ((27 : Nat) : Int) then jl_lm (jl_up s2 204 (jl_add v1 (1 : Int)).toNat (jl_and v2 (255 : Int))) fun s4 => some (0, s4) else none else none
set_option maxRecDepth 20000 in
set_option maxHeartbeats 2000000 in
theorem jt_X11_putPair (G : jl_GC) (v1 : Int) (v2 : Int) (h1 : jl_n3 v1) (h2 : jl_n3 v2) (s0 : jl_Mm) : jC2 G jM_X11_putPair [jl_vr G 0, jl_vi v1, jl_vi v2] s0 (jf_X11_putPair v1 v2 s0) := by
  refine jl_met (plainFor_of_name rfl) (Nat.le_of_ble_eq_true rfl) ?_
  show j2 G jM_X11_putPair 0 [(0, jl_vr G 0), (1, jl_vi v1), (2, jl_vi v2)] [] s0 _
  refine jr_aload_n dX11_putPair_0 0 rfl ?_
  refine jr_getk (i := 12) jc_11 jk_0 (by decide) (Nat.le_of_ble_eq_true rfl) jlk_0_12 jw_436 dX11_putPair_1 ?_
  refine jr_iload_n dX11_putPair_4 1 rfl ?_
  refine jr_iload_n dX11_putPair_5 2 rfl ?_
  refine jr_bipush dX11_putPair_6 (by decide) ?_
  refine jr_ishr dX11_putPair_8 ?_
  refine jr_grd (fun g1 => ?_)
  refine jr_iastore jk_204 (by decide) h1 g1 dX11_putPair_9 ?_
  refine jr_lm (fun s2 => ?_)
  refine jr_aload_n dX11_putPair_10 0 rfl ?_
  refine jr_getk (i := 12) jc_11 jk_0 (by decide) (Nat.le_of_ble_eq_true rfl) jlk_0_12 jw_436 dX11_putPair_11 ?_
  refine jr_iload_n dX11_putPair_14 1 rfl ?_
  refine jr_iconst dX11_putPair_15 ?_
  refine jr_iadd dX11_putPair_16 ?_
  refine jr_iload_n dX11_putPair_17 2 rfl ?_
  refine jr_sipush dX11_putPair_18 (by decide) ?_
  refine jr_iand dX11_putPair_21 ?_
  refine jr_grd (fun g3 => ?_)
  refine jr_iastore jk_204 (by decide) (jl_n3_to _) g3 dX11_putPair_22 ?_
  refine jr_lm (fun s4 => ?_)
  exact jr_ret_v rfl dX11_putPair_23
def jf_X11_image_L124 : Nat → Int → Int → Int → jl_Mm → jl_O
  | 0, _, _, _, _ => none
  | n + 1, l1, l2, l3, s0 =>
    if l1 ≤ l3 then (if 0 ≤ l1 ∧ l1 < ((27 : Nat) : Int) then jl_lm (jl_up s0 204 (l1).toNat l2) fun s11 => jl_lm (jl_up s11 0 13 (jl_add l1 1)) fun s12 => some (jl_add l1 1, s12) else none) else (if 0 ≤ l3 ∧ l3 < ((27 : Nat) : Int) then jl_let (jl_rem (jl_add (jl_mul (3 : Int) l2) (jl_g s0 204 (l3).toNat)) (251 : Int)) fun x14 => jf_X11_image_L124 n l1 x14 (jl_add l3 1) s0 else none)
set_option maxRecDepth 20000 in
set_option maxHeartbeats 2000000 in
theorem jj_X11_image_L124 (G : jl_GC) : ∀ (n : Nat) (l1 : Int) (l2 : Int) (l3 : Int) (hl1 : jl_n3 l1) (hl2 : jl_n3 l2) (hl3 : jl_n3 l3) (s0 : jl_Mm), j2 G jM_X11_image 124 [(0, jl_vr G 0), (1, jl_vi l1), (2, jl_vi l2), (3, jl_vi l3)] [] s0 (jf_X11_image_L124 n l1 l2 l3 s0) := by
  intro n
  induction n with
  | zero =>
    intros
    exact jr_none
  | succ n ih =>
    intro l1 l2 l3 hl1 hl2 hl3 s0
    refine jr_iload_n dX11_image_124 3 rfl ?_
    refine jr_iload_n dX11_image_125 1 rfl ?_
    refine jr_icmp_ge (t := 150) dX11_image_126 (by decide) hl3 hl1 (fun c9 => ?_) (fun c9 => ?_)
    · refine jr_aload_n dX11_image_150 0 rfl ?_
      refine jr_getk (i := 12) jc_11 jk_0 (by decide) (Nat.le_of_ble_eq_true rfl) jlk_0_12 jw_436 dX11_image_151 ?_
      refine jr_iload_n dX11_image_154 1 rfl ?_
      refine jr_iinc (j := 1) (lv := [(1, jl_vi (jl_add l1 1)), (0, jl_vr G 0), (2, jl_vi l2), (3, jl_vi l3)]) dX11_image_155 rfl (Nat.le_of_ble_eq_true rfl) rfl ?_
      refine jr_iload_n dX11_image_158 2 rfl ?_
      refine jr_grd (fun g10 => ?_)
      refine jr_iastore jk_204 (by decide) hl1 g10 dX11_image_159 ?_
      refine jr_lm (fun s11 => ?_)
      refine jr_aload_n dX11_image_160 1 rfl ?_
      refine jr_iload_n dX11_image_161 0 rfl ?_
      refine jr_puti (i := 13) jc_11 jk_0 (by decide) (Nat.le_of_ble_eq_true rfl) jlk_0_13 jft_11_13 rfl jw_437 rfl dX11_image_162 ?_
      refine jr_lm (fun s12 => ?_)
      refine jr_iload_n dX11_image_165 0 rfl ?_
      exact jr_ret_i rfl (jl_n3_to _) dX11_image_166
    · refine jr_iconst dX11_image_129 ?_
      refine jr_iload_n dX11_image_130 2 rfl ?_
      refine jr_imul dX11_image_131 ?_
      refine jr_aload_n dX11_image_132 0 rfl ?_
      refine jr_getk (i := 12) jc_11 jk_0 (by decide) (Nat.le_of_ble_eq_true rfl) jlk_0_12 jw_436 dX11_image_133 ?_
      refine jr_iload_n dX11_image_136 3 rfl ?_
      refine jr_grd (fun g13 => ?_)
      refine jr_iaload jk_204 (by decide) hl3 g13 dX11_image_137 ?_
      refine jr_iadd dX11_image_138 ?_
      refine jr_sipush dX11_image_139 (by decide) ?_
      refine jr_irem dX11_image_142 (jl_nlit rfl) (by decide) ?_
      refine jr_let (jl_n3_to _) (fun x14 hx14 => ?_)
      refine jr_istore_n (lv := [(2, jl_vi x14), (0, jl_vr G 0), (1, jl_vi l1), (3, jl_vi l3)]) dX11_image_143 rfl (Nat.le_of_ble_eq_true rfl) rfl ?_
      refine jr_iinc (j := 3) (lv := [(3, jl_vi (jl_add l3 1)), (2, jl_vi x14), (0, jl_vr G 0), (1, jl_vi l1)]) dX11_image_144 rfl (Nat.le_of_ble_eq_true rfl) rfl ?_
      refine jr_goto (t := 124) dX11_image_147 (by decide) ?_
      refine jr_sub [2, 3, 1, 0] rfl ?_
      exact ih l1 x14 (jl_add l3 1) hl1 hx14 (jl_n3_to _) s0
def jf_X11_image_L65 : Nat → Int → Int → jl_Mm → jl_O
  | 0, _, _, _ => none
  | n + 1, l1, l2, s0 =>
    if 0 ≤ s0 0 2 ∧ (jl_kd (jl_gr s0 0 2)).1 = 8 then if jl_g s0 (jl_gr s0 0 2) 3 ≤ l2 then (jf_X11_image_L124 jl_fu l1 (167 : Int) (0 : Int) s0) else (if 0 ≤ l2 ∧ l2 < ((8 : Nat) : Int) then if 0 ≤ l1 ∧ l1 < ((27 : Nat) : Int) then jl_lm (jl_up s0 204 (l1).toNat (jl_g s0 42 (l2).toNat)) fun s17 => if 0 ≤ l2 ∧ l2 < ((8 : Nat) : Int) then if 0 ≤ jl_add l1 1 ∧ jl_add l1 1 < ((27 : Nat) : Int) then jl_lm (jl_up s17 204 (jl_add l1 1).toNat (jl_g s17 43 (l2).toNat)) fun s20 => jf_X11_image_L65 n (jl_add (jl_add l1 1) 1) (jl_add l2 1) s20 else none else none else none else none) else none
set_option maxRecDepth 20000 in
set_option maxHeartbeats 2000000 in
theorem jj_X11_image_L65 (G : jl_GC) : ∀ (n : Nat) (l1 : Int) (l2 : Int) (hl1 : jl_n3 l1) (hl2 : jl_n3 l2) (s0 : jl_Mm), j2 G jM_X11_image 65 [(0, jl_vr G 0), (1, jl_vi l1), (2, jl_vi l2)] [] s0 (jf_X11_image_L65 n l1 l2 s0) := by
  intro n
  induction n with
  | zero =>
    intros
    exact jr_none
  | succ n ih =>
    intro l1 l2 hl1 hl2 s0
    refine jr_iload_n dX11_image_65 2 rfl ?_
    refine jr_aload_n dX11_image_66 0 rfl ?_
    refine jr_grd (fun g7 => ?_)
    refine jr_getr (i := 2) jc_11 jk_0 (by decide) (Nat.le_of_ble_eq_true rfl) jlk_0_2 jft_11_2 g7.1 jw_426 dX11_image_67 ?_
    refine jr_getiN (i := 3) jc_8 (jl_kd1 g7.2) (jl_kdlt g7.2 (by decide)) (Nat.le_of_ble_eq_true rfl) (js8n_3 g7.2) jft_8_3 jw_104 dX11_image_70 ?_
    refine jr_icmp_ge (t := 118) dX11_image_73 (by decide) hl2 (jl_n3_to _) (fun c8 => ?_) (fun c8 => ?_)
    · refine jr_sipush dX11_image_118 (by decide) ?_
      refine jr_istore_n (lv := [(2, jl_vi (167 : Int)), (0, jl_vr G 0), (1, jl_vi l1)]) dX11_image_121 rfl (Nat.le_of_ble_eq_true rfl) rfl ?_
      refine jr_iconst dX11_image_122 ?_
      refine jr_istore_n (lv := [(3, jl_vi (0 : Int)), (2, jl_vi (167 : Int)), (0, jl_vr G 0), (1, jl_vi l1)]) dX11_image_123 rfl (Nat.le_of_ble_eq_true rfl) rfl ?_
      refine jr_sub [2, 3, 1, 0] rfl ?_
      exact jj_X11_image_L124 G jl_fu l1 (167 : Int) (0 : Int) hl1 (jl_nlit rfl) (jl_nlit rfl) s0
    · refine jr_aload_n dX11_image_76 0 rfl ?_
      refine jr_getk (i := 12) jc_11 jk_0 (by decide) (Nat.le_of_ble_eq_true rfl) jlk_0_12 jw_436 dX11_image_77 ?_
      refine jr_iload_n dX11_image_80 1 rfl ?_
      refine jr_iinc (j := 1) (lv := [(1, jl_vi (jl_add l1 1)), (0, jl_vr G 0), (2, jl_vi l2)]) dX11_image_81 rfl (Nat.le_of_ble_eq_true rfl) rfl ?_
      refine jr_aload_n dX11_image_84 1 rfl ?_
      refine jr_getk (i := 6) jc_11 jk_0 (by decide) (Nat.le_of_ble_eq_true rfl) jlk_0_6 jw_430 dX11_image_85 ?_
      refine jr_getkN (i := 3) jc_7 jk_40 (by decide) (Nat.le_of_ble_eq_true rfl) jlk_40_3 jw_252 dX11_image_88 ?_
      refine jr_iload_n dX11_image_91 2 rfl ?_
      refine jr_grd (fun g15 => ?_)
      refine jr_iaload jk_42 (by decide) hl2 g15 dX11_image_92 ?_
      refine jr_grd (fun g16 => ?_)
      refine jr_iastore jk_204 (by decide) hl1 g16 dX11_image_93 ?_
      refine jr_lm (fun s17 => ?_)
      refine jr_aload_n dX11_image_94 1 rfl ?_
      refine jr_getk (i := 12) jc_11 jk_0 (by decide) (Nat.le_of_ble_eq_true rfl) jlk_0_12 jw_436 dX11_image_95 ?_
      refine jr_iload_n dX11_image_98 0 rfl ?_
      refine jr_iinc (j := 0) (lv := [(1, jl_vi (jl_add (jl_add l1 1) 1)), (0, jl_vr G 0), (2, jl_vi l2)]) dX11_image_99 rfl (Nat.le_of_ble_eq_true rfl) rfl ?_
      refine jr_aload_n dX11_image_102 1 rfl ?_
      refine jr_getk (i := 6) jc_11 jk_0 (by decide) (Nat.le_of_ble_eq_true rfl) jlk_0_6 jw_430 dX11_image_103 ?_
      refine jr_getkN (i := 4) jc_7 jk_40 (by decide) (Nat.le_of_ble_eq_true rfl) jlk_40_4 jw_254 dX11_image_106 ?_
      refine jr_iload_n dX11_image_109 2 rfl ?_
      refine jr_grd (fun g18 => ?_)
      refine jr_iaload jk_43 (by decide) hl2 g18 dX11_image_110 ?_
      refine jr_grd (fun g19 => ?_)
      refine jr_iastore jk_204 (by decide) (jl_n3_to _) g19 dX11_image_111 ?_
      refine jr_lm (fun s20 => ?_)
      refine jr_iinc (j := 2) (lv := [(2, jl_vi (jl_add l2 1)), (1, jl_vi (jl_add (jl_add l1 1) 1)), (0, jl_vr G 0)]) dX11_image_112 rfl (Nat.le_of_ble_eq_true rfl) rfl ?_
      refine jr_goto (t := 65) dX11_image_115 (by decide) ?_
      refine jr_sub [2, 1, 0] rfl ?_
      exact ih (jl_add (jl_add l1 1) 1) (jl_add l2 1) (jl_n3_to _) (jl_n3_to _) s20
def jf_X11_image_L28 : Nat → Int → Int → jl_Mm → jl_O
  | 0, _, _, _ => none
  | n + 1, l1, l2, s0 =>
    if 0 ≤ s0 0 2 ∧ (jl_kd (jl_gr s0 0 2)).1 = 8 then if jl_g s0 (jl_gr s0 0 2) 2 ≤ l2 then (jf_X11_image_L65 jl_fu l1 (0 : Int) s0) else (if 0 ≤ l2 ∧ l2 < ((6 : Nat) : Int) then if 0 ≤ l1 ∧ l1 < ((27 : Nat) : Int) then jl_lm (jl_up s0 204 (l1).toNat (jl_g s0 41 (l2).toNat)) fun s23 => jf_X11_image_L28 n (jl_add l1 1) (jl_add l2 1) s23 else none else none) else none
set_option maxRecDepth 20000 in
set_option maxHeartbeats 2000000 in
theorem jj_X11_image_L28 (G : jl_GC) : ∀ (n : Nat) (l1 : Int) (l2 : Int) (hl1 : jl_n3 l1) (hl2 : jl_n3 l2) (s0 : jl_Mm), j2 G jM_X11_image 28 [(0, jl_vr G 0), (1, jl_vi l1), (2, jl_vi l2)] [] s0 (jf_X11_image_L28 n l1 l2 s0) := by
  intro n
  induction n with
  | zero =>
    intros
    exact jr_none
  | succ n ih =>
    intro l1 l2 hl1 hl2 s0
    refine jr_iload_n dX11_image_28 2 rfl ?_
    refine jr_aload_n dX11_image_29 0 rfl ?_
    refine jr_grd (fun g5 => ?_)
    refine jr_getr (i := 2) jc_11 jk_0 (by decide) (Nat.le_of_ble_eq_true rfl) jlk_0_2 jft_11_2 g5.1 jw_426 dX11_image_30 ?_
    refine jr_getiN (i := 2) jc_8 (jl_kd1 g5.2) (jl_kdlt g5.2 (by decide)) (Nat.le_of_ble_eq_true rfl) (js8n_2 g5.2) jft_8_2 jw_97 dX11_image_33 ?_
    refine jr_icmp_ge (t := 63) dX11_image_36 (by decide) hl2 (jl_n3_to _) (fun c6 => ?_) (fun c6 => ?_)
    · refine jr_iconst dX11_image_63 ?_
      refine jr_istore_n (lv := [(2, jl_vi (0 : Int)), (0, jl_vr G 0), (1, jl_vi l1)]) dX11_image_64 rfl (Nat.le_of_ble_eq_true rfl) rfl ?_
      refine jr_sub [1, 2, 0] rfl ?_
      exact jj_X11_image_L65 G jl_fu l1 (0 : Int) hl1 (jl_nlit rfl) s0
    · refine jr_aload_n dX11_image_39 0 rfl ?_
      refine jr_getk (i := 12) jc_11 jk_0 (by decide) (Nat.le_of_ble_eq_true rfl) jlk_0_12 jw_436 dX11_image_40 ?_
      refine jr_iload_n dX11_image_43 1 rfl ?_
      refine jr_iinc (j := 1) (lv := [(1, jl_vi (jl_add l1 1)), (0, jl_vr G 0), (2, jl_vi l2)]) dX11_image_44 rfl (Nat.le_of_ble_eq_true rfl) rfl ?_
      refine jr_aload_n dX11_image_47 1 rfl ?_
      refine jr_getk (i := 6) jc_11 jk_0 (by decide) (Nat.le_of_ble_eq_true rfl) jlk_0_6 jw_430 dX11_image_48 ?_
      refine jr_getkN (i := 2) jc_7 jk_40 (by decide) (Nat.le_of_ble_eq_true rfl) jlk_40_2 jw_247 dX11_image_51 ?_
      refine jr_iload_n dX11_image_54 2 rfl ?_
      refine jr_grd (fun g21 => ?_)
      refine jr_iaload jk_41 (by decide) hl2 g21 dX11_image_55 ?_
      refine jr_grd (fun g22 => ?_)
      refine jr_iastore jk_204 (by decide) hl1 g22 dX11_image_56 ?_
      refine jr_lm (fun s23 => ?_)
      refine jr_iinc (j := 2) (lv := [(2, jl_vi (jl_add l2 1)), (1, jl_vi (jl_add l1 1)), (0, jl_vr G 0)]) dX11_image_57 rfl (Nat.le_of_ble_eq_true rfl) rfl ?_
      refine jr_goto (t := 28) dX11_image_60 (by decide) ?_
      refine jr_sub [2, 1, 0] rfl ?_
      exact ih (jl_add l1 1) (jl_add l2 1) (jl_n3_to _) (jl_n3_to _) s23
def jf_X11_image (s0 : jl_Mm) : jl_O :=
  jl_bd (jf_X11_putPair (0 : Int) (jl_g s0 40 0) s0) fun r1 s2 => jl_bd (jf_X11_putPair (2 : Int) (jl_g s2 40 1) s2) fun r3 s4 => jf_X11_image_L28 jl_fu (4 : Int) (0 : Int) s4
set_option maxRecDepth 20000 in
set_option maxHeartbeats 2000000 in
theorem jt_X11_image (G : jl_GC) (s0 : jl_Mm) : jC2 G jM_X11_image [jl_vr G 0] s0 (jf_X11_image s0) := by
  refine jl_met (plainFor_of_name rfl) (Nat.le_of_ble_eq_true rfl) ?_
  show j2 G jM_X11_image 0 [(0, jl_vr G 0)] [] s0 _
  refine jr_aload_n dX11_image_0 0 rfl ?_
  refine jr_iconst dX11_image_1 ?_
  refine jr_aload_n dX11_image_2 0 rfl ?_
  refine jr_getk (i := 6) jc_11 jk_0 (by decide) (Nat.le_of_ble_eq_true rfl) jlk_0_6 jw_430 dX11_image_3 ?_
  refine jr_getiN (i := 0) jc_7 jk_40 (by decide) (Nat.le_of_ble_eq_true rfl) jlk_40_0 jft_7_0 jw_239 dX11_image_6 ?_
  refine j2_callVv (As := [jl_vi (0 : Int), jl_vi (jl_g s0 40 0)]) dX11_image_9 (jt_X11_putPair G (0 : Int) (jl_g s0 40 0) (jl_nlit rfl) (jl_n3_to _) s0) jv_X11_putPair ⟨rfl, rfl, rfl⟩ jw_1166 jk_0 (by decide) (by decide) rfl ⟨Nat.le_of_ble_eq_true rfl, Nat.le_of_ble_eq_true rfl⟩ rfl (Nat.le_of_ble_eq_true rfl) (fun r1 s2 hr1 => ?_)
  refine jr_aload_n dX11_image_12 0 rfl ?_
  refine jr_iconst dX11_image_13 ?_
  refine jr_aload_n dX11_image_14 0 rfl ?_
  refine jr_getk (i := 6) jc_11 jk_0 (by decide) (Nat.le_of_ble_eq_true rfl) jlk_0_6 jw_430 dX11_image_15 ?_
  refine jr_getiN (i := 1) jc_7 jk_40 (by decide) (Nat.le_of_ble_eq_true rfl) jlk_40_1 jft_7_1 jw_242 dX11_image_18 ?_
  refine j2_callVv (As := [jl_vi (2 : Int), jl_vi (jl_g s2 40 1)]) dX11_image_21 (jt_X11_putPair G (2 : Int) (jl_g s2 40 1) (jl_nlit rfl) (jl_n3_to _) s2) jv_X11_putPair ⟨rfl, rfl, rfl⟩ jw_1166 jk_0 (by decide) (by decide) rfl ⟨Nat.le_of_ble_eq_true rfl, Nat.le_of_ble_eq_true rfl⟩ rfl (Nat.le_of_ble_eq_true rfl) (fun r3 s4 hr3 => ?_)
  refine jr_iconst dX11_image_24 ?_
  refine jr_istore_n (lv := [(1, jl_vi (4 : Int)), (0, jl_vr G 0)]) dX11_image_25 rfl (Nat.le_of_ble_eq_true rfl) rfl ?_
  refine jr_iconst dX11_image_26 ?_
  refine jr_istore_n (lv := [(2, jl_vi (0 : Int)), (1, jl_vi (4 : Int)), (0, jl_vr G 0)]) dX11_image_27 rfl (Nat.le_of_ble_eq_true rfl) rfl ?_
  refine jr_sub [2, 1, 0] rfl ?_
  exact jj_X11_image_L28 G jl_fu (4 : Int) (0 : Int) (jl_nlit rfl) (jl_nlit rfl) s4
def jf_X11_octet_B22 (k0 : Int) (s0 : jl_Mm) : jl_O :=
  some (k0, s0)
set_option maxRecDepth 20000 in
set_option maxHeartbeats 2000000 in
theorem jj_X11_octet_B22 (G : jl_GC) (k0 : Int) (hk0 : jl_n3 k0) (s0 : jl_Mm) : j2 G jM_X11_octet 22 [] [jl_vi k0] s0 (jf_X11_octet_B22 k0 s0) := by
  exact jr_ret_i rfl hk0 dX11_octet_22
def jf_X11_octet_B21 (s0 : jl_Mm) : jl_O :=
  jf_X11_octet_B22 (-1 : Int) s0
set_option maxRecDepth 20000 in
set_option maxHeartbeats 2000000 in
theorem jj_X11_octet_B21 (G : jl_GC) (s0 : jl_Mm) : j2 G jM_X11_octet 21 [] [] s0 (jf_X11_octet_B21 s0) := by
  refine jr_iconst dX11_octet_21 ?_
  exact jj_X11_octet_B22 G (-1 : Int) (jl_nlit rfl) s0
def jf_X11_octet (v1 : Int) (s0 : jl_Mm) : jl_O :=
  if v1 < (0 : Int) then (jf_X11_octet_B21 s0) else (if jl_g s0 0 13 ≤ v1 then (jf_X11_octet_B21 s0) else (if 0 ≤ v1 ∧ v1 < ((27 : Nat) : Int) then jf_X11_octet_B22 (jl_g s0 204 (v1).toNat) s0 else none))
set_option maxRecDepth 20000 in
set_option maxHeartbeats 2000000 in
theorem jt_X11_octet (G : jl_GC) (v1 : Int) (h1 : jl_n3 v1) (s0 : jl_Mm) : jC2 G jM_X11_octet [jl_vr G 0, jl_vi v1] s0 (jf_X11_octet v1 s0) := by
  refine jl_met (plainFor_of_name rfl) (Nat.le_of_ble_eq_true rfl) ?_
  show j2 G jM_X11_octet 0 [(0, jl_vr G 0), (1, jl_vi v1)] [] s0 _
  refine jr_iload_n dX11_octet_0 1 rfl ?_
  refine jr_if_lt (t := 21) dX11_octet_1 (by decide) h1 (fun c1 => ?_) (fun c1 => ?_)
  · refine jr_sub [] rfl ?_
    exact jj_X11_octet_B21 G s0
  · refine jr_iload_n dX11_octet_4 1 rfl ?_
    refine jr_aload_n dX11_octet_5 0 rfl ?_
    refine jr_geti (i := 13) jc_11 jk_0 (by decide) (Nat.le_of_ble_eq_true rfl) jlk_0_13 jft_11_13 jw_437 dX11_octet_6 ?_
    refine jr_icmp_ge (t := 21) dX11_octet_9 (by decide) h1 (jl_n3_to _) (fun c2 => ?_) (fun c2 => ?_)
    · refine jr_sub [] rfl ?_
      exact jj_X11_octet_B21 G s0
    · refine jr_aload_n dX11_octet_12 0 rfl ?_
      refine jr_getk (i := 12) jc_11 jk_0 (by decide) (Nat.le_of_ble_eq_true rfl) jlk_0_12 jw_436 dX11_octet_13 ?_
      refine jr_iload_n dX11_octet_16 1 rfl ?_
      refine jr_grd (fun g3 => ?_)
      refine jr_iaload jk_204 (by decide) h1 g3 dX11_octet_17 ?_
      refine jr_goto (t := 22) dX11_octet_18 (by decide) ?_
      refine jr_sub [] rfl ?_
      exact jj_X11_octet_B22 G (jl_g s0 204 (v1).toNat) (jl_n3_to _) s0
def jf_X10_pairAt (v1 : Int) (s0 : jl_Mm) : jl_O :=
  jl_bd (jf_X10_byteAt v1 s0) fun r1 s2 => jl_bd (jf_X10_byteAt (jl_add v1 (1 : Int)) s2) fun r3 s4 => some (jl_or (jl_shl r1 (8 : Int)) r3, s4)
set_option maxRecDepth 20000 in
set_option maxHeartbeats 2000000 in
theorem jt_X10_pairAt (G : jl_GC) (v1 : Int) (h1 : jl_n3 v1) (s0 : jl_Mm) : jC2 G jM_X10_pairAt [jl_vr G 1, jl_vi v1] s0 (jf_X10_pairAt v1 s0) := by
  refine jl_met (plainFor_of_name rfl) (Nat.le_of_ble_eq_true rfl) ?_
  show j2 G jM_X10_pairAt 0 [(0, jl_vr G 1), (1, jl_vi v1)] [] s0 _
  refine jr_aload_n dX10_pairAt_0 0 rfl ?_
  refine jr_iload_n dX10_pairAt_1 1 rfl ?_
  refine j2_callVi (As := [jl_vi v1]) dX10_pairAt_2 (jt_X10_byteAt G v1 h1 s0) jv_X10_byteAt ⟨rfl, rfl, rfl⟩ jw_1186 jk_1 (by decide) (by decide) rfl ⟨Nat.le_of_ble_eq_true rfl, Nat.le_of_ble_eq_true rfl⟩ rfl (Nat.le_of_ble_eq_true rfl) (fun r1 s2 hr1 => ?_)
  refine jr_bipush dX10_pairAt_5 (by decide) ?_
  refine jr_ishl dX10_pairAt_7 ?_
  refine jr_aload_n dX10_pairAt_8 0 rfl ?_
  refine jr_iload_n dX10_pairAt_9 1 rfl ?_
  refine jr_iconst dX10_pairAt_10 ?_
  refine jr_iadd dX10_pairAt_11 ?_
  refine j2_callVi (As := [jl_vi (jl_add v1 (1 : Int))]) dX10_pairAt_12 (jt_X10_byteAt G (jl_add v1 (1 : Int)) (jl_n3_to _) s2) jv_X10_byteAt ⟨rfl, rfl, rfl⟩ jw_1186 jk_1 (by decide) (by decide) rfl ⟨Nat.le_of_ble_eq_true rfl, Nat.le_of_ble_eq_true rfl⟩ rfl (Nat.le_of_ble_eq_true rfl) (fun r3 s4 hr3 => ?_)
  refine jr_ior dX10_pairAt_15 ?_
  exact jr_ret_i rfl (jl_n3_to _) dX10_pairAt_16
def jf_X11_isPicture_B61 (s0 : jl_Mm) : jl_O :=
  jl_zb (0 : Int) s0
set_option maxRecDepth 20000 in
set_option maxHeartbeats 2000000 in
theorem jj_X11_isPicture_B61 (G : jl_GC) (s0 : jl_Mm) : j2 G jM_X11_isPicture 61 [] [] s0 (jf_X11_isPicture_B61 s0) := by
  refine jr_iconst dX11_isPicture_61 ?_
  exact jr_ret_z rfl dX11_isPicture_62
def jf_X11_isPicture_B224 (k0 : Int) (s0 : jl_Mm) : jl_O :=
  jl_zb k0 s0
set_option maxRecDepth 20000 in
set_option maxHeartbeats 2000000 in
theorem jj_X11_isPicture_B224 (G : jl_GC) (k0 : Int) (hk0 : jl_n3 k0) (s0 : jl_Mm) : j2 G jM_X11_isPicture 224 [] [jl_vi k0] s0 (jf_X11_isPicture_B224 k0 s0) := by
  exact jr_ret_z rfl dX11_isPicture_224
def jf_X11_isPicture_B199 (s0 : jl_Mm) : jl_O :=
  jl_zb (0 : Int) s0
set_option maxRecDepth 20000 in
set_option maxHeartbeats 2000000 in
theorem jj_X11_isPicture_B199 (G : jl_GC) (s0 : jl_Mm) : j2 G jM_X11_isPicture 199 [] [] s0 (jf_X11_isPicture_B199 s0) := by
  refine jr_iconst dX11_isPicture_199 ?_
  exact jr_ret_z rfl dX11_isPicture_200
def jf_X11_isPicture_B201 (R148 : Int → Int → Int → jl_Mm → jl_O) (l1 : Int) (l2 : Int) (l3 : Int) (s0 : jl_Mm) : jl_O :=
  R148 l1 l2 (jl_add l3 2) s0
set_option maxRecDepth 20000 in
set_option maxHeartbeats 2000000 in
theorem jj_X11_isPicture_B201 (G : jl_GC) (R148 : Int → Int → Int → jl_Mm → jl_O) (hR148 : ∀ (l1 : Int) (l2 : Int) (l3 : Int) (_hl1 : jl_n3 l1) (_hl2 : jl_n3 l2) (_hl3 : jl_n3 l3) (s0 : jl_Mm), j2 G jM_X11_isPicture 148 [(0, jl_vr G 0), (1, jl_vi l1), (2, jl_vi l2), (3, jl_vi l3)] [] s0 (R148 l1 l2 l3 s0)) (l1 : Int) (l2 : Int) (l3 : Int) (hl1 : jl_n3 l1) (hl2 : jl_n3 l2) (hl3 : jl_n3 l3) (s0 : jl_Mm) : j2 G jM_X11_isPicture 201 [(0, jl_vr G 0), (1, jl_vi l1), (2, jl_vi l2), (3, jl_vi l3)] [] s0 (jf_X11_isPicture_B201 R148 l1 l2 l3 s0) := by
  refine jr_iinc (j := 3) (lv := [(3, jl_vi (jl_add l3 2)), (0, jl_vr G 0), (1, jl_vi l1), (2, jl_vi l2)]) dX11_isPicture_201 rfl (Nat.le_of_ble_eq_true rfl) rfl ?_
  refine jr_goto (t := 148) dX11_isPicture_204 (by decide) ?_
  refine jr_sub [1, 2, 3, 0] rfl ?_
  exact hR148 l1 l2 (jl_add l3 2) hl1 hl2 (jl_n3_to _) s0
def jf_X11_isPicture_L148 : Nat → Int → Int → Int → jl_Mm → jl_O
  | 0, _, _, _, _ => none
  | n + 1, l1, l2, l3, s0 =>
    if l1 ≤ l3 then (jl_bd (jf_X10_byteAt l1 s0) fun r17 s18 => if r17 = l2 then (jf_X11_isPicture_B224 (1 : Int) s18) else (jf_X11_isPicture_B224 (0 : Int) s18)) else (jl_bd (jf_X10_byteAt l3 s0) fun r20 s21 => jl_bd (jf_X10_byteAt (jl_add l3 (1 : Int)) s21) fun r22 s23 => if (99 : Int) < r20 then (jf_X11_isPicture_B199 s23) else (if (99 : Int) < r22 then (jf_X11_isPicture_B199 s23) else (if r20 = (0 : Int) then (if r22 ≤ (0 : Int) then (jf_X11_isPicture_B201 (jf_X11_isPicture_L148 n) l1 l2 l3 s23) else (jf_X11_isPicture_B199 s23)) else (jf_X11_isPicture_B201 (jf_X11_isPicture_L148 n) l1 l2 l3 s23))))
set_option maxRecDepth 20000 in
set_option maxHeartbeats 2000000 in
theorem jj_X11_isPicture_L148 (G : jl_GC) : ∀ (n : Nat) (l1 : Int) (l2 : Int) (l3 : Int) (hl1 : jl_n3 l1) (hl2 : jl_n3 l2) (hl3 : jl_n3 l3) (s0 : jl_Mm), j2 G jM_X11_isPicture 148 [(0, jl_vr G 0), (1, jl_vi l1), (2, jl_vi l2), (3, jl_vi l3)] [] s0 (jf_X11_isPicture_L148 n l1 l2 l3 s0) := by
  intro n
  induction n with
  | zero =>
    intros
    exact jr_none
  | succ n ih =>
    intro l1 l2 l3 hl1 hl2 hl3 s0
    refine jr_iload_n dX11_isPicture_148 3 rfl ?_
    refine jr_iload_n dX11_isPicture_149 1 rfl ?_
    refine jr_icmp_ge (t := 207) dX11_isPicture_150 (by decide) hl3 hl1 (fun c16 => ?_) (fun c16 => ?_)
    · refine jr_aload_n dX11_isPicture_207 0 rfl ?_
      refine jr_getk (i := 0) jc_11 jk_0 (by decide) (Nat.le_of_ble_eq_true rfl) jlk_0_0 jw_424 dX11_isPicture_208 ?_
      refine jr_iload_n dX11_isPicture_211 1 rfl ?_
      refine j2_callVi (As := [jl_vi l1]) dX11_isPicture_212 (jt_X10_byteAt G l1 hl1 s0) jv_X10_byteAt ⟨rfl, rfl, rfl⟩ jw_1187 jk_1 (by decide) (by decide) rfl ⟨Nat.le_of_ble_eq_true rfl, Nat.le_of_ble_eq_true rfl⟩ rfl (Nat.le_of_ble_eq_true rfl) (fun r17 s18 hr17 => ?_)
      refine jr_iload_n dX11_isPicture_215 2 rfl ?_
      refine jr_icmp_ne (t := 223) dX11_isPicture_216 (by decide) hr17 hl2 (fun c19 => ?_) (fun c19 => ?_)
      · refine jr_iconst dX11_isPicture_219 ?_
        refine jr_goto (t := 224) dX11_isPicture_220 (by decide) ?_
        refine jr_sub [] rfl ?_
        exact jj_X11_isPicture_B224 G (1 : Int) (jl_nlit rfl) s18
      · refine jr_iconst dX11_isPicture_223 ?_
        refine jr_sub [] rfl ?_
        exact jj_X11_isPicture_B224 G (0 : Int) (jl_nlit rfl) s18
    · refine jr_aload_n dX11_isPicture_153 0 rfl ?_
      refine jr_getk (i := 0) jc_11 jk_0 (by decide) (Nat.le_of_ble_eq_true rfl) jlk_0_0 jw_424 dX11_isPicture_154 ?_
      refine jr_iload_n dX11_isPicture_157 3 rfl ?_
      refine j2_callVi (As := [jl_vi l3]) dX11_isPicture_158 (jt_X10_byteAt G l3 hl3 s0) jv_X10_byteAt ⟨rfl, rfl, rfl⟩ jw_1187 jk_1 (by decide) (by decide) rfl ⟨Nat.le_of_ble_eq_true rfl, Nat.le_of_ble_eq_true rfl⟩ rfl (Nat.le_of_ble_eq_true rfl) (fun r20 s21 hr20 => ?_)
      refine jr_istore (lv := [(4, jl_vi r20), (0, jl_vr G 0), (1, jl_vi l1), (2, jl_vi l2), (3, jl_vi l3)]) dX11_isPicture_161 (Nat.le_of_ble_eq_true rfl) rfl ?_
      refine jr_aload_n dX11_isPicture_163 1 rfl ?_
      refine jr_getk (i := 0) jc_11 jk_0 (by decide) (Nat.le_of_ble_eq_true rfl) jlk_0_0 jw_424 dX11_isPicture_164 ?_
      refine jr_iload_n dX11_isPicture_167 4 rfl ?_
      refine jr_iconst dX11_isPicture_168 ?_
      refine jr_iadd dX11_isPicture_169 ?_
      refine j2_callVi (As := [jl_vi (jl_add l3 (1 : Int))]) dX11_isPicture_170 (jt_X10_byteAt G (jl_add l3 (1 : Int)) (jl_n3_to _) s21) jv_X10_byteAt ⟨rfl, rfl, rfl⟩ jw_1187 jk_1 (by decide) (by decide) rfl ⟨Nat.le_of_ble_eq_true rfl, Nat.le_of_ble_eq_true rfl⟩ rfl (Nat.le_of_ble_eq_true rfl) (fun r22 s23 hr22 => ?_)
      refine jr_istore (lv := [(5, jl_vi r22), (4, jl_vi r20), (0, jl_vr G 0), (1, jl_vi l1), (2, jl_vi l2), (3, jl_vi l3)]) dX11_isPicture_173 (Nat.le_of_ble_eq_true rfl) rfl ?_
      refine jr_iload dX11_isPicture_175 1 rfl ?_
      refine jr_bipush dX11_isPicture_177 (by decide) ?_
      refine jr_icmp_gt (t := 199) dX11_isPicture_179 (by decide) hr20 (jl_nlit rfl) (fun c24 => ?_) (fun c24 => ?_)
      · refine jr_sub [] rfl ?_
        exact jj_X11_isPicture_B199 G s23
      · refine jr_iload dX11_isPicture_182 0 rfl ?_
        refine jr_bipush dX11_isPicture_184 (by decide) ?_
        refine jr_icmp_gt (t := 199) dX11_isPicture_186 (by decide) hr22 (jl_nlit rfl) (fun c25 => ?_) (fun c25 => ?_)
        · refine jr_sub [] rfl ?_
          exact jj_X11_isPicture_B199 G s23
        · refine jr_iload dX11_isPicture_189 1 rfl ?_
          refine jr_if_ne (t := 201) dX11_isPicture_191 (by decide) hr20 (fun c26 => ?_) (fun c26 => ?_)
          · refine jr_iload dX11_isPicture_194 0 rfl ?_
            refine jr_if_le (t := 201) dX11_isPicture_196 (by decide) hr22 (fun c27 => ?_) (fun c27 => ?_)
            · refine jr_sub [2, 3, 4, 5] rfl ?_
              exact jj_X11_isPicture_B201 G (jf_X11_isPicture_L148 n) (ih) l1 l2 l3 hl1 hl2 hl3 s23
            · refine jr_sub [] rfl ?_
              exact jj_X11_isPicture_B199 G s23
          · refine jr_sub [2, 3, 4, 5] rfl ?_
            exact jj_X11_isPicture_B201 G (jf_X11_isPicture_L148 n) (ih) l1 l2 l3 hl1 hl2 hl3 s23
def jf_X11_isPicture_L99 : Nat → Int → Int → Int → jl_Mm → jl_O
  | 0, _, _, _, _ => none
  | n + 1, l1, l2, l3, s0 =>
    if 0 ≤ s0 0 2 ∧ (jl_kd (jl_gr s0 0 2)).1 = 8 then if jl_g s0 (jl_gr s0 0 2) 2 ≤ l3 then (if 0 ≤ s0 0 2 ∧ (jl_kd (jl_gr s0 0 2)).1 = 8 then jl_let (jl_add (4 : Int) (jl_g s0 (jl_gr s0 0 2) 2)) fun x15 => jf_X11_isPicture_L148 jl_fu l1 l2 x15 s0 else none) else (jl_bd (jf_X10_byteAt (jl_add (4 : Int) l3) s0) fun r28 s29 => if 0 ≤ s29 0 2 ∧ (jl_kd (jl_gr s29 0 2)).1 = 8 then if r28 < jl_g s29 (jl_gr s29 0 2) 1 then (jf_X11_isPicture_L99 n l1 l2 (jl_add l3 1) s29) else (jl_zb (0 : Int) s29) else none) else none
set_option maxRecDepth 20000 in
set_option maxHeartbeats 2000000 in
theorem jj_X11_isPicture_L99 (G : jl_GC) : ∀ (n : Nat) (l1 : Int) (l2 : Int) (l3 : Int) (hl1 : jl_n3 l1) (hl2 : jl_n3 l2) (hl3 : jl_n3 l3) (s0 : jl_Mm), j2 G jM_X11_isPicture 99 [(0, jl_vr G 0), (1, jl_vi l1), (2, jl_vi l2), (3, jl_vi l3)] [] s0 (jf_X11_isPicture_L99 n l1 l2 l3 s0) := by
  intro n
  induction n with
  | zero =>
    intros
    exact jr_none
  | succ n ih =>
    intro l1 l2 l3 hl1 hl2 hl3 s0
    refine jr_iload_n dX11_isPicture_99 3 rfl ?_
    refine jr_aload_n dX11_isPicture_100 0 rfl ?_
    refine jr_grd (fun g12 => ?_)
    refine jr_getr (i := 2) jc_11 jk_0 (by decide) (Nat.le_of_ble_eq_true rfl) jlk_0_2 jft_11_2 g12.1 jw_426 dX11_isPicture_101 ?_
    refine jr_getiN (i := 2) jc_8 (jl_kd1 g12.2) (jl_kdlt g12.2 (by decide)) (Nat.le_of_ble_eq_true rfl) (js8n_2 g12.2) jft_8_2 jw_97 dX11_isPicture_104 ?_
    refine jr_icmp_ge (t := 138) dX11_isPicture_107 (by decide) hl3 (jl_n3_to _) (fun c13 => ?_) (fun c13 => ?_)
    · refine jr_iconst dX11_isPicture_138 ?_
      refine jr_aload_n dX11_isPicture_139 0 rfl ?_
      refine jr_grd (fun g14 => ?_)
      refine jr_getr (i := 2) jc_11 jk_0 (by decide) (Nat.le_of_ble_eq_true rfl) jlk_0_2 jft_11_2 g14.1 jw_426 dX11_isPicture_140 ?_
      refine jr_getiN (i := 2) jc_8 (jl_kd1 g14.2) (jl_kdlt g14.2 (by decide)) (Nat.le_of_ble_eq_true rfl) (js8n_2 g14.2) jft_8_2 jw_97 dX11_isPicture_143 ?_
      refine jr_iadd dX11_isPicture_146 ?_
      refine jr_let (jl_n3_to _) (fun x15 hx15 => ?_)
      refine jr_istore_n (lv := [(3, jl_vi x15), (0, jl_vr G 0), (1, jl_vi l1), (2, jl_vi l2)]) dX11_isPicture_147 rfl (Nat.le_of_ble_eq_true rfl) rfl ?_
      refine jr_sub [1, 2, 3, 0] rfl ?_
      exact jj_X11_isPicture_L148 G jl_fu l1 l2 x15 hl1 hl2 hx15 s0
    · refine jr_aload_n dX11_isPicture_110 0 rfl ?_
      refine jr_getk (i := 0) jc_11 jk_0 (by decide) (Nat.le_of_ble_eq_true rfl) jlk_0_0 jw_424 dX11_isPicture_111 ?_
      refine jr_iconst dX11_isPicture_114 ?_
      refine jr_iload_n dX11_isPicture_115 3 rfl ?_
      refine jr_iadd dX11_isPicture_116 ?_
      refine j2_callVi (As := [jl_vi (jl_add (4 : Int) l3)]) dX11_isPicture_117 (jt_X10_byteAt G (jl_add (4 : Int) l3) (jl_n3_to _) s0) jv_X10_byteAt ⟨rfl, rfl, rfl⟩ jw_1187 jk_1 (by decide) (by decide) rfl ⟨Nat.le_of_ble_eq_true rfl, Nat.le_of_ble_eq_true rfl⟩ rfl (Nat.le_of_ble_eq_true rfl) (fun r28 s29 hr28 => ?_)
      refine jr_aload_n dX11_isPicture_120 0 rfl ?_
      refine jr_grd (fun g30 => ?_)
      refine jr_getr (i := 2) jc_11 jk_0 (by decide) (Nat.le_of_ble_eq_true rfl) jlk_0_2 jft_11_2 g30.1 jw_426 dX11_isPicture_121 ?_
      refine jr_getiN (i := 1) jc_8 (jl_kd1 g30.2) (jl_kdlt g30.2 (by decide)) (Nat.le_of_ble_eq_true rfl) (js8n_1 g30.2) jft_8_1 jw_91 dX11_isPicture_124 ?_
      refine jr_icmp_lt (t := 132) dX11_isPicture_127 (by decide) hr28 (jl_n3_to _) (fun c31 => ?_) (fun c31 => ?_)
      · refine jr_iinc (j := 3) (lv := [(3, jl_vi (jl_add l3 1)), (0, jl_vr G 0), (1, jl_vi l1), (2, jl_vi l2)]) dX11_isPicture_132 rfl (Nat.le_of_ble_eq_true rfl) rfl ?_
        refine jr_goto (t := 99) dX11_isPicture_135 (by decide) ?_
        refine jr_sub [1, 2, 3, 0] rfl ?_
        exact ih l1 l2 (jl_add l3 1) hl1 hl2 (jl_n3_to _) s29
      · refine jr_iconst dX11_isPicture_130 ?_
        exact jr_ret_z rfl dX11_isPicture_131
def jf_X11_isPicture_L69 : Nat → Int → Int → Int → jl_Mm → jl_O
  | 0, _, _, _, _ => none
  | n + 1, l1, l2, l3, s0 =>
    if l1 ≤ l3 then (jf_X11_isPicture_L99 jl_fu l1 l2 (0 : Int) s0) else (jl_bd (jf_X10_byteAt l3 s0) fun r32 s33 => jl_let (jl_rem (jl_add (jl_mul (3 : Int) l2) r32) (251 : Int)) fun x34 => jf_X11_isPicture_L69 n l1 x34 (jl_add l3 1) s33)
set_option maxRecDepth 20000 in
set_option maxHeartbeats 2000000 in
theorem jj_X11_isPicture_L69 (G : jl_GC) : ∀ (n : Nat) (l1 : Int) (l2 : Int) (l3 : Int) (hl1 : jl_n3 l1) (hl2 : jl_n3 l2) (hl3 : jl_n3 l3) (s0 : jl_Mm), j2 G jM_X11_isPicture 69 [(0, jl_vr G 0), (1, jl_vi l1), (2, jl_vi l2), (3, jl_vi l3)] [] s0 (jf_X11_isPicture_L69 n l1 l2 l3 s0) := by
  intro n
  induction n with
  | zero =>
    intros
    exact jr_none
  | succ n ih =>
    intro l1 l2 l3 hl1 hl2 hl3 s0
    refine jr_iload_n dX11_isPicture_69 3 rfl ?_
    refine jr_iload_n dX11_isPicture_70 1 rfl ?_
    refine jr_icmp_ge (t := 97) dX11_isPicture_71 (by decide) hl3 hl1 (fun c11 => ?_) (fun c11 => ?_)
    · refine jr_iconst dX11_isPicture_97 ?_
      refine jr_istore_n (lv := [(3, jl_vi (0 : Int)), (0, jl_vr G 0), (1, jl_vi l1), (2, jl_vi l2)]) dX11_isPicture_98 rfl (Nat.le_of_ble_eq_true rfl) rfl ?_
      refine jr_sub [1, 2, 3, 0] rfl ?_
      exact jj_X11_isPicture_L99 G jl_fu l1 l2 (0 : Int) hl1 hl2 (jl_nlit rfl) s0
    · refine jr_iconst dX11_isPicture_74 ?_
      refine jr_iload_n dX11_isPicture_75 2 rfl ?_
      refine jr_imul dX11_isPicture_76 ?_
      refine jr_aload_n dX11_isPicture_77 0 rfl ?_
      refine jr_getk (i := 0) jc_11 jk_0 (by decide) (Nat.le_of_ble_eq_true rfl) jlk_0_0 jw_424 dX11_isPicture_78 ?_
      refine jr_iload_n dX11_isPicture_81 3 rfl ?_
      refine j2_callVi (As := [jl_vi l3]) dX11_isPicture_82 (jt_X10_byteAt G l3 hl3 s0) jv_X10_byteAt ⟨rfl, rfl, rfl⟩ jw_1187 jk_1 (by decide) (by decide) rfl ⟨Nat.le_of_ble_eq_true rfl, Nat.le_of_ble_eq_true rfl⟩ rfl (Nat.le_of_ble_eq_true rfl) (fun r32 s33 hr32 => ?_)
      refine jr_iadd dX11_isPicture_85 ?_
      refine jr_sipush dX11_isPicture_86 (by decide) ?_
      refine jr_irem dX11_isPicture_89 (jl_nlit rfl) (by decide) ?_
      refine jr_let (jl_n3_to _) (fun x34 hx34 => ?_)
      refine jr_istore_n (lv := [(2, jl_vi x34), (0, jl_vr G 0), (1, jl_vi l1), (3, jl_vi l3)]) dX11_isPicture_90 rfl (Nat.le_of_ble_eq_true rfl) rfl ?_
      refine jr_iinc (j := 3) (lv := [(3, jl_vi (jl_add l3 1)), (2, jl_vi x34), (0, jl_vr G 0), (1, jl_vi l1)]) dX11_isPicture_91 rfl (Nat.le_of_ble_eq_true rfl) rfl ?_
      refine jr_goto (t := 69) dX11_isPicture_94 (by decide) ?_
      refine jr_sub [2, 3, 1, 0] rfl ?_
      exact ih l1 x34 (jl_add l3 1) hl1 hx34 (jl_n3_to _) s33
def jf_X11_isPicture (s0 : jl_Mm) : jl_O :=
  if 0 ≤ s0 0 2 ∧ (jl_kd (jl_gr s0 0 2)).1 = 8 then if 0 ≤ s0 0 2 ∧ (jl_kd (jl_gr s0 0 2)).1 = 8 then jl_let (jl_add (jl_add (4 : Int) (jl_g s0 (jl_gr s0 0 2) 2)) (jl_mul (2 : Int) (jl_g s0 (jl_gr s0 0 2) 3))) fun x3 => if jl_g s0 1 1 = jl_add x3 (1 : Int) then (jl_bd (jf_X10_pairAt (0 : Int) s0) fun r5 s6 => if (999 : Int) < r5 then (jf_X11_isPicture_B61 s6) else (jl_bd (jf_X10_pairAt (2 : Int) s6) fun r8 s9 => if r8 ≤ (999 : Int) then (jf_X11_isPicture_L69 jl_fu x3 (167 : Int) (0 : Int) s9) else (jf_X11_isPicture_B61 s9))) else (jf_X11_isPicture_B61 s0) else none else none
set_option maxRecDepth 20000 in
set_option maxHeartbeats 2000000 in
theorem jt_X11_isPicture (G : jl_GC) (s0 : jl_Mm) : jC2 G jM_X11_isPicture [jl_vr G 0] s0 (jf_X11_isPicture s0) := by
  refine jl_met (plainFor_of_name rfl) (Nat.le_of_ble_eq_true rfl) ?_
  show j2 G jM_X11_isPicture 0 [(0, jl_vr G 0)] [] s0 _
  refine jr_iconst dX11_isPicture_0 ?_
  refine jr_aload_n dX11_isPicture_1 0 rfl ?_
  refine jr_grd (fun g1 => ?_)
  refine jr_getr (i := 2) jc_11 jk_0 (by decide) (Nat.le_of_ble_eq_true rfl) jlk_0_2 jft_11_2 g1.1 jw_426 dX11_isPicture_2 ?_
  refine jr_getiN (i := 2) jc_8 (jl_kd1 g1.2) (jl_kdlt g1.2 (by decide)) (Nat.le_of_ble_eq_true rfl) (js8n_2 g1.2) jft_8_2 jw_97 dX11_isPicture_5 ?_
  refine jr_iadd dX11_isPicture_8 ?_
  refine jr_iconst dX11_isPicture_9 ?_
  refine jr_aload_n dX11_isPicture_10 0 rfl ?_
  refine jr_grd (fun g2 => ?_)
  refine jr_getr (i := 2) jc_11 jk_0 (by decide) (Nat.le_of_ble_eq_true rfl) jlk_0_2 jft_11_2 g2.1 jw_426 dX11_isPicture_11 ?_
  refine jr_getiN (i := 3) jc_8 (jl_kd1 g2.2) (jl_kdlt g2.2 (by decide)) (Nat.le_of_ble_eq_true rfl) (js8n_3 g2.2) jft_8_3 jw_104 dX11_isPicture_14 ?_
  refine jr_imul dX11_isPicture_17 ?_
  refine jr_iadd dX11_isPicture_18 ?_
  refine jr_let (jl_n3_to _) (fun x3 hx3 => ?_)
  refine jr_istore_n (lv := [(1, jl_vi x3), (0, jl_vr G 0)]) dX11_isPicture_19 rfl (Nat.le_of_ble_eq_true rfl) rfl ?_
  refine jr_aload_n dX11_isPicture_20 1 rfl ?_
  refine jr_getk (i := 0) jc_11 jk_0 (by decide) (Nat.le_of_ble_eq_true rfl) jlk_0_0 jw_424 dX11_isPicture_21 ?_
  refine jr_getiN (i := 1) jc_10 jk_1 (by decide) (Nat.le_of_ble_eq_true rfl) jlk_1_1 jft_10_1 jw_40 dX11_isPicture_24 ?_
  refine jr_iload_n dX11_isPicture_27 0 rfl ?_
  refine jr_iconst dX11_isPicture_28 ?_
  refine jr_iadd dX11_isPicture_29 ?_
  refine jr_icmp_ne (t := 61) dX11_isPicture_30 (by decide) (jl_n3_to _) (jl_n3_to _) (fun c4 => ?_) (fun c4 => ?_)
  · refine jr_aload_n dX11_isPicture_33 1 rfl ?_
    refine jr_getk (i := 0) jc_11 jk_0 (by decide) (Nat.le_of_ble_eq_true rfl) jlk_0_0 jw_424 dX11_isPicture_34 ?_
    refine jr_iconst dX11_isPicture_37 ?_
    refine j2_callVi (As := [jl_vi (0 : Int)]) dX11_isPicture_38 (jt_X10_pairAt G (0 : Int) (jl_nlit rfl) s0) jv_X10_pairAt ⟨rfl, rfl, rfl⟩ jw_1182 jk_1 (by decide) (by decide) rfl ⟨Nat.le_of_ble_eq_true rfl, Nat.le_of_ble_eq_true rfl⟩ rfl (Nat.le_of_ble_eq_true rfl) (fun r5 s6 hr5 => ?_)
    refine jr_sipush dX11_isPicture_41 (by decide) ?_
    refine jr_icmp_gt (t := 61) dX11_isPicture_44 (by decide) hr5 (jl_nlit rfl) (fun c7 => ?_) (fun c7 => ?_)
    · refine jr_sub [] rfl ?_
      exact jj_X11_isPicture_B61 G s6
    · refine jr_aload_n dX11_isPicture_47 1 rfl ?_
      refine jr_getk (i := 0) jc_11 jk_0 (by decide) (Nat.le_of_ble_eq_true rfl) jlk_0_0 jw_424 dX11_isPicture_48 ?_
      refine jr_iconst dX11_isPicture_51 ?_
      refine j2_callVi (As := [jl_vi (2 : Int)]) dX11_isPicture_52 (jt_X10_pairAt G (2 : Int) (jl_nlit rfl) s6) jv_X10_pairAt ⟨rfl, rfl, rfl⟩ jw_1182 jk_1 (by decide) (by decide) rfl ⟨Nat.le_of_ble_eq_true rfl, Nat.le_of_ble_eq_true rfl⟩ rfl (Nat.le_of_ble_eq_true rfl) (fun r8 s9 hr8 => ?_)
      refine jr_sipush dX11_isPicture_55 (by decide) ?_
      refine jr_icmp_le (t := 63) dX11_isPicture_58 (by decide) hr8 (jl_nlit rfl) (fun c10 => ?_) (fun c10 => ?_)
      · refine jr_sipush dX11_isPicture_63 (by decide) ?_
        refine jr_istore_n (lv := [(2, jl_vi (167 : Int)), (1, jl_vi x3), (0, jl_vr G 0)]) dX11_isPicture_66 rfl (Nat.le_of_ble_eq_true rfl) rfl ?_
        refine jr_iconst dX11_isPicture_67 ?_
        refine jr_istore_n (lv := [(3, jl_vi (0 : Int)), (2, jl_vi (167 : Int)), (1, jl_vi x3), (0, jl_vr G 0)]) dX11_isPicture_68 rfl (Nat.le_of_ble_eq_true rfl) rfl ?_
        refine jr_sub [3, 2, 1, 0] rfl ?_
        exact jj_X11_isPicture_L69 G jl_fu x3 (167 : Int) (0 : Int) hx3 (jl_nlit rfl) (jl_nlit rfl) s9
      · refine jr_sub [] rfl ?_
        exact jj_X11_isPicture_B61 G s9
  · refine jr_sub [] rfl ?_
    exact jj_X11_isPicture_B61 G s0
def jf_X7_readPicture_L56 : Nat → Nat → Nat → Int → Int → jl_Mm → jl_O
  | 0, _, _, _, _, _ => none
  | n + 1, l0, l2, l3, l4, s0 =>
    if jl_g s0 l2 3 ≤ l4 then (some (0, s0)) else (jl_bd (jf_X10_byteAt l3 s0) fun r9 s10 => if 0 ≤ l4 ∧ l4 < ((8 : Nat) : Int) then jl_lm (jl_up s10 (l0 + 2) (l4).toNat r9) fun s12 => jl_bd (jf_X10_byteAt (jl_add l3 1) s12) fun r13 s14 => if 0 ≤ l4 ∧ l4 < ((8 : Nat) : Int) then jl_lm (jl_up s14 (l0 + 3) (l4).toNat r13) fun s16 => jf_X7_readPicture_L56 n l0 l2 (jl_add (jl_add l3 1) 1) (jl_add l4 1) s16 else none else none)
set_option maxRecDepth 20000 in
set_option maxHeartbeats 2000000 in
theorem jj_X7_readPicture_L56 (G : jl_GC) : ∀ (n : Nat) (l0 : Nat) (l2 : Nat) (l3 : Int) (l4 : Int) (hl0 : (jl_kd l0).1 = 7) (hl2 : (jl_kd l2).1 = 8) (hl3 : jl_n3 l3) (hl4 : jl_n3 l4) (s0 : jl_Mm), j2 G jM_X7_readPicture 56 [(0, jl_vr G l0), (1, jl_vr G 1), (2, jl_vr G l2), (3, jl_vi l3), (4, jl_vi l4)] [] s0 (jf_X7_readPicture_L56 n l0 l2 l3 l4 s0) := by
  intro n
  induction n with
  | zero =>
    intros
    exact jr_none
  | succ n ih =>
    intro l0 l2 l3 l4 hl0 hl2 hl3 hl4 s0
    refine jr_iload dX7_readPicture_56 4 rfl ?_
    refine jr_aload_n dX7_readPicture_58 2 rfl ?_
    refine jr_getiN (i := 3) jc_8 (jl_kd1 hl2) (jl_kdlt hl2 (by decide)) (Nat.le_of_ble_eq_true rfl) (js8n_3 hl2) jft_8_3 jw_102 dX7_readPicture_59 ?_
    refine jr_icmp_ge (t := 101) dX7_readPicture_62 (by decide) hl4 (jl_n3_to _) (fun c8 => ?_) (fun c8 => ?_)
    · exact jr_ret_v rfl dX7_readPicture_101
    · refine jr_aload_n dX7_readPicture_65 0 rfl ?_
      refine jr_getk (i := 3) jc_7 (jl_kd1 hl0) (jl_kdlt hl0 (by decide)) (Nat.le_of_ble_eq_true rfl) (js7_3 hl0) jw_248 dX7_readPicture_66 ?_
      refine jr_iload dX7_readPicture_69 4 rfl ?_
      refine jr_aload_n dX7_readPicture_71 1 rfl ?_
      refine jr_iload_n dX7_readPicture_72 3 rfl ?_
      refine jr_iinc (j := 3) (lv := [(3, jl_vi (jl_add l3 1)), (0, jl_vr G l0), (1, jl_vr G 1), (2, jl_vr G l2), (4, jl_vi l4)]) dX7_readPicture_73 rfl (Nat.le_of_ble_eq_true rfl) rfl ?_
      refine j2_callVi (As := [jl_vi l3]) dX7_readPicture_76 (jt_X10_byteAt G l3 hl3 s0) jv_X10_byteAt ⟨rfl, rfl, rfl⟩ jw_1193 jk_1 (by decide) (by decide) rfl ⟨Nat.le_of_ble_eq_true rfl, Nat.le_of_ble_eq_true rfl⟩ rfl (Nat.le_of_ble_eq_true rfl) (fun r9 s10 hr9 => ?_)
      refine jr_grd (fun g11 => ?_)
      refine jr_iastore (js7k_3 hl0) (jl_kdl (js7k_3 hl0) (by decide)) hl4 g11 dX7_readPicture_79 ?_
      refine jr_lm (fun s12 => ?_)
      refine jr_aload_n dX7_readPicture_80 1 rfl ?_
      refine jr_getk (i := 4) jc_7 (jl_kd1 hl0) (jl_kdlt hl0 (by decide)) (Nat.le_of_ble_eq_true rfl) (js7_4 hl0) jw_253 dX7_readPicture_81 ?_
      refine jr_iload dX7_readPicture_84 4 rfl ?_
      refine jr_aload_n dX7_readPicture_86 2 rfl ?_
      refine jr_iload_n dX7_readPicture_87 0 rfl ?_
      refine jr_iinc (j := 0) (lv := [(3, jl_vi (jl_add (jl_add l3 1) 1)), (0, jl_vr G l0), (1, jl_vr G 1), (2, jl_vr G l2), (4, jl_vi l4)]) dX7_readPicture_88 rfl (Nat.le_of_ble_eq_true rfl) rfl ?_
      refine j2_callVi (As := [jl_vi (jl_add l3 1)]) dX7_readPicture_91 (jt_X10_byteAt G (jl_add l3 1) (jl_n3_to _) s12) jv_X10_byteAt ⟨rfl, rfl, rfl⟩ jw_1193 jk_1 (by decide) (by decide) rfl ⟨Nat.le_of_ble_eq_true rfl, Nat.le_of_ble_eq_true rfl⟩ rfl (Nat.le_of_ble_eq_true rfl) (fun r13 s14 hr13 => ?_)
      refine jr_grd (fun g15 => ?_)
      refine jr_iastore (js7k_4 hl0) (jl_kdl (js7k_4 hl0) (by decide)) hl4 g15 dX7_readPicture_94 ?_
      refine jr_lm (fun s16 => ?_)
      refine jr_iinc (j := 4) (lv := [(4, jl_vi (jl_add l4 1)), (3, jl_vi (jl_add (jl_add l3 1) 1)), (0, jl_vr G l0), (1, jl_vr G 1), (2, jl_vr G l2)]) dX7_readPicture_95 rfl (Nat.le_of_ble_eq_true rfl) rfl ?_
      refine jr_goto (t := 56) dX7_readPicture_98 (by decide) ?_
      refine jr_sub [2, 3, 4, 1, 0] rfl ?_
      exact ih l0 l2 (jl_add (jl_add l3 1) 1) (jl_add l4 1) hl0 hl2 (jl_n3_to _) (jl_n3_to _) s16
def jf_X7_readPicture_L23 : Nat → Nat → Nat → Int → Int → jl_Mm → jl_O
  | 0, _, _, _, _, _ => none
  | n + 1, l0, l2, l3, l4, s0 =>
    if jl_g s0 l2 2 ≤ l4 then (jf_X7_readPicture_L56 jl_fu l0 l2 l3 (0 : Int) s0) else (jl_bd (jf_X10_byteAt l3 s0) fun r17 s18 => if 0 ≤ l4 ∧ l4 < ((6 : Nat) : Int) then jl_lm (jl_up s18 (l0 + 1) (l4).toNat r17) fun s20 => jf_X7_readPicture_L23 n l0 l2 (jl_add l3 1) (jl_add l4 1) s20 else none)
set_option maxRecDepth 20000 in
set_option maxHeartbeats 2000000 in
theorem jj_X7_readPicture_L23 (G : jl_GC) : ∀ (n : Nat) (l0 : Nat) (l2 : Nat) (l3 : Int) (l4 : Int) (hl0 : (jl_kd l0).1 = 7) (hl2 : (jl_kd l2).1 = 8) (hl3 : jl_n3 l3) (hl4 : jl_n3 l4) (s0 : jl_Mm), j2 G jM_X7_readPicture 23 [(0, jl_vr G l0), (1, jl_vr G 1), (2, jl_vr G l2), (3, jl_vi l3), (4, jl_vi l4)] [] s0 (jf_X7_readPicture_L23 n l0 l2 l3 l4 s0) := by
  intro n
  induction n with
  | zero =>
    intros
    exact jr_none
  | succ n ih =>
    intro l0 l2 l3 l4 hl0 hl2 hl3 hl4 s0
    refine jr_iload dX7_readPicture_23 4 rfl ?_
    refine jr_aload_n dX7_readPicture_25 2 rfl ?_
    refine jr_getiN (i := 2) jc_8 (jl_kd1 hl2) (jl_kdlt hl2 (by decide)) (Nat.le_of_ble_eq_true rfl) (js8n_2 hl2) jft_8_2 jw_95 dX7_readPicture_26 ?_
    refine jr_icmp_ge (t := 53) dX7_readPicture_29 (by decide) hl4 (jl_n3_to _) (fun c7 => ?_) (fun c7 => ?_)
    · refine jr_iconst dX7_readPicture_53 ?_
      refine jr_istore (lv := [(4, jl_vi (0 : Int)), (0, jl_vr G l0), (1, jl_vr G 1), (2, jl_vr G l2), (3, jl_vi l3)]) dX7_readPicture_54 (Nat.le_of_ble_eq_true rfl) rfl ?_
      refine jr_sub [1, 2, 3, 4, 0] rfl ?_
      exact jj_X7_readPicture_L56 G jl_fu l0 l2 l3 (0 : Int) hl0 hl2 hl3 (jl_nlit rfl) s0
    · refine jr_aload_n dX7_readPicture_32 0 rfl ?_
      refine jr_getk (i := 2) jc_7 (jl_kd1 hl0) (jl_kdlt hl0 (by decide)) (Nat.le_of_ble_eq_true rfl) (js7_2 hl0) jw_244 dX7_readPicture_33 ?_
      refine jr_iload dX7_readPicture_36 4 rfl ?_
      refine jr_aload_n dX7_readPicture_38 1 rfl ?_
      refine jr_iload_n dX7_readPicture_39 3 rfl ?_
      refine jr_iinc (j := 3) (lv := [(3, jl_vi (jl_add l3 1)), (0, jl_vr G l0), (1, jl_vr G 1), (2, jl_vr G l2), (4, jl_vi l4)]) dX7_readPicture_40 rfl (Nat.le_of_ble_eq_true rfl) rfl ?_
      refine j2_callVi (As := [jl_vi l3]) dX7_readPicture_43 (jt_X10_byteAt G l3 hl3 s0) jv_X10_byteAt ⟨rfl, rfl, rfl⟩ jw_1193 jk_1 (by decide) (by decide) rfl ⟨Nat.le_of_ble_eq_true rfl, Nat.le_of_ble_eq_true rfl⟩ rfl (Nat.le_of_ble_eq_true rfl) (fun r17 s18 hr17 => ?_)
      refine jr_grd (fun g19 => ?_)
      refine jr_iastore (js7k_2 hl0) (jl_kdl (js7k_2 hl0) (by decide)) hl4 g19 dX7_readPicture_46 ?_
      refine jr_lm (fun s20 => ?_)
      refine jr_iinc (j := 4) (lv := [(4, jl_vi (jl_add l4 1)), (3, jl_vi (jl_add l3 1)), (0, jl_vr G l0), (1, jl_vr G 1), (2, jl_vr G l2)]) dX7_readPicture_47 rfl (Nat.le_of_ble_eq_true rfl) rfl ?_
      refine jr_goto (t := 23) dX7_readPicture_50 (by decide) ?_
      refine jr_sub [2, 3, 4, 1, 0] rfl ?_
      exact ih l0 l2 (jl_add l3 1) (jl_add l4 1) hl0 hl2 (jl_n3_to _) (jl_n3_to _) s20
def jf_X7_readPicture (q0 : Nat) (q2 : Nat) (s0 : jl_Mm) : jl_O :=
  if (jl_kd q0).1 = 7 then if (jl_kd q2).1 = 8 then jl_bd (jf_X10_pairAt (0 : Int) s0) fun r1 s2 => jl_lm (jl_up s2 q0 0 r1) fun s3 => jl_bd (jf_X10_pairAt (2 : Int) s3) fun r4 s5 => jl_lm (jl_up s5 q0 1 r4) fun s6 => jf_X7_readPicture_L23 jl_fu q0 q2 (4 : Int) (0 : Int) s6 else none else none
set_option maxRecDepth 20000 in
set_option maxHeartbeats 2000000 in
theorem jt_X7_readPicture (G : jl_GC) (q0 : Nat) (q2 : Nat) (s0 : jl_Mm) : jC2 G jM_X7_readPicture [jl_vr G q0, jl_vr G 1, jl_vr G q2] s0 (jf_X7_readPicture q0 q2 s0) := by
  refine jl_met (plainFor_of_name rfl) (Nat.le_of_ble_eq_true rfl) ?_
  show j2 G jM_X7_readPicture 0 [(0, jl_vr G q0), (1, jl_vr G 1), (2, jl_vr G q2)] [] s0 _
  refine jr_grd (fun gp0 => ?_)
  refine jr_grd (fun gp2 => ?_)
  refine jr_aload_n dX7_readPicture_0 0 rfl ?_
  refine jr_aload_n dX7_readPicture_1 1 rfl ?_
  refine jr_iconst dX7_readPicture_2 ?_
  refine j2_callVi (As := [jl_vi (0 : Int)]) dX7_readPicture_3 (jt_X10_pairAt G (0 : Int) (jl_nlit rfl) s0) jv_X10_pairAt ⟨rfl, rfl, rfl⟩ jw_1192 jk_1 (by decide) (by decide) rfl ⟨Nat.le_of_ble_eq_true rfl, Nat.le_of_ble_eq_true rfl⟩ rfl (Nat.le_of_ble_eq_true rfl) (fun r1 s2 hr1 => ?_)
  refine jr_puti (i := 0) jc_7 (jl_kd1 gp0) (jl_kdlt gp0 (by decide)) (Nat.le_of_ble_eq_true rfl) (js7n_0 gp0) jft_7_0 rfl jw_237 rfl dX7_readPicture_6 ?_
  refine jr_lm (fun s3 => ?_)
  refine jr_aload_n dX7_readPicture_9 0 rfl ?_
  refine jr_aload_n dX7_readPicture_10 1 rfl ?_
  refine jr_iconst dX7_readPicture_11 ?_
  refine j2_callVi (As := [jl_vi (2 : Int)]) dX7_readPicture_12 (jt_X10_pairAt G (2 : Int) (jl_nlit rfl) s3) jv_X10_pairAt ⟨rfl, rfl, rfl⟩ jw_1192 jk_1 (by decide) (by decide) rfl ⟨Nat.le_of_ble_eq_true rfl, Nat.le_of_ble_eq_true rfl⟩ rfl (Nat.le_of_ble_eq_true rfl) (fun r4 s5 hr4 => ?_)
  refine jr_puti (i := 1) jc_7 (jl_kd1 gp0) (jl_kdlt gp0 (by decide)) (Nat.le_of_ble_eq_true rfl) (js7n_1 gp0) jft_7_1 rfl jw_241 rfl dX7_readPicture_15 ?_
  refine jr_lm (fun s6 => ?_)
  refine jr_iconst dX7_readPicture_18 ?_
  refine jr_istore_n (lv := [(3, jl_vi (4 : Int)), (0, jl_vr G q0), (1, jl_vr G 1), (2, jl_vr G q2)]) dX7_readPicture_19 rfl (Nat.le_of_ble_eq_true rfl) rfl ?_
  refine jr_iconst dX7_readPicture_20 ?_
  refine jr_istore (lv := [(4, jl_vi (0 : Int)), (3, jl_vi (4 : Int)), (0, jl_vr G q0), (1, jl_vr G 1), (2, jl_vr G q2)]) dX7_readPicture_21 (Nat.le_of_ble_eq_true rfl) rfl ?_
  refine jr_sub [2, 3, 4, 1, 0] rfl ?_
  exact jj_X7_readPicture_L23 G jl_fu q0 q2 (4 : Int) (0 : Int) gp0 gp2 (jl_nlit rfl) (jl_nlit rfl) s6
def jf_X11_on_B68 (k0 : Int) (s0 : jl_Mm) : jl_O :=
  jl_zb k0 s0
set_option maxRecDepth 20000 in
set_option maxHeartbeats 2000000 in
theorem jj_X11_on_B68 (G : jl_GC) (k0 : Int) (hk0 : jl_n3 k0) (s0 : jl_Mm) : j2 G jM_X11_on 68 [] [jl_vi k0] s0 (jf_X11_on_B68 k0 s0) := by
  exact jr_ret_z rfl dX11_on_68
def jf_X11_on_B63 (s0 : jl_Mm) : jl_O :=
  jf_X11_on_B68 (1 : Int) s0
set_option maxRecDepth 20000 in
set_option maxHeartbeats 2000000 in
theorem jj_X11_on_B63 (G : jl_GC) (s0 : jl_Mm) : j2 G jM_X11_on 63 [] [] s0 (jf_X11_on_B63 s0) := by
  refine jr_iconst dX11_on_63 ?_
  refine jr_goto (t := 68) dX11_on_64 (by decide) ?_
  exact jj_X11_on_B68 G (1 : Int) (jl_nlit rfl) s0
def jf_X11_on_B43 (l1 : Int) (s0 : jl_Mm) : jl_O :=
  jl_lm (jl_up s0 1 1 (0 : Int)) fun s5 => if l1 = (0 : Int) then (jl_bd (jf_X11_deny (5 : Int) s5) fun r7 s8 => if r7 = (0 : Int) then (jf_X11_on_B68 (0 : Int) s8) else (jf_X11_on_B63 s8)) else (jf_X11_on_B63 s5)
set_option maxRecDepth 20000 in
set_option maxHeartbeats 2000000 in
theorem jj_X11_on_B43 (G : jl_GC) (l1 : Int) (hl1 : jl_n3 l1) (s0 : jl_Mm) : j2 G jM_X11_on 43 [(0, jl_vr G 0), (1, jl_vi l1)] [] s0 (jf_X11_on_B43 l1 s0) := by
  refine jr_aload_n dX11_on_43 0 rfl ?_
  refine jr_getk (i := 0) jc_11 jk_0 (by decide) (Nat.le_of_ble_eq_true rfl) jlk_0_0 jw_424 dX11_on_44 ?_
  refine jr_iconst dX11_on_47 ?_
  refine jr_putiN (i := 1) jc_10 jk_1 (by decide) (Nat.le_of_ble_eq_true rfl) jlk_1_1 jft_10_1 rfl jw_40 rfl dX11_on_48 ?_
  refine jr_lm (fun s5 => ?_)
  refine jr_iload_n dX11_on_51 1 rfl ?_
  refine jr_if_ne (t := 63) dX11_on_52 (by decide) hl1 (fun c6 => ?_) (fun c6 => ?_)
  · refine jr_aload_n dX11_on_55 0 rfl ?_
    refine jr_iconst dX11_on_56 ?_
    refine j2_callVz (As := [jl_vi (5 : Int)]) dX11_on_57 (jt_X11_deny G (5 : Int) (jl_nlit rfl) s5) jv_X11_deny ⟨rfl, rfl, rfl⟩ jw_495 jk_0 (by decide) (by decide) rfl ⟨Nat.le_of_ble_eq_true rfl, Nat.le_of_ble_eq_true rfl⟩ rfl (Nat.le_of_ble_eq_true rfl) (fun r7 s8 hr7 => ?_)
    refine jr_if_eq (t := 67) dX11_on_60 (by decide) (jl_nz hr7) (fun c9 => ?_) (fun c9 => ?_)
    · refine jr_iconst dX11_on_67 ?_
      refine jr_sub [] rfl ?_
      exact jj_X11_on_B68 G (0 : Int) (jl_nlit rfl) s8
    · refine jr_sub [] rfl ?_
      exact jj_X11_on_B63 G s8
  · refine jr_sub [] rfl ?_
    exact jj_X11_on_B63 G s5
def jf_X11_on_B19 (k0 : Int) (s0 : jl_Mm) : jl_O :=
  if k0 = (0 : Int) then (jf_X11_on_B43 k0 s0) else (if 0 ≤ s0 0 2 ∧ (jl_kd (jl_gr s0 0 2)).1 = 8 then jl_bd (jf_X7_readPicture 40 (jl_gr s0 0 2) s0) fun r11 s12 => jl_bd (jf_X11_forgetActs s12) fun r13 s14 => jf_X11_on_B43 k0 s14 else none)
set_option maxRecDepth 20000 in
set_option maxHeartbeats 2000000 in
theorem jj_X11_on_B19 (G : jl_GC) (k0 : Int) (hk0 : jl_n3 k0) (s0 : jl_Mm) : j2 G jM_X11_on 19 [(0, jl_vr G 0)] [jl_vi k0] s0 (jf_X11_on_B19 k0 s0) := by
  refine jr_istore_n (lv := [(1, jl_vi k0), (0, jl_vr G 0)]) dX11_on_19 rfl (Nat.le_of_ble_eq_true rfl) rfl ?_
  refine jr_iload_n dX11_on_20 0 rfl ?_
  refine jr_if_eq (t := 43) dX11_on_21 (by decide) hk0 (fun c4 => ?_) (fun c4 => ?_)
  · refine jr_sub [1, 0] rfl ?_
    exact jj_X11_on_B43 G k0 hk0 s0
  · refine jr_aload_n dX11_on_24 1 rfl ?_
    refine jr_getk (i := 6) jc_11 jk_0 (by decide) (Nat.le_of_ble_eq_true rfl) jlk_0_6 jw_430 dX11_on_25 ?_
    refine jr_aload_n dX11_on_28 1 rfl ?_
    refine jr_getk (i := 0) jc_11 jk_0 (by decide) (Nat.le_of_ble_eq_true rfl) jlk_0_0 jw_424 dX11_on_29 ?_
    refine jr_aload_n dX11_on_32 1 rfl ?_
    refine jr_grd (fun g10 => ?_)
    refine jr_getr (i := 2) jc_11 jk_0 (by decide) (Nat.le_of_ble_eq_true rfl) jlk_0_2 jft_11_2 g10.1 jw_426 dX11_on_33 ?_
    refine j2_callVv (As := [jl_vr G 1, jl_vr G (jl_gr s0 0 2)]) dX11_on_36 (jt_X7_readPicture G 40 (jl_gr s0 0 2) s0) jv_X7_readPicture ⟨rfl, rfl, rfl⟩ jw_1188 jk_40 (by decide) (by decide) rfl ⟨Nat.le_of_ble_eq_true rfl, Nat.le_of_ble_eq_true rfl⟩ rfl (Nat.le_of_ble_eq_true rfl) (fun r11 s12 hr11 => ?_)
    refine jr_aload_n dX11_on_39 1 rfl ?_
    refine j2_callVv (As := []) dX11_on_40 (jt_X11_forgetActs G s12) jv_X11_forgetActs ⟨rfl, rfl, rfl⟩ jw_766 jk_0 (by decide) (by decide) rfl ⟨Nat.le_of_ble_eq_true rfl, Nat.le_of_ble_eq_true rfl⟩ rfl (Nat.le_of_ble_eq_true rfl) (fun r13 s14 hr13 => ?_)
    refine jr_sub [1, 0] rfl ?_
    exact jj_X11_on_B43 G k0 hk0 s14
def jf_X11_on_B18 (s0 : jl_Mm) : jl_O :=
  jf_X11_on_B19 (0 : Int) s0
set_option maxRecDepth 20000 in
set_option maxHeartbeats 2000000 in
theorem jj_X11_on_B18 (G : jl_GC) (s0 : jl_Mm) : j2 G jM_X11_on 18 [(0, jl_vr G 0)] [] s0 (jf_X11_on_B18 s0) := by
  refine jr_iconst dX11_on_18 ?_
  exact jj_X11_on_B19 G (0 : Int) (jl_nlit rfl) s0
def jf_X11_on (s0 : jl_Mm) : jl_O :=
  jl_bd (jf_X11_hasStreet s0) fun r1 s2 => if r1 = (0 : Int) then (jf_X11_on_B18 s2) else (jl_bd (jf_X11_isPicture s2) fun r15 s16 => if r15 = (0 : Int) then (jf_X11_on_B18 s16) else (jf_X11_on_B19 (1 : Int) s16))
set_option maxRecDepth 20000 in
set_option maxHeartbeats 2000000 in
theorem jt_X11_on (G : jl_GC) (s0 : jl_Mm) : jC2 G jM_X11_on [jl_vr G 0] s0 (jf_X11_on s0) := by
  refine jl_met (plainFor_of_name rfl) (Nat.le_of_ble_eq_true rfl) ?_
  show j2 G jM_X11_on 0 [(0, jl_vr G 0)] [] s0 _
  refine jr_aload_n dX11_on_0 0 rfl ?_
  refine j2_callVz (As := []) dX11_on_1 (jt_X11_hasStreet G s0) jv_X11_hasStreet ⟨rfl, rfl, rfl⟩ jw_993 jk_0 (by decide) (by decide) rfl ⟨Nat.le_of_ble_eq_true rfl, Nat.le_of_ble_eq_true rfl⟩ rfl (Nat.le_of_ble_eq_true rfl) (fun r1 s2 hr1 => ?_)
  refine jr_if_eq (t := 18) dX11_on_4 (by decide) (jl_nz hr1) (fun c3 => ?_) (fun c3 => ?_)
  · exact jj_X11_on_B18 G s2
  · refine jr_aload_n dX11_on_7 0 rfl ?_
    refine j2_callVz (As := []) dX11_on_8 (jt_X11_isPicture G s2) jv_X11_isPicture ⟨rfl, rfl, rfl⟩ jw_1178 jk_0 (by decide) (by decide) rfl ⟨Nat.le_of_ble_eq_true rfl, Nat.le_of_ble_eq_true rfl⟩ rfl (Nat.le_of_ble_eq_true rfl) (fun r15 s16 hr15 => ?_)
    refine jr_if_eq (t := 18) dX11_on_11 (by decide) (jl_nz hr15) (fun c17 => ?_) (fun c17 => ?_)
    · exact jj_X11_on_B18 G s16
    · refine jr_iconst dX11_on_14 ?_
      refine jr_goto (t := 19) dX11_on_15 (by decide) ?_
      exact jj_X11_on_B19 G (1 : Int) (jl_nlit rfl) s16
