def jf_X11_status_B20 (k0 : Int) (s0 : jl_Mm) : jl_O :=
  some (k0, s0)
set_option maxRecDepth 20000 in
set_option maxHeartbeats 2000000 in
theorem jj_X11_status_B20 (G : jl_GC) (k0 : Int) (hk0 : jl_n3 k0) (s0 : jl_Mm) : j2 G jM_X11_status 20 [] [jl_vi k0] s0 (jf_X11_status_B20 k0 s0) := by
  exact jr_ret_i rfl hk0 dX11_status_20
def jf_X11_status_B19 (s0 : jl_Mm) : jl_O :=
  jf_X11_status_B20 (-1 : Int) s0
set_option maxRecDepth 20000 in
set_option maxHeartbeats 2000000 in
theorem jj_X11_status_B19 (G : jl_GC) (s0 : jl_Mm) : j2 G jM_X11_status 19 [] [] s0 (jf_X11_status_B19 s0) := by
  refine jr_iconst dX11_status_19 ?_
  exact jj_X11_status_B20 G (-1 : Int) (jl_nlit rfl) s0
def jf_X11_status (v1 : Int) (s0 : jl_Mm) : jl_O :=
  if v1 < (0 : Int) then (jf_X11_status_B19 s0) else (if (6 : Int) ≤ v1 then (jf_X11_status_B19 s0) else (if 0 ≤ v1 ∧ v1 < ((6 : Nat) : Int) then jf_X11_status_B20 (jl_g s0 205 (v1).toNat) s0 else none))
set_option maxRecDepth 20000 in
set_option maxHeartbeats 2000000 in
theorem jt_X11_status (G : jl_GC) (v1 : Int) (h1 : jl_n3 v1) (s0 : jl_Mm) : jC2 G jM_X11_status [jl_vr G 0, jl_vi v1] s0 (jf_X11_status v1 s0) := by
  refine jl_met (plainFor_of_name rfl) (Nat.le_of_ble_eq_true rfl) ?_
  show j2 G jM_X11_status 0 [(0, jl_vr G 0), (1, jl_vi v1)] [] s0 _
  refine jr_iload_n dX11_status_0 1 rfl ?_
  refine jr_if_lt (t := 19) dX11_status_1 (by decide) h1 (fun c1 => ?_) (fun c1 => ?_)
  · refine jr_sub [] rfl ?_
    exact jj_X11_status_B19 G s0
  · refine jr_iload_n dX11_status_4 1 rfl ?_
    refine jr_bipush dX11_status_5 (by decide) ?_
    refine jr_icmp_ge (t := 19) dX11_status_7 (by decide) h1 (jl_nlit rfl) (fun c2 => ?_) (fun c2 => ?_)
    · refine jr_sub [] rfl ?_
      exact jj_X11_status_B19 G s0
    · refine jr_aload_n dX11_status_10 0 rfl ?_
      refine jr_getk (i := 14) jc_11 jk_0 (by decide) (Nat.le_of_ble_eq_true rfl) jlk_0_14 jw_438 dX11_status_11 ?_
      refine jr_iload_n dX11_status_14 1 rfl ?_
      refine jr_grd (fun g3 => ?_)
      refine jr_iaload jk_205 (by decide) h1 g3 dX11_status_15 ?_
      refine jr_goto (t := 20) dX11_status_16 (by decide) ?_
      refine jr_sub [] rfl ?_
      exact jj_X11_status_B20 G (jl_g s0 205 (v1).toNat) (jl_n3_to _) s0
def jf_X12_isIn_B18 (k0 : Int) (s0 : jl_Mm) : jl_O :=
  jl_zb k0 s0
set_option maxRecDepth 20000 in
set_option maxHeartbeats 2000000 in
theorem jj_X12_isIn_B18 (G : jl_GC) (k0 : Int) (hk0 : jl_n3 k0) (s0 : jl_Mm) : j2 G jM_X12_isIn 18 [] [jl_vi k0] s0 (jf_X12_isIn_B18 k0 s0) := by
  exact jr_ret_z rfl dX12_isIn_18
def jf_X12_isIn_B17 (s0 : jl_Mm) : jl_O :=
  jf_X12_isIn_B18 (0 : Int) s0
set_option maxRecDepth 20000 in
set_option maxHeartbeats 2000000 in
theorem jj_X12_isIn_B17 (G : jl_GC) (s0 : jl_Mm) : j2 G jM_X12_isIn 17 [] [] s0 (jf_X12_isIn_B17 s0) := by
  refine jr_iconst dX12_isIn_17 ?_
  exact jj_X12_isIn_B18 G (0 : Int) (jl_nlit rfl) s0
def jf_X12_isIn (v1 : Int) (v2 : Int) (v3 : Int) (s0 : jl_Mm) : jl_O :=
  if jl_lcmp v1 v2 < (0 : Int) then (jf_X12_isIn_B17 s0) else (if (0 : Int) < jl_lcmp v1 v3 then (jf_X12_isIn_B17 s0) else (jf_X12_isIn_B18 (1 : Int) s0))
set_option maxRecDepth 20000 in
set_option maxHeartbeats 2000000 in
theorem jt_X12_isIn (G : jl_GC) (v1 : Int) (v2 : Int) (v3 : Int) (h1 : jl_n6 v1) (h2 : jl_n6 v2) (h3 : jl_n6 v3) (s0 : jl_Mm) : jC2 G jM_X12_isIn [jl_vl v1, jl_vl v2, jl_vl v3] s0 (jf_X12_isIn v1 v2 v3 s0) := by
  refine jl_met (plainFor_of_name rfl) (Nat.le_of_ble_eq_true rfl) ?_
  show j2 G jM_X12_isIn 0 [(0, jl_vl v1), (2, jl_vl v2), (4, jl_vl v3)] [] s0 _
  refine jr_lload_n dX12_isIn_0 0 rfl ?_
  refine jr_lload_n dX12_isIn_1 1 rfl ?_
  refine jr_lcmp dX12_isIn_2 ?_
  refine jr_if_lt (t := 17) dX12_isIn_3 (by decide) (jl_n3_to _) (fun c1 => ?_) (fun c1 => ?_)
  · refine jr_sub [] rfl ?_
    exact jj_X12_isIn_B17 G s0
  · refine jr_lload_n dX12_isIn_6 0 rfl ?_
    refine jr_lload dX12_isIn_7 2 rfl ?_
    refine jr_lcmp dX12_isIn_9 ?_
    refine jr_if_gt (t := 17) dX12_isIn_10 (by decide) (jl_n3_to _) (fun c2 => ?_) (fun c2 => ?_)
    · refine jr_sub [] rfl ?_
      exact jj_X12_isIn_B17 G s0
    · refine jr_iconst dX12_isIn_13 ?_
      refine jr_goto (t := 18) dX12_isIn_14 (by decide) ?_
      refine jr_sub [] rfl ?_
      exact jj_X12_isIn_B18 G (1 : Int) (jl_nlit rfl) s0
def jf_X12_clamp_B23 (k0 : Int) (s0 : jl_Mm) : jl_O :=
  some (k0, s0)
set_option maxRecDepth 20000 in
set_option maxHeartbeats 2000000 in
theorem jj_X12_clamp_B23 (G : jl_GC) (k0 : Int) (hk0 : jl_n3 k0) (s0 : jl_Mm) : j2 G jM_X12_clamp 23 [] [jl_vi k0] s0 (jf_X12_clamp_B23 k0 s0) := by
  exact jr_ret_i rfl hk0 dX12_clamp_23
def jf_X12_clamp (v1 : Int) (v2 : Int) (s0 : jl_Mm) : jl_O :=
  if (0 : Int) ≤ jl_lcmp v1 (0 : Int) then (if jl_lcmp v1 v2 ≤ (0 : Int) then (jf_X12_clamp_B23 (jl_l2i v1) s0) else (jf_X12_clamp_B23 v2 s0)) else (jf_X12_clamp_B23 (0 : Int) s0)
set_option maxRecDepth 20000 in
set_option maxHeartbeats 2000000 in
theorem jt_X12_clamp (G : jl_GC) (v1 : Int) (v2 : Int) (h1 : jl_n6 v1) (h2 : jl_n3 v2) (s0 : jl_Mm) : jC2 G jM_X12_clamp [jl_vl v1, jl_vi v2] s0 (jf_X12_clamp v1 v2 s0) := by
  refine jl_met (plainFor_of_name rfl) (Nat.le_of_ble_eq_true rfl) ?_
  show j2 G jM_X12_clamp 0 [(0, jl_vl v1), (2, jl_vi v2)] [] s0 _
  refine jr_lload_n dX12_clamp_0 0 rfl ?_
  refine jr_lconst (v := 0) dX12_clamp_1 (by decide) ?_
  refine jr_lcmp dX12_clamp_2 ?_
  refine jr_if_ge (t := 10) dX12_clamp_3 (by decide) (jl_n3_to _) (fun c1 => ?_) (fun c1 => ?_)
  · refine jr_lload_n dX12_clamp_10 0 rfl ?_
    refine jr_iload_n dX12_clamp_11 1 rfl ?_
    refine jr_i2l dX12_clamp_12 h2 ?_
    refine jr_lcmp dX12_clamp_13 ?_
    refine jr_if_le (t := 21) dX12_clamp_14 (by decide) (jl_n3_to _) (fun c2 => ?_) (fun c2 => ?_)
    · refine jr_lload_n dX12_clamp_21 0 rfl ?_
      refine jr_l2i dX12_clamp_22 ?_
      refine jr_sub [] rfl ?_
      exact jj_X12_clamp_B23 G (jl_l2i v1) (jl_n3_to _) s0
    · refine jr_iload_n dX12_clamp_17 1 rfl ?_
      refine jr_goto (t := 23) dX12_clamp_18 (by decide) ?_
      refine jr_sub [] rfl ?_
      exact jj_X12_clamp_B23 G v2 h2 s0
  · refine jr_iconst dX12_clamp_6 ?_
    refine jr_goto (t := 23) dX12_clamp_7 (by decide) ?_
    refine jr_sub [] rfl ?_
    exact jj_X12_clamp_B23 G (0 : Int) (jl_nlit rfl) s0
def jf_X12_feed_B81 (R28 : Int → Int → Int → Int → Int → Int → jl_Mm → jl_O) (l1 : Int) (l2 : Int) (l3 : Int) (l4 : Int) (l5 : Int) (l6 : Int) (k0 : Int) (s0 : jl_Mm) : jl_O :=
  if 0 ≤ jl_g s0 206 1 ∧ jl_g s0 206 1 < ((1600 : Nat) : Int) then jl_lm (jl_up s0 207 (jl_g s0 206 1).toNat (jl_and (jl_shr k0 (jl_mul (8 : Int) (jl_sub (3 : Int) (jl_rem l6 (4 : Int))))) (255 : Int))) fun s8 => jl_lm (jl_up s8 206 1 (jl_add (jl_g s8 206 1) (1 : Int))) fun s9 => R28 l1 l2 l3 l4 l5 (jl_add l6 1) s9 else none
set_option maxRecDepth 20000 in
set_option maxHeartbeats 2000000 in
theorem jj_X12_feed_B81 (G : jl_GC) (R28 : Int → Int → Int → Int → Int → Int → jl_Mm → jl_O) (hR28 : ∀ (l1 : Int) (l2 : Int) (l3 : Int) (l4 : Int) (l5 : Int) (l6 : Int) (_hl1 : jl_n3 l1) (_hl2 : jl_n3 l2) (_hl3 : jl_n3 l3) (_hl4 : jl_n3 l4) (_hl5 : jl_n3 l5) (_hl6 : jl_n3 l6) (s0 : jl_Mm), j2 G jM_X12_feed 28 [(0, jl_vr G 206), (1, jl_vi l1), (2, jl_vi l2), (3, jl_vi l3), (4, jl_vi l4), (5, jl_vi l5), (6, jl_vi l6)] [] s0 (R28 l1 l2 l3 l4 l5 l6 s0)) (l1 : Int) (l2 : Int) (l3 : Int) (l4 : Int) (l5 : Int) (l6 : Int) (k0 : Int) (hl1 : jl_n3 l1) (hl2 : jl_n3 l2) (hl3 : jl_n3 l3) (hl4 : jl_n3 l4) (hl5 : jl_n3 l5) (hl6 : jl_n3 l6) (hk0 : jl_n3 k0) (s0 : jl_Mm) : j2 G jM_X12_feed 81 [(0, jl_vr G 206), (1, jl_vi l1), (2, jl_vi l2), (3, jl_vi l3), (4, jl_vi l4), (5, jl_vi l5), (6, jl_vi l6)] [jl_vi k0] s0 (jf_X12_feed_B81 R28 l1 l2 l3 l4 l5 l6 k0 s0) := by
  refine jr_istore (lv := [(7, jl_vi k0), (0, jl_vr G 206), (1, jl_vi l1), (2, jl_vi l2), (3, jl_vi l3), (4, jl_vi l4), (5, jl_vi l5), (6, jl_vi l6)]) dX12_feed_81 (Nat.le_of_ble_eq_true rfl) rfl ?_
  refine jr_aload_n dX12_feed_83 1 rfl ?_
  refine jr_getk (i := 0) jc_12 jk_206 (by decide) (Nat.le_of_ble_eq_true rfl) jlk_206_0 jw_1205 dX12_feed_84 ?_
  refine jr_aload_n dX12_feed_87 1 rfl ?_
  refine jr_geti (i := 1) jc_12 jk_206 (by decide) (Nat.le_of_ble_eq_true rfl) jlk_206_1 jft_12_1 jw_1206 dX12_feed_88 ?_
  refine jr_iload dX12_feed_91 0 rfl ?_
  refine jr_bipush dX12_feed_93 (by decide) ?_
  refine jr_iconst dX12_feed_95 ?_
  refine jr_iload dX12_feed_96 7 rfl ?_
  refine jr_iconst dX12_feed_98 ?_
  refine jr_irem dX12_feed_99 (jl_nlit rfl) (by decide) ?_
  refine jr_isub dX12_feed_100 ?_
  refine jr_imul dX12_feed_101 ?_
  refine jr_ishr dX12_feed_102 ?_
  refine jr_sipush dX12_feed_103 (by decide) ?_
  refine jr_iand dX12_feed_106 ?_
  refine jr_grd (fun g7 => ?_)
  refine jr_iastore jk_207 (by decide) (jl_n3_to _) g7 dX12_feed_107 ?_
  refine jr_lm (fun s8 => ?_)
  refine jr_aload_n dX12_feed_108 1 rfl ?_
  refine jr_dup dX12_feed_109 rfl ?_
  refine jr_geti (i := 1) jc_12 jk_206 (by decide) (Nat.le_of_ble_eq_true rfl) jlk_206_1 jft_12_1 jw_1206 dX12_feed_110 ?_
  refine jr_iconst dX12_feed_113 ?_
  refine jr_iadd dX12_feed_114 ?_
  refine jr_puti (i := 1) jc_12 jk_206 (by decide) (Nat.le_of_ble_eq_true rfl) jlk_206_1 jft_12_1 rfl jw_1206 rfl dX12_feed_115 ?_
  refine jr_lm (fun s9 => ?_)
  refine jr_iinc (j := 7) (lv := [(6, jl_vi (jl_add l6 1)), (7, jl_vi k0), (0, jl_vr G 206), (1, jl_vi l1), (2, jl_vi l2), (3, jl_vi l3), (4, jl_vi l4), (5, jl_vi l5)]) dX12_feed_118 rfl (Nat.le_of_ble_eq_true rfl) rfl ?_
  refine jr_goto (t := 28) dX12_feed_121 (by decide) ?_
  refine jr_sub [2, 3, 4, 5, 6, 7, 0] rfl ?_
  exact hR28 l1 l2 l3 l4 l5 (jl_add l6 1) hl1 hl2 hl3 hl4 hl5 (jl_n3_to _) s9
def jf_X12_feed_L28 : Nat → Int → Int → Int → Int → Int → Int → jl_Mm → jl_O
  | 0, _, _, _, _, _, _, _ => none
  | n + 1, l1, l2, l3, l4, l5, l6, s0 =>
    if (20 : Int) ≤ l6 then (some (jl_g s0 206 1, s0)) else (if (4 : Int) ≤ l6 then (if (8 : Int) ≤ l6 then (if (12 : Int) ≤ l6 then (if (16 : Int) ≤ l6 then (jf_X12_feed_B81 (jf_X12_feed_L28 n) l1 l2 l3 l4 l5 l6 l5 s0) else (jf_X12_feed_B81 (jf_X12_feed_L28 n) l1 l2 l3 l4 l5 l6 l4 s0)) else (jf_X12_feed_B81 (jf_X12_feed_L28 n) l1 l2 l3 l4 l5 l6 l3 s0)) else (jf_X12_feed_B81 (jf_X12_feed_L28 n) l1 l2 l3 l4 l5 l6 l2 s0)) else (jf_X12_feed_B81 (jf_X12_feed_L28 n) l1 l2 l3 l4 l5 l6 l1 s0))
set_option maxRecDepth 20000 in
set_option maxHeartbeats 2000000 in
theorem jj_X12_feed_L28 (G : jl_GC) : ∀ (n : Nat) (l1 : Int) (l2 : Int) (l3 : Int) (l4 : Int) (l5 : Int) (l6 : Int) (hl1 : jl_n3 l1) (hl2 : jl_n3 l2) (hl3 : jl_n3 l3) (hl4 : jl_n3 l4) (hl5 : jl_n3 l5) (hl6 : jl_n3 l6) (s0 : jl_Mm), j2 G jM_X12_feed 28 [(0, jl_vr G 206), (1, jl_vi l1), (2, jl_vi l2), (3, jl_vi l3), (4, jl_vi l4), (5, jl_vi l5), (6, jl_vi l6)] [] s0 (jf_X12_feed_L28 n l1 l2 l3 l4 l5 l6 s0) := by
  intro n
  induction n with
  | zero =>
    intros
    exact jr_none
  | succ n ih =>
    intro l1 l2 l3 l4 l5 l6 hl1 hl2 hl3 hl4 hl5 hl6 s0
    refine jr_iload dX12_feed_28 6 rfl ?_
    refine jr_bipush dX12_feed_30 (by decide) ?_
    refine jr_icmp_ge (t := 124) dX12_feed_32 (by decide) hl6 (jl_nlit rfl) (fun c2 => ?_) (fun c2 => ?_)
    · refine jr_aload_n dX12_feed_124 0 rfl ?_
      refine jr_geti (i := 1) jc_12 jk_206 (by decide) (Nat.le_of_ble_eq_true rfl) jlk_206_1 jft_12_1 jw_1206 dX12_feed_125 ?_
      exact jr_ret_i rfl (jl_n3_to _) dX12_feed_128
    · refine jr_iload dX12_feed_35 6 rfl ?_
      refine jr_iconst dX12_feed_37 ?_
      refine jr_icmp_ge (t := 45) dX12_feed_38 (by decide) hl6 (jl_nlit rfl) (fun c3 => ?_) (fun c3 => ?_)
      · refine jr_iload dX12_feed_45 6 rfl ?_
        refine jr_bipush dX12_feed_47 (by decide) ?_
        refine jr_icmp_ge (t := 56) dX12_feed_49 (by decide) hl6 (jl_nlit rfl) (fun c4 => ?_) (fun c4 => ?_)
        · refine jr_iload dX12_feed_56 6 rfl ?_
          refine jr_bipush dX12_feed_58 (by decide) ?_
          refine jr_icmp_ge (t := 67) dX12_feed_60 (by decide) hl6 (jl_nlit rfl) (fun c5 => ?_) (fun c5 => ?_)
          · refine jr_iload dX12_feed_67 6 rfl ?_
            refine jr_bipush dX12_feed_69 (by decide) ?_
            refine jr_icmp_ge (t := 79) dX12_feed_71 (by decide) hl6 (jl_nlit rfl) (fun c6 => ?_) (fun c6 => ?_)
            · refine jr_iload dX12_feed_79 5 rfl ?_
              exact jj_X12_feed_B81 G (jf_X12_feed_L28 n) (ih) l1 l2 l3 l4 l5 l6 l5 hl1 hl2 hl3 hl4 hl5 hl6 hl5 s0
            · refine jr_iload dX12_feed_74 4 rfl ?_
              refine jr_goto (t := 81) dX12_feed_76 (by decide) ?_
              exact jj_X12_feed_B81 G (jf_X12_feed_L28 n) (ih) l1 l2 l3 l4 l5 l6 l4 hl1 hl2 hl3 hl4 hl5 hl6 hl4 s0
          · refine jr_iload_n dX12_feed_63 3 rfl ?_
            refine jr_goto (t := 81) dX12_feed_64 (by decide) ?_
            exact jj_X12_feed_B81 G (jf_X12_feed_L28 n) (ih) l1 l2 l3 l4 l5 l6 l3 hl1 hl2 hl3 hl4 hl5 hl6 hl3 s0
        · refine jr_iload_n dX12_feed_52 2 rfl ?_
          refine jr_goto (t := 81) dX12_feed_53 (by decide) ?_
          exact jj_X12_feed_B81 G (jf_X12_feed_L28 n) (ih) l1 l2 l3 l4 l5 l6 l2 hl1 hl2 hl3 hl4 hl5 hl6 hl2 s0
      · refine jr_iload_n dX12_feed_41 1 rfl ?_
        refine jr_goto (t := 81) dX12_feed_42 (by decide) ?_
        exact jj_X12_feed_B81 G (jf_X12_feed_L28 n) (ih) l1 l2 l3 l4 l5 l6 l1 hl1 hl2 hl3 hl4 hl5 hl6 hl1 s0
def jf_X12_feed (v1 : Int) (v2 : Int) (v3 : Int) (v4 : Int) (v5 : Int) (s0 : jl_Mm) : jl_O :=
  if jl_add (jl_g s0 206 1) (20 : Int) ≤ (1600 : Int) then (jf_X12_feed_L28 jl_fu v1 v2 v3 v4 v5 (0 : Int) s0) else (jl_lm (jl_up s0 208 (((0 : Int) : Int).toNat) (jl_add (jl_g s0 208 (((0 : Int) : Int).toNat)) (1 : Int))) fun s10 => some ((-1 : Int), s10))
set_option maxRecDepth 20000 in
set_option maxHeartbeats 2000000 in
theorem jt_X12_feed (G : jl_GC) (v1 : Int) (v2 : Int) (v3 : Int) (v4 : Int) (v5 : Int) (h1 : jl_n3 v1) (h2 : jl_n3 v2) (h3 : jl_n3 v3) (h4 : jl_n3 v4) (h5 : jl_n3 v5) (s0 : jl_Mm) : jC2 G jM_X12_feed [jl_vr G 206, jl_vi v1, jl_vi v2, jl_vi v3, jl_vi v4, jl_vi v5] s0 (jf_X12_feed v1 v2 v3 v4 v5 s0) := by
  refine jl_met (plainFor_of_name rfl) (Nat.le_of_ble_eq_true rfl) ?_
  show j2 G jM_X12_feed 0 [(0, jl_vr G 206), (1, jl_vi v1), (2, jl_vi v2), (3, jl_vi v3), (4, jl_vi v4), (5, jl_vi v5)] [] s0 _
  refine jr_aload_n dX12_feed_0 0 rfl ?_
  refine jr_geti (i := 1) jc_12 jk_206 (by decide) (Nat.le_of_ble_eq_true rfl) jlk_206_1 jft_12_1 jw_1206 dX12_feed_1 ?_
  refine jr_bipush dX12_feed_4 (by decide) ?_
  refine jr_iadd dX12_feed_6 ?_
  refine jr_sipush dX12_feed_7 (by decide) ?_
  refine jr_icmp_le (t := 25) dX12_feed_10 (by decide) (jl_n3_to _) (jl_nlit rfl) (fun c1 => ?_) (fun c1 => ?_)
  · refine jr_iconst dX12_feed_25 ?_
    refine jr_istore (lv := [(6, jl_vi (0 : Int)), (0, jl_vr G 206), (1, jl_vi v1), (2, jl_vi v2), (3, jl_vi v3), (4, jl_vi v4), (5, jl_vi v5)]) dX12_feed_26 (Nat.le_of_ble_eq_true rfl) rfl ?_
    refine jr_sub [1, 2, 3, 4, 5, 6, 0] rfl ?_
    exact jj_X12_feed_L28 G jl_fu v1 v2 v3 v4 v5 (0 : Int) h1 h2 h3 h4 h5 (jl_nlit rfl) s0
  · refine jr_aload_n dX12_feed_13 0 rfl ?_
    refine jr_getk (i := 9) jc_12 jk_206 (by decide) (Nat.le_of_ble_eq_true rfl) jlk_206_9 jw_1214 dX12_feed_14 ?_
    refine jr_iconst dX12_feed_17 ?_
    refine jr_dup2_11 dX12_feed_18 rfl rfl ?_
    refine jr_iaload jk_208 (by decide) (jl_nlit rfl) ⟨by decide, by decide⟩ dX12_feed_19 ?_
    refine jr_iconst dX12_feed_20 ?_
    refine jr_iadd dX12_feed_21 ?_
    refine jr_iastore jk_208 (by decide) (jl_nlit rfl) ⟨by decide, by decide⟩ dX12_feed_22 ?_
    refine jr_lm (fun s10 => ?_)
    refine jr_iconst dX12_feed_23 ?_
    exact jr_ret_i rfl (jl_nlit rfl) dX12_feed_24
def jf_X12_end_B12 (s0 : jl_Mm) : jl_O :=
  jl_lm (jl_up s0 208 (((0 : Int) : Int).toNat) (jl_add (jl_g s0 208 (((0 : Int) : Int).toNat)) (1 : Int))) fun s2 => jl_zb (0 : Int) s2
set_option maxRecDepth 20000 in
set_option maxHeartbeats 2000000 in
theorem jj_X12_end_B12 (G : jl_GC) (s0 : jl_Mm) : j2 G jM_X12_end 12 [(0, jl_vr G 206)] [] s0 (jf_X12_end_B12 s0) := by
  refine jr_aload_n dX12_end_12 0 rfl ?_
  refine jr_getk (i := 9) jc_12 jk_206 (by decide) (Nat.le_of_ble_eq_true rfl) jlk_206_9 jw_1214 dX12_end_13 ?_
  refine jr_iconst dX12_end_16 ?_
  refine jr_dup2_11 dX12_end_17 rfl rfl ?_
  refine jr_iaload jk_208 (by decide) (jl_nlit rfl) ⟨by decide, by decide⟩ dX12_end_18 ?_
  refine jr_iconst dX12_end_19 ?_
  refine jr_iadd dX12_end_20 ?_
  refine jr_iastore jk_208 (by decide) (jl_nlit rfl) ⟨by decide, by decide⟩ dX12_end_21 ?_
  refine jr_lm (fun s2 => ?_)
  refine jr_iconst dX12_end_22 ?_
  exact jr_ret_z rfl dX12_end_23
def jf_X12_end (v1 : Int) (s0 : jl_Mm) : jl_O :=
  if v1 < (0 : Int) then (jf_X12_end_B12 s0) else (if v1 ≤ jl_g s0 206 1 then (jl_lm (jl_up s0 206 1 v1) fun s4 => jl_zb (1 : Int) s4) else (jf_X12_end_B12 s0))
set_option maxRecDepth 20000 in
set_option maxHeartbeats 2000000 in
theorem jt_X12_end (G : jl_GC) (v1 : Int) (h1 : jl_n3 v1) (s0 : jl_Mm) : jC2 G jM_X12_end [jl_vr G 206, jl_vi v1] s0 (jf_X12_end v1 s0) := by
  refine jl_met (plainFor_of_name rfl) (Nat.le_of_ble_eq_true rfl) ?_
  show j2 G jM_X12_end 0 [(0, jl_vr G 206), (1, jl_vi v1)] [] s0 _
  refine jr_iload_n dX12_end_0 1 rfl ?_
  refine jr_if_lt (t := 12) dX12_end_1 (by decide) h1 (fun c1 => ?_) (fun c1 => ?_)
  · refine jr_sub [0] rfl ?_
    exact jj_X12_end_B12 G s0
  · refine jr_iload_n dX12_end_4 1 rfl ?_
    refine jr_aload_n dX12_end_5 0 rfl ?_
    refine jr_geti (i := 1) jc_12 jk_206 (by decide) (Nat.le_of_ble_eq_true rfl) jlk_206_1 jft_12_1 jw_1206 dX12_end_6 ?_
    refine jr_icmp_le (t := 24) dX12_end_9 (by decide) h1 (jl_n3_to _) (fun c3 => ?_) (fun c3 => ?_)
    · refine jr_aload_n dX12_end_24 0 rfl ?_
      refine jr_iload_n dX12_end_25 1 rfl ?_
      refine jr_puti (i := 1) jc_12 jk_206 (by decide) (Nat.le_of_ble_eq_true rfl) jlk_206_1 jft_12_1 rfl jw_1206 rfl dX12_end_26 ?_
      refine jr_lm (fun s4 => ?_)
      refine jr_iconst dX12_end_29 ?_
      exact jr_ret_z rfl dX12_end_30
    · refine jr_sub [0] rfl ?_
      exact jj_X12_end_B12 G s0
def jf_X12_fail (v1 : Int) (v2 : Int) (s0 : jl_Mm) : jl_O :=
  if jl_g s0 206 5 = (0 : Int) then (jl_lm (jl_up s0 206 5 v1) fun s2 => jl_lm (jl_up s2 206 6 v2) fun s3 => some (0, s3)) else (some (0, s0))
set_option maxRecDepth 20000 in
set_option maxHeartbeats 2000000 in
theorem jt_X12_fail (G : jl_GC) (v1 : Int) (v2 : Int) (h1 : jl_n3 v1) (h2 : jl_n3 v2) (s0 : jl_Mm) : jC2 G jM_X12_fail [jl_vr G 206, jl_vi v1, jl_vi v2] s0 (jf_X12_fail v1 v2 s0) := by
  refine jl_met (plainFor_of_name rfl) (Nat.le_of_ble_eq_true rfl) ?_
  show j2 G jM_X12_fail 0 [(0, jl_vr G 206), (1, jl_vi v1), (2, jl_vi v2)] [] s0 _
  refine jr_aload_n dX12_fail_0 0 rfl ?_
  refine jr_geti (i := 5) jc_12 jk_206 (by decide) (Nat.le_of_ble_eq_true rfl) jlk_206_5 jft_12_5 jw_1210 dX12_fail_1 ?_
  refine jr_if_eq (t := 8) dX12_fail_4 (by decide) (jl_n3_to _) (fun c1 => ?_) (fun c1 => ?_)
  · refine jr_aload_n dX12_fail_8 0 rfl ?_
    refine jr_iload_n dX12_fail_9 1 rfl ?_
    refine jr_puti (i := 5) jc_12 jk_206 (by decide) (Nat.le_of_ble_eq_true rfl) jlk_206_5 jft_12_5 rfl jw_1210 rfl dX12_fail_10 ?_
    refine jr_lm (fun s2 => ?_)
    refine jr_aload_n dX12_fail_13 0 rfl ?_
    refine jr_iload_n dX12_fail_14 2 rfl ?_
    refine jr_puti (i := 6) jc_12 jk_206 (by decide) (Nat.le_of_ble_eq_true rfl) jlk_206_6 jft_12_6 rfl jw_1211 rfl dX12_fail_15 ?_
    refine jr_lm (fun s3 => ?_)
    exact jr_ret_v rfl dX12_fail_18
  · exact jr_ret_v rfl dX12_fail_7
def jf_X12_isLetter_B17 (k0 : Int) (s0 : jl_Mm) : jl_O :=
  jl_zb k0 s0
set_option maxRecDepth 20000 in
set_option maxHeartbeats 2000000 in
theorem jj_X12_isLetter_B17 (G : jl_GC) (k0 : Int) (hk0 : jl_n3 k0) (s0 : jl_Mm) : j2 G jM_X12_isLetter 17 [] [jl_vi k0] s0 (jf_X12_isLetter_B17 k0 s0) := by
  exact jr_ret_z rfl dX12_isLetter_17
def jf_X12_isLetter_B16 (s0 : jl_Mm) : jl_O :=
  jf_X12_isLetter_B17 (0 : Int) s0
set_option maxRecDepth 20000 in
set_option maxHeartbeats 2000000 in
theorem jj_X12_isLetter_B16 (G : jl_GC) (s0 : jl_Mm) : j2 G jM_X12_isLetter 16 [] [] s0 (jf_X12_isLetter_B16 s0) := by
  refine jr_iconst dX12_isLetter_16 ?_
  exact jj_X12_isLetter_B17 G (0 : Int) (jl_nlit rfl) s0
def jf_X12_isLetter (v1 : Int) (s0 : jl_Mm) : jl_O :=
  if v1 < (97 : Int) then (jf_X12_isLetter_B16 s0) else (if (122 : Int) < v1 then (jf_X12_isLetter_B16 s0) else (jf_X12_isLetter_B17 (1 : Int) s0))
set_option maxRecDepth 20000 in
set_option maxHeartbeats 2000000 in
theorem jt_X12_isLetter (G : jl_GC) (v1 : Int) (h1 : jl_n3 v1) (s0 : jl_Mm) : jC2 G jM_X12_isLetter [jl_vi v1] s0 (jf_X12_isLetter v1 s0) := by
  refine jl_met (plainFor_of_name rfl) (Nat.le_of_ble_eq_true rfl) ?_
  show j2 G jM_X12_isLetter 0 [(0, jl_vi v1)] [] s0 _
  refine jr_iload_n dX12_isLetter_0 0 rfl ?_
  refine jr_bipush dX12_isLetter_1 (by decide) ?_
  refine jr_icmp_lt (t := 16) dX12_isLetter_3 (by decide) h1 (jl_nlit rfl) (fun c1 => ?_) (fun c1 => ?_)
  · refine jr_sub [] rfl ?_
    exact jj_X12_isLetter_B16 G s0
  · refine jr_iload_n dX12_isLetter_6 0 rfl ?_
    refine jr_bipush dX12_isLetter_7 (by decide) ?_
    refine jr_icmp_gt (t := 16) dX12_isLetter_9 (by decide) h1 (jl_nlit rfl) (fun c2 => ?_) (fun c2 => ?_)
    · refine jr_sub [] rfl ?_
      exact jj_X12_isLetter_B16 G s0
    · refine jr_iconst dX12_isLetter_12 ?_
      refine jr_goto (t := 17) dX12_isLetter_13 (by decide) ?_
      refine jr_sub [] rfl ?_
      exact jj_X12_isLetter_B17 G (1 : Int) (jl_nlit rfl) s0
def jf_X12_isDigit_B17 (k0 : Int) (s0 : jl_Mm) : jl_O :=
  jl_zb k0 s0
set_option maxRecDepth 20000 in
set_option maxHeartbeats 2000000 in
theorem jj_X12_isDigit_B17 (G : jl_GC) (k0 : Int) (hk0 : jl_n3 k0) (s0 : jl_Mm) : j2 G jM_X12_isDigit 17 [] [jl_vi k0] s0 (jf_X12_isDigit_B17 k0 s0) := by
  exact jr_ret_z rfl dX12_isDigit_17
def jf_X12_isDigit_B16 (s0 : jl_Mm) : jl_O :=
  jf_X12_isDigit_B17 (0 : Int) s0
set_option maxRecDepth 20000 in
set_option maxHeartbeats 2000000 in
theorem jj_X12_isDigit_B16 (G : jl_GC) (s0 : jl_Mm) : j2 G jM_X12_isDigit 16 [] [] s0 (jf_X12_isDigit_B16 s0) := by
  refine jr_iconst dX12_isDigit_16 ?_
  exact jj_X12_isDigit_B17 G (0 : Int) (jl_nlit rfl) s0
def jf_X12_isDigit (v1 : Int) (s0 : jl_Mm) : jl_O :=
  if v1 < (48 : Int) then (jf_X12_isDigit_B16 s0) else (if (57 : Int) < v1 then (jf_X12_isDigit_B16 s0) else (jf_X12_isDigit_B17 (1 : Int) s0))
set_option maxRecDepth 20000 in
set_option maxHeartbeats 2000000 in
theorem jt_X12_isDigit (G : jl_GC) (v1 : Int) (h1 : jl_n3 v1) (s0 : jl_Mm) : jC2 G jM_X12_isDigit [jl_vi v1] s0 (jf_X12_isDigit v1 s0) := by
  refine jl_met (plainFor_of_name rfl) (Nat.le_of_ble_eq_true rfl) ?_
  show j2 G jM_X12_isDigit 0 [(0, jl_vi v1)] [] s0 _
  refine jr_iload_n dX12_isDigit_0 0 rfl ?_
  refine jr_bipush dX12_isDigit_1 (by decide) ?_
  refine jr_icmp_lt (t := 16) dX12_isDigit_3 (by decide) h1 (jl_nlit rfl) (fun c1 => ?_) (fun c1 => ?_)
  · refine jr_sub [] rfl ?_
    exact jj_X12_isDigit_B16 G s0
  · refine jr_iload_n dX12_isDigit_6 0 rfl ?_
    refine jr_bipush dX12_isDigit_7 (by decide) ?_
    refine jr_icmp_gt (t := 16) dX12_isDigit_9 (by decide) h1 (jl_nlit rfl) (fun c2 => ?_) (fun c2 => ?_)
    · refine jr_sub [] rfl ?_
      exact jj_X12_isDigit_B16 G s0
    · refine jr_iconst dX12_isDigit_12 ?_
      refine jr_goto (t := 17) dX12_isDigit_13 (by decide) ?_
      refine jr_sub [] rfl ?_
      exact jj_X12_isDigit_B17 G (1 : Int) (jl_nlit rfl) s0
def jf_X12_look_B76 (k0 : Int) (s0 : jl_Mm) : jl_O :=
  some (k0, s0)
set_option maxRecDepth 20000 in
set_option maxHeartbeats 2000000 in
theorem jj_X12_look_B76 (G : jl_GC) (k0 : Int) (hk0 : jl_n3 k0) (s0 : jl_Mm) : j2 G jM_X12_look 76 [] [jl_vi k0] s0 (jf_X12_look_B76 k0 s0) := by
  exact jr_ret_i rfl hk0 dX12_look_76
def jf_X12_look_B52 (s0 : jl_Mm) : jl_O :=
  if jl_g s0 206 3 ≤ jl_g s0 206 2 then (jf_X12_look_B76 (-1 : Int) s0) else (if 0 ≤ jl_g s0 206 2 ∧ jl_g s0 206 2 < ((1600 : Nat) : Int) then jf_X12_look_B76 (jl_g s0 207 (jl_g s0 206 2).toNat) s0 else none)
set_option maxRecDepth 20000 in
set_option maxHeartbeats 2000000 in
theorem jj_X12_look_B52 (G : jl_GC) (s0 : jl_Mm) : j2 G jM_X12_look 52 [(0, jl_vr G 206)] [] s0 (jf_X12_look_B52 s0) := by
  refine jr_aload_n dX12_look_52 0 rfl ?_
  refine jr_geti (i := 2) jc_12 jk_206 (by decide) (Nat.le_of_ble_eq_true rfl) jlk_206_2 jft_12_2 jw_1207 dX12_look_53 ?_
  refine jr_aload_n dX12_look_56 0 rfl ?_
  refine jr_geti (i := 3) jc_12 jk_206 (by decide) (Nat.le_of_ble_eq_true rfl) jlk_206_3 jft_12_3 jw_1208 dX12_look_57 ?_
  refine jr_icmp_ge (t := 75) dX12_look_60 (by decide) (jl_n3_to _) (jl_n3_to _) (fun c2 => ?_) (fun c2 => ?_)
  · refine jr_iconst dX12_look_75 ?_
    refine jr_sub [] rfl ?_
    exact jj_X12_look_B76 G (-1 : Int) (jl_nlit rfl) s0
  · refine jr_aload_n dX12_look_63 0 rfl ?_
    refine jr_getk (i := 0) jc_12 jk_206 (by decide) (Nat.le_of_ble_eq_true rfl) jlk_206_0 jw_1205 dX12_look_64 ?_
    refine jr_aload_n dX12_look_67 0 rfl ?_
    refine jr_geti (i := 2) jc_12 jk_206 (by decide) (Nat.le_of_ble_eq_true rfl) jlk_206_2 jft_12_2 jw_1207 dX12_look_68 ?_
    refine jr_grd (fun g3 => ?_)
    refine jr_iaload jk_207 (by decide) (jl_n3_to _) g3 dX12_look_71 ?_
    refine jr_goto (t := 76) dX12_look_72 (by decide) ?_
    refine jr_sub [] rfl ?_
    exact jj_X12_look_B76 G (jl_g s0 207 (jl_g s0 206 2).toNat) (jl_n3_to _) s0
def jf_X12_look_B39 (R0 : jl_Mm → jl_O) (s0 : jl_Mm) : jl_O :=
  jl_lm (jl_up s0 206 2 (jl_add (jl_g s0 206 2) (1 : Int))) fun s6 => R0 s6
set_option maxRecDepth 20000 in
set_option maxHeartbeats 2000000 in
theorem jj_X12_look_B39 (G : jl_GC) (R0 : jl_Mm → jl_O) (hR0 : ∀ (s0 : jl_Mm), j2 G jM_X12_look 0 [(0, jl_vr G 206)] [] s0 (R0 s0)) (s0 : jl_Mm) : j2 G jM_X12_look 39 [(0, jl_vr G 206)] [] s0 (jf_X12_look_B39 R0 s0) := by
  refine jr_aload_n dX12_look_39 0 rfl ?_
  refine jr_dup dX12_look_40 rfl ?_
  refine jr_geti (i := 2) jc_12 jk_206 (by decide) (Nat.le_of_ble_eq_true rfl) jlk_206_2 jft_12_2 jw_1207 dX12_look_41 ?_
  refine jr_iconst dX12_look_44 ?_
  refine jr_iadd dX12_look_45 ?_
  refine jr_puti (i := 2) jc_12 jk_206 (by decide) (Nat.le_of_ble_eq_true rfl) jlk_206_2 jft_12_2 rfl jw_1207 rfl dX12_look_46 ?_
  refine jr_lm (fun s6 => ?_)
  refine jr_goto (t := 0) dX12_look_49 (by decide) ?_
  exact hR0 s6
def jf_X12_look_L0 : Nat → jl_Mm → jl_O
  | 0, _ => none
  | n + 1, s0 =>
    if jl_g s0 206 3 ≤ jl_g s0 206 2 then (jf_X12_look_B52 s0) else (if 0 ≤ jl_g s0 206 2 ∧ jl_g s0 206 2 < ((1600 : Nat) : Int) then if jl_g s0 207 (jl_g s0 206 2).toNat = (10 : Int) then (jf_X12_look_B39 (jf_X12_look_L0 n) s0) else (if 0 ≤ jl_g s0 206 2 ∧ jl_g s0 206 2 < ((1600 : Nat) : Int) then if jl_g s0 207 (jl_g s0 206 2).toNat = (32 : Int) then (jf_X12_look_B39 (jf_X12_look_L0 n) s0) else (jf_X12_look_B52 s0) else none) else none)
set_option maxRecDepth 20000 in
set_option maxHeartbeats 2000000 in
theorem jj_X12_look_L0 (G : jl_GC) : ∀ (n : Nat) (s0 : jl_Mm), j2 G jM_X12_look 0 [(0, jl_vr G 206)] [] s0 (jf_X12_look_L0 n s0) := by
  intro n
  induction n with
  | zero =>
    intros
    exact jr_none
  | succ n ih =>
    intro s0
    refine jr_aload_n dX12_look_0 0 rfl ?_
    refine jr_geti (i := 2) jc_12 jk_206 (by decide) (Nat.le_of_ble_eq_true rfl) jlk_206_2 jft_12_2 jw_1207 dX12_look_1 ?_
    refine jr_aload_n dX12_look_4 0 rfl ?_
    refine jr_geti (i := 3) jc_12 jk_206 (by decide) (Nat.le_of_ble_eq_true rfl) jlk_206_3 jft_12_3 jw_1208 dX12_look_5 ?_
    refine jr_icmp_ge (t := 52) dX12_look_8 (by decide) (jl_n3_to _) (jl_n3_to _) (fun c1 => ?_) (fun c1 => ?_)
    · exact jj_X12_look_B52 G s0
    · refine jr_aload_n dX12_look_11 0 rfl ?_
      refine jr_getk (i := 0) jc_12 jk_206 (by decide) (Nat.le_of_ble_eq_true rfl) jlk_206_0 jw_1205 dX12_look_12 ?_
      refine jr_aload_n dX12_look_15 0 rfl ?_
      refine jr_geti (i := 2) jc_12 jk_206 (by decide) (Nat.le_of_ble_eq_true rfl) jlk_206_2 jft_12_2 jw_1207 dX12_look_16 ?_
      refine jr_grd (fun g4 => ?_)
      refine jr_iaload jk_207 (by decide) (jl_n3_to _) g4 dX12_look_19 ?_
      refine jr_bipush dX12_look_20 (by decide) ?_
      refine jr_icmp_eq (t := 39) dX12_look_22 (by decide) (jl_n3_to _) (jl_nlit rfl) (fun c5 => ?_) (fun c5 => ?_)
      · exact jj_X12_look_B39 G (jf_X12_look_L0 n) (ih) s0
      · refine jr_aload_n dX12_look_25 0 rfl ?_
        refine jr_getk (i := 0) jc_12 jk_206 (by decide) (Nat.le_of_ble_eq_true rfl) jlk_206_0 jw_1205 dX12_look_26 ?_
        refine jr_aload_n dX12_look_29 0 rfl ?_
        refine jr_geti (i := 2) jc_12 jk_206 (by decide) (Nat.le_of_ble_eq_true rfl) jlk_206_2 jft_12_2 jw_1207 dX12_look_30 ?_
        refine jr_grd (fun g7 => ?_)
        refine jr_iaload jk_207 (by decide) (jl_n3_to _) g7 dX12_look_33 ?_
        refine jr_bipush dX12_look_34 (by decide) ?_
        refine jr_icmp_ne (t := 52) dX12_look_36 (by decide) (jl_n3_to _) (jl_nlit rfl) (fun c8 => ?_) (fun c8 => ?_)
        · exact jj_X12_look_B39 G (jf_X12_look_L0 n) (ih) s0
        · exact jj_X12_look_B52 G s0
def jf_X12_look (s0 : jl_Mm) : jl_O :=
  jf_X12_look_L0 jl_fu s0
set_option maxRecDepth 20000 in
set_option maxHeartbeats 2000000 in
theorem jt_X12_look (G : jl_GC) (s0 : jl_Mm) : jC2 G jM_X12_look [jl_vr G 206] s0 (jf_X12_look s0) := by
  refine jl_met (plainFor_of_name rfl) (Nat.le_of_ble_eq_true rfl) ?_
  show j2 G jM_X12_look 0 [(0, jl_vr G 206)] [] s0 _
  exact jj_X12_look_L0 G jl_fu s0
def jf_X12_isHere_B28 (s0 : jl_Mm) : jl_O :=
  jl_zb (0 : Int) s0
set_option maxRecDepth 20000 in
set_option maxHeartbeats 2000000 in
theorem jj_X12_isHere_B28 (G : jl_GC) (s0 : jl_Mm) : j2 G jM_X12_isHere 28 [] [] s0 (jf_X12_isHere_B28 s0) := by
  refine jr_iconst dX12_isHere_28 ?_
  exact jr_ret_z rfl dX12_isHere_29
def jf_X12_isHere_L76 : Nat → Nat → Int → jl_Mm → jl_O
  | 0, _, _, _ => none
  | n + 1, l1, l3, s0 =>
    if (((jl_kd l1).2 : Nat) : Int) ≤ l3 then (jl_zb (1 : Int) s0) else (if 0 ≤ jl_add (jl_g s0 206 2) l3 ∧ jl_add (jl_g s0 206 2) l3 < ((1600 : Nat) : Int) then if 0 ≤ l3 ∧ l3 < (((jl_kd l1).2 : Nat) : Int) then if jl_g s0 207 (jl_add (jl_g s0 206 2) l3).toNat = jl_g s0 l1 (l3).toNat then (jf_X12_isHere_L76 n l1 (jl_add l3 1) s0) else (jl_zb (0 : Int) s0) else none else none)
set_option maxRecDepth 20000 in
set_option maxHeartbeats 2000000 in
theorem jj_X12_isHere_L76 (G : jl_GC) : ∀ (n : Nat) (l1 : Nat) (l3 : Int) (hl1 : (jl_kd l1).1 = 22) (hl3 : jl_n3 l3) (s0 : jl_Mm), j2 G jM_X12_isHere 76 [(0, jl_vr G 206), (1, jl_vr G l1), (3, jl_vi l3)] [] s0 (jf_X12_isHere_L76 n l1 l3 s0) := by
  intro n
  induction n with
  | zero =>
    intros
    exact jr_none
  | succ n ih =>
    intro l1 l3 hl1 hl3 s0
    refine jr_iload_n dX12_isHere_76 2 rfl ?_
    refine jr_aload_n dX12_isHere_77 1 rfl ?_
    refine jr_alen (jl_kd1 hl1) (Or.inr ⟨rfl, rfl⟩) (jl_kdlt hl1 (by decide)) dX12_isHere_78 ?_
    refine jr_icmp_ge (t := 107) dX12_isHere_79 (by decide) hl3 (jl_klen l1) (fun c11 => ?_) (fun c11 => ?_)
    · refine jr_iconst dX12_isHere_107 ?_
      exact jr_ret_z rfl dX12_isHere_108
    · refine jr_aload_n dX12_isHere_82 0 rfl ?_
      refine jr_getk (i := 0) jc_12 jk_206 (by decide) (Nat.le_of_ble_eq_true rfl) jlk_206_0 jw_1205 dX12_isHere_83 ?_
      refine jr_aload_n dX12_isHere_86 0 rfl ?_
      refine jr_geti (i := 2) jc_12 jk_206 (by decide) (Nat.le_of_ble_eq_true rfl) jlk_206_2 jft_12_2 jw_1207 dX12_isHere_87 ?_
      refine jr_iload_n dX12_isHere_90 2 rfl ?_
      refine jr_iadd dX12_isHere_91 ?_
      refine jr_grd (fun g12 => ?_)
      refine jr_iaload jk_207 (by decide) (jl_n3_to _) g12 dX12_isHere_92 ?_
      refine jr_aload_n dX12_isHere_93 1 rfl ?_
      refine jr_iload_n dX12_isHere_94 2 rfl ?_
      refine jr_grd (fun g13 => ?_)
      refine jr_caload (jl_kd1 hl1) (jl_kdlt hl1 (by decide)) hl3 g13 dX12_isHere_95 ?_
      refine jr_icmp_eq (t := 101) dX12_isHere_96 (by decide) (jl_n3_to _) (jl_n3_to _) (fun c14 => ?_) (fun c14 => ?_)
      · refine jr_iinc (j := 2) (lv := [(3, jl_vi (jl_add l3 1)), (0, jl_vr G 206), (1, jl_vr G l1)]) dX12_isHere_101 rfl (Nat.le_of_ble_eq_true rfl) rfl ?_
        refine jr_goto (t := 76) dX12_isHere_104 (by decide) ?_
        refine jr_sub [1, 2, 0] rfl ?_
        exact ih l1 (jl_add l3 1) hl1 (jl_n3_to _) s0
      · refine jr_iconst dX12_isHere_99 ?_
        exact jr_ret_z rfl dX12_isHere_100
def jf_X12_isHere_B61 (l1 : Nat) (l2 : Int) (s0 : jl_Mm) : jl_O :=
  if jl_sub l2 (jl_g s0 206 2) = (((jl_kd l1).2 : Nat) : Int) then (jf_X12_isHere_L76 jl_fu l1 (0 : Int) s0) else (jl_zb (0 : Int) s0)
set_option maxRecDepth 20000 in
set_option maxHeartbeats 2000000 in
theorem jj_X12_isHere_B61 (G : jl_GC) (l1 : Nat) (l2 : Int) (hl1 : (jl_kd l1).1 = 22) (hl2 : jl_n3 l2) (s0 : jl_Mm) : j2 G jM_X12_isHere 61 [(0, jl_vr G 206), (1, jl_vr G l1), (2, jl_vi l2)] [] s0 (jf_X12_isHere_B61 l1 l2 s0) := by
  refine jr_iload_n dX12_isHere_61 2 rfl ?_
  refine jr_aload_n dX12_isHere_62 0 rfl ?_
  refine jr_geti (i := 2) jc_12 jk_206 (by decide) (Nat.le_of_ble_eq_true rfl) jlk_206_2 jft_12_2 jw_1207 dX12_isHere_63 ?_
  refine jr_isub dX12_isHere_66 ?_
  refine jr_aload_n dX12_isHere_67 1 rfl ?_
  refine jr_alen (jl_kd1 hl1) (Or.inr ⟨rfl, rfl⟩) (jl_kdlt hl1 (by decide)) dX12_isHere_68 ?_
  refine jr_icmp_eq (t := 74) dX12_isHere_69 (by decide) (jl_n3_to _) (jl_klen l1) (fun c10 => ?_) (fun c10 => ?_)
  · refine jr_iconst dX12_isHere_74 ?_
    refine jr_istore_n (lv := [(3, jl_vi (0 : Int)), (0, jl_vr G 206), (1, jl_vr G l1), (2, jl_vi l2)]) dX12_isHere_75 rfl (Nat.le_of_ble_eq_true rfl) rfl ?_
    refine jr_sub [1, 2, 0] rfl ?_
    exact jj_X12_isHere_L76 G jl_fu l1 (0 : Int) hl1 (jl_nlit rfl) s0
  · refine jr_iconst dX12_isHere_72 ?_
    exact jr_ret_z rfl dX12_isHere_73
def jf_X12_isHere_L35 : Nat → Nat → Int → jl_Mm → jl_O
  | 0, _, _, _ => none
  | n + 1, l1, l2, s0 =>
    if jl_g s0 206 3 ≤ l2 then (jf_X12_isHere_B61 l1 l2 s0) else (if 0 ≤ l2 ∧ l2 < ((1600 : Nat) : Int) then jl_bd (jf_X12_isLetter (jl_g s0 207 (l2).toNat) s0) fun r16 s17 => if r16 = (0 : Int) then (jf_X12_isHere_B61 l1 l2 s17) else (jf_X12_isHere_L35 n l1 (jl_add l2 1) s17) else none)
set_option maxRecDepth 20000 in
set_option maxHeartbeats 2000000 in
theorem jj_X12_isHere_L35 (G : jl_GC) : ∀ (n : Nat) (l1 : Nat) (l2 : Int) (hl1 : (jl_kd l1).1 = 22) (hl2 : jl_n3 l2) (s0 : jl_Mm), j2 G jM_X12_isHere 35 [(0, jl_vr G 206), (1, jl_vr G l1), (2, jl_vi l2)] [] s0 (jf_X12_isHere_L35 n l1 l2 s0) := by
  intro n
  induction n with
  | zero =>
    intros
    exact jr_none
  | succ n ih =>
    intro l1 l2 hl1 hl2 s0
    refine jr_iload_n dX12_isHere_35 2 rfl ?_
    refine jr_aload_n dX12_isHere_36 0 rfl ?_
    refine jr_geti (i := 3) jc_12 jk_206 (by decide) (Nat.le_of_ble_eq_true rfl) jlk_206_3 jft_12_3 jw_1208 dX12_isHere_37 ?_
    refine jr_icmp_ge (t := 61) dX12_isHere_40 (by decide) hl2 (jl_n3_to _) (fun c9 => ?_) (fun c9 => ?_)
    · exact jj_X12_isHere_B61 G l1 l2 hl1 hl2 s0
    · refine jr_aload_n dX12_isHere_43 0 rfl ?_
      refine jr_getk (i := 0) jc_12 jk_206 (by decide) (Nat.le_of_ble_eq_true rfl) jlk_206_0 jw_1205 dX12_isHere_44 ?_
      refine jr_iload_n dX12_isHere_47 2 rfl ?_
      refine jr_grd (fun g15 => ?_)
      refine jr_iaload jk_207 (by decide) hl2 g15 dX12_isHere_48 ?_
      refine j2_callSz (As := [jl_vi (jl_g s0 207 (l2).toNat)]) dX12_isHere_49 (jt_X12_isLetter G (jl_g s0 207 (l2).toNat) (jl_n3_to _) s0) jv_X12_isLetter ⟨rfl, rfl, rfl⟩ jw_1574 ⟨Nat.le_of_ble_eq_true rfl, Nat.le_of_ble_eq_true rfl⟩ rfl (Nat.le_of_ble_eq_true rfl) (fun r16 s17 hr16 => ?_)
      refine jr_if_eq (t := 61) dX12_isHere_52 (by decide) (jl_nz hr16) (fun c18 => ?_) (fun c18 => ?_)
      · exact jj_X12_isHere_B61 G l1 l2 hl1 hl2 s17
      · refine jr_iinc (j := 2) (lv := [(2, jl_vi (jl_add l2 1)), (0, jl_vr G 206), (1, jl_vr G l1)]) dX12_isHere_55 rfl (Nat.le_of_ble_eq_true rfl) rfl ?_
        refine jr_goto (t := 35) dX12_isHere_58 (by decide) ?_
        refine jr_sub [1, 2, 0] rfl ?_
        exact ih l1 (jl_add l2 1) hl1 (jl_n3_to _) s17
def jf_X12_isHere (q1 : Nat) (s0 : jl_Mm) : jl_O :=
  if (jl_kd q1).1 = 22 then if jl_g s0 206 5 = (0 : Int) then (jl_bd (jf_X12_look s0) fun r2 s3 => jl_bd (jf_X12_isLetter r2 s3) fun r4 s5 => if r4 = (0 : Int) then (jf_X12_isHere_B28 s5) else (if jl_g s5 206 2 = jl_g s5 206 4 then (jf_X12_isHere_B28 s5) else (jl_let (jl_g s5 206 2) fun x8 => jf_X12_isHere_L35 jl_fu q1 x8 s5))) else (jf_X12_isHere_B28 s0) else none
set_option maxRecDepth 20000 in
set_option maxHeartbeats 2000000 in
theorem jt_X12_isHere (G : jl_GC) (q1 : Nat) (s0 : jl_Mm) : jC2 G jM_X12_isHere [jl_vr G 206, jl_vr G q1] s0 (jf_X12_isHere q1 s0) := by
  refine jl_met (plainFor_of_name rfl) (Nat.le_of_ble_eq_true rfl) ?_
  show j2 G jM_X12_isHere 0 [(0, jl_vr G 206), (1, jl_vr G q1)] [] s0 _
  refine jr_grd (fun gp1 => ?_)
  refine jr_aload_n dX12_isHere_0 0 rfl ?_
  refine jr_geti (i := 5) jc_12 jk_206 (by decide) (Nat.le_of_ble_eq_true rfl) jlk_206_5 jft_12_5 jw_1210 dX12_isHere_1 ?_
  refine jr_if_ne (t := 28) dX12_isHere_4 (by decide) (jl_n3_to _) (fun c1 => ?_) (fun c1 => ?_)
  · refine jr_aload_n dX12_isHere_7 0 rfl ?_
    refine j2_callVi (As := []) dX12_isHere_8 (jt_X12_look G s0) jv_X12_look ⟨rfl, rfl, rfl⟩ jw_1570 jk_206 (by decide) (by decide) rfl ⟨Nat.le_of_ble_eq_true rfl, Nat.le_of_ble_eq_true rfl⟩ rfl (Nat.le_of_ble_eq_true rfl) (fun r2 s3 hr2 => ?_)
    refine j2_callSz (As := [jl_vi r2]) dX12_isHere_11 (jt_X12_isLetter G r2 hr2 s3) jv_X12_isLetter ⟨rfl, rfl, rfl⟩ jw_1574 ⟨Nat.le_of_ble_eq_true rfl, Nat.le_of_ble_eq_true rfl⟩ rfl (Nat.le_of_ble_eq_true rfl) (fun r4 s5 hr4 => ?_)
    refine jr_if_eq (t := 28) dX12_isHere_14 (by decide) (jl_nz hr4) (fun c6 => ?_) (fun c6 => ?_)
    · refine jr_sub [] rfl ?_
      exact jj_X12_isHere_B28 G s5
    · refine jr_aload_n dX12_isHere_17 0 rfl ?_
      refine jr_geti (i := 2) jc_12 jk_206 (by decide) (Nat.le_of_ble_eq_true rfl) jlk_206_2 jft_12_2 jw_1207 dX12_isHere_18 ?_
      refine jr_aload_n dX12_isHere_21 0 rfl ?_
      refine jr_geti (i := 4) jc_12 jk_206 (by decide) (Nat.le_of_ble_eq_true rfl) jlk_206_4 jft_12_4 jw_1209 dX12_isHere_22 ?_
      refine jr_icmp_ne (t := 30) dX12_isHere_25 (by decide) (jl_n3_to _) (jl_n3_to _) (fun c7 => ?_) (fun c7 => ?_)
      · refine jr_sub [] rfl ?_
        exact jj_X12_isHere_B28 G s5
      · refine jr_aload_n dX12_isHere_30 0 rfl ?_
        refine jr_geti (i := 2) jc_12 jk_206 (by decide) (Nat.le_of_ble_eq_true rfl) jlk_206_2 jft_12_2 jw_1207 dX12_isHere_31 ?_
        refine jr_let (jl_n3_to _) (fun x8 hx8 => ?_)
        refine jr_istore_n (lv := [(2, jl_vi x8), (0, jl_vr G 206), (1, jl_vr G q1)]) dX12_isHere_34 rfl (Nat.le_of_ble_eq_true rfl) rfl ?_
        refine jr_sub [1, 2, 0] rfl ?_
        exact jj_X12_isHere_L35 G jl_fu q1 x8 gp1 hx8 s5
  · refine jr_sub [] rfl ?_
    exact jj_X12_isHere_B28 G s0
def jf_X12_takes (q1 : Nat) (s0 : jl_Mm) : jl_O :=
  if (jl_kd q1).1 = 22 then jl_bd (jf_X12_isHere q1 s0) fun r1 s2 => if r1 = (0 : Int) then (jl_zb (0 : Int) s2) else (jl_lm (jl_up s2 206 2 (jl_add (jl_g s2 206 2) (((jl_kd q1).2 : Nat) : Int))) fun s4 => jl_lm (jl_up s4 206 4 (jl_g s4 206 2)) fun s5 => jl_zb (1 : Int) s5) else none
set_option maxRecDepth 20000 in
set_option maxHeartbeats 2000000 in
theorem jt_X12_takes (G : jl_GC) (q1 : Nat) (s0 : jl_Mm) : jC2 G jM_X12_takes [jl_vr G 206, jl_vr G q1] s0 (jf_X12_takes q1 s0) := by
  refine jl_met (plainFor_of_name rfl) (Nat.le_of_ble_eq_true rfl) ?_
  show j2 G jM_X12_takes 0 [(0, jl_vr G 206), (1, jl_vr G q1)] [] s0 _
  refine jr_grd (fun gp1 => ?_)
  refine jr_aload_n dX12_takes_0 0 rfl ?_
  refine jr_aload_n dX12_takes_1 1 rfl ?_
  refine j2_callVz (As := [jl_vr G q1]) dX12_takes_2 (jt_X12_isHere G q1 s0) jv_X12_isHere ⟨rfl, rfl, rfl⟩ jw_1566 jk_206 (by decide) (by decide) rfl ⟨Nat.le_of_ble_eq_true rfl, Nat.le_of_ble_eq_true rfl⟩ rfl (Nat.le_of_ble_eq_true rfl) (fun r1 s2 hr1 => ?_)
  refine jr_if_ne (t := 10) dX12_takes_5 (by decide) (jl_nz hr1) (fun c3 => ?_) (fun c3 => ?_)
  · refine jr_iconst dX12_takes_8 ?_
    exact jr_ret_z rfl dX12_takes_9
  · refine jr_aload_n dX12_takes_10 0 rfl ?_
    refine jr_dup dX12_takes_11 rfl ?_
    refine jr_geti (i := 2) jc_12 jk_206 (by decide) (Nat.le_of_ble_eq_true rfl) jlk_206_2 jft_12_2 jw_1207 dX12_takes_12 ?_
    refine jr_aload_n dX12_takes_15 1 rfl ?_
    refine jr_alen (jl_kd1 gp1) (Or.inr ⟨rfl, rfl⟩) (jl_kdlt gp1 (by decide)) dX12_takes_16 ?_
    refine jr_iadd dX12_takes_17 ?_
    refine jr_puti (i := 2) jc_12 jk_206 (by decide) (Nat.le_of_ble_eq_true rfl) jlk_206_2 jft_12_2 rfl jw_1207 rfl dX12_takes_18 ?_
    refine jr_lm (fun s4 => ?_)
    refine jr_aload_n dX12_takes_21 0 rfl ?_
    refine jr_aload_n dX12_takes_22 0 rfl ?_
    refine jr_geti (i := 2) jc_12 jk_206 (by decide) (Nat.le_of_ble_eq_true rfl) jlk_206_2 jft_12_2 jw_1207 dX12_takes_23 ?_
    refine jr_puti (i := 4) jc_12 jk_206 (by decide) (Nat.le_of_ble_eq_true rfl) jlk_206_4 jft_12_4 rfl jw_1209 rfl dX12_takes_26 ?_
    refine jr_lm (fun s5 => ?_)
    refine jr_iconst dX12_takes_29 ?_
    exact jr_ret_z rfl dX12_takes_30
def jf_X12_asks_B24 (s0 : jl_Mm) : jl_O :=
  some (0, s0)
set_option maxRecDepth 20000 in
set_option maxHeartbeats 2000000 in
theorem jj_X12_asks_B24 (G : jl_GC) (s0 : jl_Mm) : j2 G jM_X12_asks 24 [] [] s0 (jf_X12_asks_B24 s0) := by
  exact jr_ret_v rfl dX12_asks_24
def jf_X12_asks (q1 : Nat) (s0 : jl_Mm) : jl_O :=
  if (jl_kd q1).1 = 22 then if jl_g s0 206 5 = (0 : Int) then (jl_bd (jf_X12_takes q1 s0) fun r2 s3 => if r2 = (0 : Int) then (jl_bd (jf_X12_fail (1 : Int) (jl_g s3 206 2) s3) fun r5 s6 => jf_X12_asks_B24 s6) else (jf_X12_asks_B24 s3)) else (jf_X12_asks_B24 s0) else none
set_option maxRecDepth 20000 in
set_option maxHeartbeats 2000000 in
theorem jt_X12_asks (G : jl_GC) (q1 : Nat) (s0 : jl_Mm) : jC2 G jM_X12_asks [jl_vr G 206, jl_vr G q1] s0 (jf_X12_asks q1 s0) := by
  refine jl_met (plainFor_of_name rfl) (Nat.le_of_ble_eq_true rfl) ?_
  show j2 G jM_X12_asks 0 [(0, jl_vr G 206), (1, jl_vr G q1)] [] s0 _
  refine jr_grd (fun gp1 => ?_)
  refine jr_aload_n dX12_asks_0 0 rfl ?_
  refine jr_geti (i := 5) jc_12 jk_206 (by decide) (Nat.le_of_ble_eq_true rfl) jlk_206_5 jft_12_5 jw_1210 dX12_asks_1 ?_
  refine jr_if_ne (t := 24) dX12_asks_4 (by decide) (jl_n3_to _) (fun c1 => ?_) (fun c1 => ?_)
  · refine jr_aload_n dX12_asks_7 0 rfl ?_
    refine jr_aload_n dX12_asks_8 1 rfl ?_
    refine j2_callVz (As := [jl_vr G q1]) dX12_asks_9 (jt_X12_takes G q1 s0) jv_X12_takes ⟨rfl, rfl, rfl⟩ jw_1562 jk_206 (by decide) (by decide) rfl ⟨Nat.le_of_ble_eq_true rfl, Nat.le_of_ble_eq_true rfl⟩ rfl (Nat.le_of_ble_eq_true rfl) (fun r2 s3 hr2 => ?_)
    refine jr_if_ne (t := 24) dX12_asks_12 (by decide) (jl_nz hr2) (fun c4 => ?_) (fun c4 => ?_)
    · refine jr_aload_n dX12_asks_15 0 rfl ?_
      refine jr_iconst dX12_asks_16 ?_
      refine jr_aload_n dX12_asks_17 0 rfl ?_
      refine jr_geti (i := 2) jc_12 jk_206 (by decide) (Nat.le_of_ble_eq_true rfl) jlk_206_2 jft_12_2 jw_1207 dX12_asks_18 ?_
      refine j2_callVv (As := [jl_vi (1 : Int), jl_vi (jl_g s3 206 2)]) dX12_asks_21 (jt_X12_fail G (1 : Int) (jl_g s3 206 2) (jl_nlit rfl) (jl_n3_to _) s3) jv_X12_fail ⟨rfl, rfl, rfl⟩ jw_1577 jk_206 (by decide) (by decide) rfl ⟨Nat.le_of_ble_eq_true rfl, Nat.le_of_ble_eq_true rfl⟩ rfl (Nat.le_of_ble_eq_true rfl) (fun r5 s6 hr5 => ?_)
      refine jr_sub [] rfl ?_
      exact jj_X12_asks_B24 G s6
    · refine jr_sub [] rfl ?_
      exact jj_X12_asks_B24 G s3
  · refine jr_sub [] rfl ?_
    exact jj_X12_asks_B24 G s0
def jf_X12_takesSign_B15 (s0 : jl_Mm) : jl_O :=
  jl_zb (0 : Int) s0
set_option maxRecDepth 20000 in
set_option maxHeartbeats 2000000 in
theorem jj_X12_takesSign_B15 (G : jl_GC) (s0 : jl_Mm) : j2 G jM_X12_takesSign 15 [] [] s0 (jf_X12_takesSign_B15 s0) := by
  refine jr_iconst dX12_takesSign_15 ?_
  exact jr_ret_z rfl dX12_takesSign_16
def jf_X12_takesSign (v1 : Int) (s0 : jl_Mm) : jl_O :=
  if jl_g s0 206 5 = (0 : Int) then (jl_bd (jf_X12_look s0) fun r2 s3 => if r2 = v1 then (jl_lm (jl_up s3 206 2 (jl_add (jl_g s3 206 2) (1 : Int))) fun s5 => jl_zb (1 : Int) s5) else (jf_X12_takesSign_B15 s3)) else (jf_X12_takesSign_B15 s0)
set_option maxRecDepth 20000 in
set_option maxHeartbeats 2000000 in
theorem jt_X12_takesSign (G : jl_GC) (v1 : Int) (h1 : jl_n3 v1) (s0 : jl_Mm) : jC2 G jM_X12_takesSign [jl_vr G 206, jl_vi v1] s0 (jf_X12_takesSign v1 s0) := by
  refine jl_met (plainFor_of_name rfl) (Nat.le_of_ble_eq_true rfl) ?_
  show j2 G jM_X12_takesSign 0 [(0, jl_vr G 206), (1, jl_vi v1)] [] s0 _
  refine jr_aload_n dX12_takesSign_0 0 rfl ?_
  refine jr_geti (i := 5) jc_12 jk_206 (by decide) (Nat.le_of_ble_eq_true rfl) jlk_206_5 jft_12_5 jw_1210 dX12_takesSign_1 ?_
  refine jr_if_ne (t := 15) dX12_takesSign_4 (by decide) (jl_n3_to _) (fun c1 => ?_) (fun c1 => ?_)
  · refine jr_aload_n dX12_takesSign_7 0 rfl ?_
    refine j2_callVi (As := []) dX12_takesSign_8 (jt_X12_look G s0) jv_X12_look ⟨rfl, rfl, rfl⟩ jw_1570 jk_206 (by decide) (by decide) rfl ⟨Nat.le_of_ble_eq_true rfl, Nat.le_of_ble_eq_true rfl⟩ rfl (Nat.le_of_ble_eq_true rfl) (fun r2 s3 hr2 => ?_)
    refine jr_iload_n dX12_takesSign_11 1 rfl ?_
    refine jr_icmp_eq (t := 17) dX12_takesSign_12 (by decide) hr2 h1 (fun c4 => ?_) (fun c4 => ?_)
    · refine jr_aload_n dX12_takesSign_17 0 rfl ?_
      refine jr_dup dX12_takesSign_18 rfl ?_
      refine jr_geti (i := 2) jc_12 jk_206 (by decide) (Nat.le_of_ble_eq_true rfl) jlk_206_2 jft_12_2 jw_1207 dX12_takesSign_19 ?_
      refine jr_iconst dX12_takesSign_22 ?_
      refine jr_iadd dX12_takesSign_23 ?_
      refine jr_puti (i := 2) jc_12 jk_206 (by decide) (Nat.le_of_ble_eq_true rfl) jlk_206_2 jft_12_2 rfl jw_1207 rfl dX12_takesSign_24 ?_
      refine jr_lm (fun s5 => ?_)
      refine jr_iconst dX12_takesSign_27 ?_
      exact jr_ret_z rfl dX12_takesSign_28
    · refine jr_sub [] rfl ?_
      exact jj_X12_takesSign_B15 G s3
  · refine jr_sub [] rfl ?_
    exact jj_X12_takesSign_B15 G s0
def jf_X12_asksSign_B24 (s0 : jl_Mm) : jl_O :=
  some (0, s0)
set_option maxRecDepth 20000 in
set_option maxHeartbeats 2000000 in
theorem jj_X12_asksSign_B24 (G : jl_GC) (s0 : jl_Mm) : j2 G jM_X12_asksSign 24 [] [] s0 (jf_X12_asksSign_B24 s0) := by
  exact jr_ret_v rfl dX12_asksSign_24
def jf_X12_asksSign (v1 : Int) (s0 : jl_Mm) : jl_O :=
  if jl_g s0 206 5 = (0 : Int) then (jl_bd (jf_X12_takesSign v1 s0) fun r2 s3 => if r2 = (0 : Int) then (jl_bd (jf_X12_fail (1 : Int) (jl_g s3 206 2) s3) fun r5 s6 => jf_X12_asksSign_B24 s6) else (jf_X12_asksSign_B24 s3)) else (jf_X12_asksSign_B24 s0)
set_option maxRecDepth 20000 in
set_option maxHeartbeats 2000000 in
theorem jt_X12_asksSign (G : jl_GC) (v1 : Int) (h1 : jl_n3 v1) (s0 : jl_Mm) : jC2 G jM_X12_asksSign [jl_vr G 206, jl_vi v1] s0 (jf_X12_asksSign v1 s0) := by
  refine jl_met (plainFor_of_name rfl) (Nat.le_of_ble_eq_true rfl) ?_
  show j2 G jM_X12_asksSign 0 [(0, jl_vr G 206), (1, jl_vi v1)] [] s0 _
  refine jr_aload_n dX12_asksSign_0 0 rfl ?_
  refine jr_geti (i := 5) jc_12 jk_206 (by decide) (Nat.le_of_ble_eq_true rfl) jlk_206_5 jft_12_5 jw_1210 dX12_asksSign_1 ?_
  refine jr_if_ne (t := 24) dX12_asksSign_4 (by decide) (jl_n3_to _) (fun c1 => ?_) (fun c1 => ?_)
  · refine jr_aload_n dX12_asksSign_7 0 rfl ?_
    refine jr_iload_n dX12_asksSign_8 1 rfl ?_
    refine j2_callVz (As := [jl_vi v1]) dX12_asksSign_9 (jt_X12_takesSign G v1 h1 s0) jv_X12_takesSign ⟨rfl, rfl, rfl⟩ jw_1595 jk_206 (by decide) (by decide) rfl ⟨Nat.le_of_ble_eq_true rfl, Nat.le_of_ble_eq_true rfl⟩ rfl (Nat.le_of_ble_eq_true rfl) (fun r2 s3 hr2 => ?_)
    refine jr_if_ne (t := 24) dX12_asksSign_12 (by decide) (jl_nz hr2) (fun c4 => ?_) (fun c4 => ?_)
    · refine jr_aload_n dX12_asksSign_15 0 rfl ?_
      refine jr_iconst dX12_asksSign_16 ?_
      refine jr_aload_n dX12_asksSign_17 0 rfl ?_
      refine jr_geti (i := 2) jc_12 jk_206 (by decide) (Nat.le_of_ble_eq_true rfl) jlk_206_2 jft_12_2 jw_1207 dX12_asksSign_18 ?_
      refine j2_callVv (As := [jl_vi (1 : Int), jl_vi (jl_g s3 206 2)]) dX12_asksSign_21 (jt_X12_fail G (1 : Int) (jl_g s3 206 2) (jl_nlit rfl) (jl_n3_to _) s3) jv_X12_fail ⟨rfl, rfl, rfl⟩ jw_1577 jk_206 (by decide) (by decide) rfl ⟨Nat.le_of_ble_eq_true rfl, Nat.le_of_ble_eq_true rfl⟩ rfl (Nat.le_of_ble_eq_true rfl) (fun r5 s6 hr5 => ?_)
      refine jr_sub [] rfl ?_
      exact jj_X12_asksSign_B24 G s6
    · refine jr_sub [] rfl ?_
      exact jj_X12_asksSign_B24 G s3
  · refine jr_sub [] rfl ?_
    exact jj_X12_asksSign_B24 G s0
def jf_X12_number_B30 (s0 : jl_Mm) : jl_O :=
  jl_bd (jf_X12_fail (1 : Int) (jl_g s0 206 2) s0) fun r7 s8 => some ((0 : Int), s8)
set_option maxRecDepth 20000 in
set_option maxHeartbeats 2000000 in
theorem jj_X12_number_B30 (G : jl_GC) (s0 : jl_Mm) : j2 G jM_X12_number 30 [(0, jl_vr G 206)] [] s0 (jf_X12_number_B30 s0) := by
  refine jr_aload_n dX12_number_30 0 rfl ?_
  refine jr_iconst dX12_number_31 ?_
  refine jr_aload_n dX12_number_32 0 rfl ?_
  refine jr_geti (i := 2) jc_12 jk_206 (by decide) (Nat.le_of_ble_eq_true rfl) jlk_206_2 jft_12_2 jw_1207 dX12_number_33 ?_
  refine j2_callVv (As := [jl_vi (1 : Int), jl_vi (jl_g s0 206 2)]) dX12_number_36 (jt_X12_fail G (1 : Int) (jl_g s0 206 2) (jl_nlit rfl) (jl_n3_to _) s0) jv_X12_fail ⟨rfl, rfl, rfl⟩ jw_1577 jk_206 (by decide) (by decide) rfl ⟨Nat.le_of_ble_eq_true rfl, Nat.le_of_ble_eq_true rfl⟩ rfl (Nat.le_of_ble_eq_true rfl) (fun r7 s8 hr7 => ?_)
  refine jr_iconst dX12_number_39 ?_
  exact jr_ret_i rfl (jl_nlit rfl) dX12_number_40
def jf_X12_number_B164 (l4 : Int) (s0 : jl_Mm) : jl_O :=
  some (l4, s0)
set_option maxRecDepth 20000 in
set_option maxHeartbeats 2000000 in
theorem jj_X12_number_B164 (G : jl_GC) (l4 : Int) (hl4 : jl_n3 l4) (s0 : jl_Mm) : j2 G jM_X12_number 164 [(4, jl_vi l4)] [] s0 (jf_X12_number_B164 l4 s0) := by
  refine jr_iload dX12_number_164 0 rfl ?_
  exact jr_ret_i rfl hl4 dX12_number_166
def jf_X12_number_B129 (l1 : Int) (l2 : Int) (l3 : Int) (l4 : Int) (s0 : jl_Mm) : jl_O :=
  jl_lm (jl_up s0 206 4 (jl_g s0 206 2)) fun s12 => jl_lm (jl_up s12 206 10 l3) fun s13 => jl_bd (jf_X12_isIn l4 l1 l2 s13) fun r14 s15 => if r14 = (0 : Int) then (jl_bd (jf_X12_fail (2 : Int) (jl_g s15 206 10) s15) fun r17 s18 => jf_X12_number_B164 l4 s18) else (jf_X12_number_B164 l4 s15)
set_option maxRecDepth 20000 in
set_option maxHeartbeats 2000000 in
theorem jj_X12_number_B129 (G : jl_GC) (l1 : Int) (l2 : Int) (l3 : Int) (l4 : Int) (hl1 : jl_n3 l1) (hl2 : jl_n3 l2) (hl3 : jl_n3 l3) (hl4 : jl_n3 l4) (s0 : jl_Mm) : j2 G jM_X12_number 129 [(0, jl_vr G 206), (1, jl_vi l1), (2, jl_vi l2), (3, jl_vi l3), (4, jl_vi l4)] [] s0 (jf_X12_number_B129 l1 l2 l3 l4 s0) := by
  refine jr_aload_n dX12_number_129 0 rfl ?_
  refine jr_aload_n dX12_number_130 0 rfl ?_
  refine jr_geti (i := 2) jc_12 jk_206 (by decide) (Nat.le_of_ble_eq_true rfl) jlk_206_2 jft_12_2 jw_1207 dX12_number_131 ?_
  refine jr_puti (i := 4) jc_12 jk_206 (by decide) (Nat.le_of_ble_eq_true rfl) jlk_206_4 jft_12_4 rfl jw_1209 rfl dX12_number_134 ?_
  refine jr_lm (fun s12 => ?_)
  refine jr_aload_n dX12_number_137 0 rfl ?_
  refine jr_iload_n dX12_number_138 3 rfl ?_
  refine jr_puti (i := 10) jc_12 jk_206 (by decide) (Nat.le_of_ble_eq_true rfl) jlk_206_10 jft_12_10 rfl jw_1215 rfl dX12_number_139 ?_
  refine jr_lm (fun s13 => ?_)
  refine jr_iload dX12_number_142 4 rfl ?_
  refine jr_i2l dX12_number_144 hl4 ?_
  refine jr_iload_n dX12_number_145 1 rfl ?_
  refine jr_i2l dX12_number_146 hl1 ?_
  refine jr_iload_n dX12_number_147 2 rfl ?_
  refine jr_i2l dX12_number_148 hl2 ?_
  refine j2_callSz (As := [jl_vl l4, jl_vl l1, jl_vl l2]) dX12_number_149 (jt_X12_isIn G l4 l1 l2 (jl_n36 hl4) (jl_n36 hl1) (jl_n36 hl2) s13) jv_X12_isIn ⟨rfl, rfl, rfl⟩ jw_1588 ⟨Nat.le_of_ble_eq_true rfl, Nat.le_of_ble_eq_true rfl⟩ rfl (Nat.le_of_ble_eq_true rfl) (fun r14 s15 hr14 => ?_)
  refine jr_if_ne (t := 164) dX12_number_152 (by decide) (jl_nz hr14) (fun c16 => ?_) (fun c16 => ?_)
  · refine jr_aload_n dX12_number_155 0 rfl ?_
    refine jr_iconst dX12_number_156 ?_
    refine jr_aload_n dX12_number_157 0 rfl ?_
    refine jr_geti (i := 10) jc_12 jk_206 (by decide) (Nat.le_of_ble_eq_true rfl) jlk_206_10 jft_12_10 jw_1215 dX12_number_158 ?_
    refine j2_callVv (As := [jl_vi (2 : Int), jl_vi (jl_g s15 206 10)]) dX12_number_161 (jt_X12_fail G (2 : Int) (jl_g s15 206 10) (jl_nlit rfl) (jl_n3_to _) s15) jv_X12_fail ⟨rfl, rfl, rfl⟩ jw_1577 jk_206 (by decide) (by decide) rfl ⟨Nat.le_of_ble_eq_true rfl, Nat.le_of_ble_eq_true rfl⟩ rfl (Nat.le_of_ble_eq_true rfl) (fun r17 s18 hr17 => ?_)
    refine jr_sub [4] rfl ?_
    exact jj_X12_number_B164 G l4 hl4 s18
  · refine jr_sub [4] rfl ?_
    exact jj_X12_number_B164 G l4 hl4 s15
def jf_X12_number_L49 : Nat → Int → Int → Int → Int → jl_Mm → jl_O
  | 0, _, _, _, _, _ => none
  | n + 1, l1, l2, l3, l4, s0 =>
    if jl_g s0 206 3 ≤ jl_g s0 206 2 then (jf_X12_number_B129 l1 l2 l3 l4 s0) else (if 0 ≤ jl_g s0 206 2 ∧ jl_g s0 206 2 < ((1600 : Nat) : Int) then jl_bd (jf_X12_isDigit (jl_g s0 207 (jl_g s0 206 2).toNat) s0) fun r20 s21 => if r20 = (0 : Int) then (jf_X12_number_B129 l1 l2 l3 l4 s21) else (if jl_sub (jl_g s21 206 2) l3 = (4 : Int) then (jl_bd (jf_X12_fail (1 : Int) (jl_g s21 206 2) s21) fun r27 s28 => some ((0 : Int), s28)) else (if 0 ≤ jl_g s21 206 2 ∧ jl_g s21 206 2 < ((1600 : Nat) : Int) then jl_let (jl_sub (jl_add (jl_mul (10 : Int) l4) (jl_g s21 207 (jl_g s21 206 2).toNat)) (48 : Int)) fun x25 => jl_lm (jl_up s21 206 2 (jl_add (jl_g s21 206 2) (1 : Int))) fun s26 => jf_X12_number_L49 n l1 l2 l3 x25 s26 else none)) else none)
set_option maxRecDepth 20000 in
set_option maxHeartbeats 2000000 in
theorem jj_X12_number_L49 (G : jl_GC) : ∀ (n : Nat) (l1 : Int) (l2 : Int) (l3 : Int) (l4 : Int) (hl1 : jl_n3 l1) (hl2 : jl_n3 l2) (hl3 : jl_n3 l3) (hl4 : jl_n3 l4) (s0 : jl_Mm), j2 G jM_X12_number 49 [(0, jl_vr G 206), (1, jl_vi l1), (2, jl_vi l2), (3, jl_vi l3), (4, jl_vi l4)] [] s0 (jf_X12_number_L49 n l1 l2 l3 l4 s0) := by
  intro n
  induction n with
  | zero =>
    intros
    exact jr_none
  | succ n ih =>
    intro l1 l2 l3 l4 hl1 hl2 hl3 hl4 s0
    refine jr_aload_n dX12_number_49 0 rfl ?_
    refine jr_geti (i := 2) jc_12 jk_206 (by decide) (Nat.le_of_ble_eq_true rfl) jlk_206_2 jft_12_2 jw_1207 dX12_number_50 ?_
    refine jr_aload_n dX12_number_53 0 rfl ?_
    refine jr_geti (i := 3) jc_12 jk_206 (by decide) (Nat.le_of_ble_eq_true rfl) jlk_206_3 jft_12_3 jw_1208 dX12_number_54 ?_
    refine jr_icmp_ge (t := 129) dX12_number_57 (by decide) (jl_n3_to _) (jl_n3_to _) (fun c11 => ?_) (fun c11 => ?_)
    · exact jj_X12_number_B129 G l1 l2 l3 l4 hl1 hl2 hl3 hl4 s0
    · refine jr_aload_n dX12_number_60 0 rfl ?_
      refine jr_getk (i := 0) jc_12 jk_206 (by decide) (Nat.le_of_ble_eq_true rfl) jlk_206_0 jw_1205 dX12_number_61 ?_
      refine jr_aload_n dX12_number_64 0 rfl ?_
      refine jr_geti (i := 2) jc_12 jk_206 (by decide) (Nat.le_of_ble_eq_true rfl) jlk_206_2 jft_12_2 jw_1207 dX12_number_65 ?_
      refine jr_grd (fun g19 => ?_)
      refine jr_iaload jk_207 (by decide) (jl_n3_to _) g19 dX12_number_68 ?_
      refine j2_callSz (As := [jl_vi (jl_g s0 207 (jl_g s0 206 2).toNat)]) dX12_number_69 (jt_X12_isDigit G (jl_g s0 207 (jl_g s0 206 2).toNat) (jl_n3_to _) s0) jv_X12_isDigit ⟨rfl, rfl, rfl⟩ jw_1585 ⟨Nat.le_of_ble_eq_true rfl, Nat.le_of_ble_eq_true rfl⟩ rfl (Nat.le_of_ble_eq_true rfl) (fun r20 s21 hr20 => ?_)
      refine jr_if_eq (t := 129) dX12_number_72 (by decide) (jl_nz hr20) (fun c22 => ?_) (fun c22 => ?_)
      · exact jj_X12_number_B129 G l1 l2 l3 l4 hl1 hl2 hl3 hl4 s21
      · refine jr_aload_n dX12_number_75 0 rfl ?_
        refine jr_geti (i := 2) jc_12 jk_206 (by decide) (Nat.le_of_ble_eq_true rfl) jlk_206_2 jft_12_2 jw_1207 dX12_number_76 ?_
        refine jr_iload_n dX12_number_79 3 rfl ?_
        refine jr_isub dX12_number_80 ?_
        refine jr_iconst dX12_number_81 ?_
        refine jr_icmp_ne (t := 96) dX12_number_82 (by decide) (jl_n3_to _) (jl_nlit rfl) (fun c23 => ?_) (fun c23 => ?_)
        · refine jr_aload_n dX12_number_85 0 rfl ?_
          refine jr_iconst dX12_number_86 ?_
          refine jr_aload_n dX12_number_87 0 rfl ?_
          refine jr_geti (i := 2) jc_12 jk_206 (by decide) (Nat.le_of_ble_eq_true rfl) jlk_206_2 jft_12_2 jw_1207 dX12_number_88 ?_
          refine j2_callVv (As := [jl_vi (1 : Int), jl_vi (jl_g s21 206 2)]) dX12_number_91 (jt_X12_fail G (1 : Int) (jl_g s21 206 2) (jl_nlit rfl) (jl_n3_to _) s21) jv_X12_fail ⟨rfl, rfl, rfl⟩ jw_1577 jk_206 (by decide) (by decide) rfl ⟨Nat.le_of_ble_eq_true rfl, Nat.le_of_ble_eq_true rfl⟩ rfl (Nat.le_of_ble_eq_true rfl) (fun r27 s28 hr27 => ?_)
          refine jr_iconst dX12_number_94 ?_
          exact jr_ret_i rfl (jl_nlit rfl) dX12_number_95
        · refine jr_bipush dX12_number_96 (by decide) ?_
          refine jr_iload dX12_number_98 4 rfl ?_
          refine jr_imul dX12_number_100 ?_
          refine jr_aload_n dX12_number_101 0 rfl ?_
          refine jr_getk (i := 0) jc_12 jk_206 (by decide) (Nat.le_of_ble_eq_true rfl) jlk_206_0 jw_1205 dX12_number_102 ?_
          refine jr_aload_n dX12_number_105 0 rfl ?_
          refine jr_geti (i := 2) jc_12 jk_206 (by decide) (Nat.le_of_ble_eq_true rfl) jlk_206_2 jft_12_2 jw_1207 dX12_number_106 ?_
          refine jr_grd (fun g24 => ?_)
          refine jr_iaload jk_207 (by decide) (jl_n3_to _) g24 dX12_number_109 ?_
          refine jr_iadd dX12_number_110 ?_
          refine jr_bipush dX12_number_111 (by decide) ?_
          refine jr_isub dX12_number_113 ?_
          refine jr_let (jl_n3_to _) (fun x25 hx25 => ?_)
          refine jr_istore (lv := [(4, jl_vi x25), (0, jl_vr G 206), (1, jl_vi l1), (2, jl_vi l2), (3, jl_vi l3)]) dX12_number_114 (Nat.le_of_ble_eq_true rfl) rfl ?_
          refine jr_aload_n dX12_number_116 1 rfl ?_
          refine jr_dup dX12_number_117 rfl ?_
          refine jr_geti (i := 2) jc_12 jk_206 (by decide) (Nat.le_of_ble_eq_true rfl) jlk_206_2 jft_12_2 jw_1207 dX12_number_118 ?_
          refine jr_iconst dX12_number_121 ?_
          refine jr_iadd dX12_number_122 ?_
          refine jr_puti (i := 2) jc_12 jk_206 (by decide) (Nat.le_of_ble_eq_true rfl) jlk_206_2 jft_12_2 rfl jw_1207 rfl dX12_number_123 ?_
          refine jr_lm (fun s26 => ?_)
          refine jr_goto (t := 49) dX12_number_126 (by decide) ?_
          refine jr_sub [1, 2, 3, 4, 0] rfl ?_
          exact ih l1 l2 l3 x25 hl1 hl2 hl3 hx25 s26
def jf_X12_number (v1 : Int) (v2 : Int) (s0 : jl_Mm) : jl_O :=
  if jl_g s0 206 5 = (0 : Int) then (jl_bd (jf_X12_look s0) fun r2 s3 => jl_bd (jf_X12_isDigit r2 s3) fun r4 s5 => if r4 = (0 : Int) then (jf_X12_number_B30 s5) else (if jl_g s5 206 2 = jl_g s5 206 4 then (jf_X12_number_B30 s5) else (jl_let (jl_g s5 206 2) fun x10 => jf_X12_number_L49 jl_fu v1 v2 x10 (0 : Int) s5))) else (some ((0 : Int), s0))
set_option maxRecDepth 20000 in
set_option maxHeartbeats 2000000 in
theorem jt_X12_number (G : jl_GC) (v1 : Int) (v2 : Int) (h1 : jl_n3 v1) (h2 : jl_n3 v2) (s0 : jl_Mm) : jC2 G jM_X12_number [jl_vr G 206, jl_vi v1, jl_vi v2] s0 (jf_X12_number v1 v2 s0) := by
  refine jl_met (plainFor_of_name rfl) (Nat.le_of_ble_eq_true rfl) ?_
  show j2 G jM_X12_number 0 [(0, jl_vr G 206), (1, jl_vi v1), (2, jl_vi v2)] [] s0 _
  refine jr_aload_n dX12_number_0 0 rfl ?_
  refine jr_geti (i := 5) jc_12 jk_206 (by decide) (Nat.le_of_ble_eq_true rfl) jlk_206_5 jft_12_5 jw_1210 dX12_number_1 ?_
  refine jr_if_eq (t := 9) dX12_number_4 (by decide) (jl_n3_to _) (fun c1 => ?_) (fun c1 => ?_)
  · refine jr_aload_n dX12_number_9 0 rfl ?_
    refine j2_callVi (As := []) dX12_number_10 (jt_X12_look G s0) jv_X12_look ⟨rfl, rfl, rfl⟩ jw_1570 jk_206 (by decide) (by decide) rfl ⟨Nat.le_of_ble_eq_true rfl, Nat.le_of_ble_eq_true rfl⟩ rfl (Nat.le_of_ble_eq_true rfl) (fun r2 s3 hr2 => ?_)
    refine j2_callSz (As := [jl_vi r2]) dX12_number_13 (jt_X12_isDigit G r2 hr2 s3) jv_X12_isDigit ⟨rfl, rfl, rfl⟩ jw_1585 ⟨Nat.le_of_ble_eq_true rfl, Nat.le_of_ble_eq_true rfl⟩ rfl (Nat.le_of_ble_eq_true rfl) (fun r4 s5 hr4 => ?_)
    refine jr_if_eq (t := 30) dX12_number_16 (by decide) (jl_nz hr4) (fun c6 => ?_) (fun c6 => ?_)
    · refine jr_sub [0] rfl ?_
      exact jj_X12_number_B30 G s5
    · refine jr_aload_n dX12_number_19 0 rfl ?_
      refine jr_geti (i := 2) jc_12 jk_206 (by decide) (Nat.le_of_ble_eq_true rfl) jlk_206_2 jft_12_2 jw_1207 dX12_number_20 ?_
      refine jr_aload_n dX12_number_23 0 rfl ?_
      refine jr_geti (i := 4) jc_12 jk_206 (by decide) (Nat.le_of_ble_eq_true rfl) jlk_206_4 jft_12_4 jw_1209 dX12_number_24 ?_
      refine jr_icmp_ne (t := 41) dX12_number_27 (by decide) (jl_n3_to _) (jl_n3_to _) (fun c9 => ?_) (fun c9 => ?_)
      · refine jr_sub [0] rfl ?_
        exact jj_X12_number_B30 G s5
      · refine jr_aload_n dX12_number_41 0 rfl ?_
        refine jr_geti (i := 2) jc_12 jk_206 (by decide) (Nat.le_of_ble_eq_true rfl) jlk_206_2 jft_12_2 jw_1207 dX12_number_42 ?_
        refine jr_let (jl_n3_to _) (fun x10 hx10 => ?_)
        refine jr_istore_n (lv := [(3, jl_vi x10), (0, jl_vr G 206), (1, jl_vi v1), (2, jl_vi v2)]) dX12_number_45 rfl (Nat.le_of_ble_eq_true rfl) rfl ?_
        refine jr_iconst dX12_number_46 ?_
        refine jr_istore (lv := [(4, jl_vi (0 : Int)), (3, jl_vi x10), (0, jl_vr G 206), (1, jl_vi v1), (2, jl_vi v2)]) dX12_number_47 (Nat.le_of_ble_eq_true rfl) rfl ?_
        refine jr_sub [2, 3, 4, 1, 0] rfl ?_
        exact jj_X12_number_L49 G jl_fu v1 v2 x10 (0 : Int) h1 h2 hx10 (jl_nlit rfl) s5
  · refine jr_iconst dX12_number_7 ?_
    exact jr_ret_i rfl (jl_nlit rfl) dX12_number_8
def jf_X12_isOwnHere_B407 (k0 : Int) (s0 : jl_Mm) : jl_O :=
  jl_zb k0 s0
set_option maxRecDepth 20000 in
set_option maxHeartbeats 2000000 in
theorem jj_X12_isOwnHere_B407 (G : jl_GC) (k0 : Int) (hk0 : jl_n3 k0) (s0 : jl_Mm) : j2 G jM_X12_isOwnHere 407 [] [jl_vi k0] s0 (jf_X12_isOwnHere_B407 k0 s0) := by
  refine jr_istore_n (lv := [(1, jl_vi k0)]) dX12_isOwnHere_407 rfl (Nat.le_of_ble_eq_true rfl) rfl ?_
  refine jr_iload_n dX12_isOwnHere_408 0 rfl ?_
  exact jr_ret_z rfl dX12_isOwnHere_409
def jf_X12_isOwnHere_B402 (s0 : jl_Mm) : jl_O :=
  jf_X12_isOwnHere_B407 (1 : Int) s0
set_option maxRecDepth 20000 in
set_option maxHeartbeats 2000000 in
theorem jj_X12_isOwnHere_B402 (G : jl_GC) (s0 : jl_Mm) : j2 G jM_X12_isOwnHere 402 [] [] s0 (jf_X12_isOwnHere_B402 s0) := by
  refine jr_iconst dX12_isOwnHere_402 ?_
  refine jr_goto (t := 407) dX12_isOwnHere_403 (by decide) ?_
  exact jj_X12_isOwnHere_B407 G (1 : Int) (jl_nlit rfl) s0
def jf_X12_isOwnHere_B375 (k0 : Int) (s0 : jl_Mm) : jl_O :=
  if k0 = (0 : Int) then (jl_bd (jf_X12_isHere 239 s0) fun r9 s10 => if r9 = (0 : Int) then (jl_bd (jf_X12_isHere 240 s10) fun r12 s13 => if r12 = (0 : Int) then (jf_X12_isOwnHere_B407 (0 : Int) s13) else (jf_X12_isOwnHere_B402 s13)) else (jf_X12_isOwnHere_B402 s10)) else (jf_X12_isOwnHere_B402 s0)
set_option maxRecDepth 20000 in
set_option maxHeartbeats 2000000 in
theorem jj_X12_isOwnHere_B375 (G : jl_GC) (k0 : Int) (hk0 : jl_n3 k0) (s0 : jl_Mm) : j2 G jM_X12_isOwnHere 375 [(0, jl_vr G 206)] [jl_vi k0] s0 (jf_X12_isOwnHere_B375 k0 s0) := by
  refine jr_istore_n (lv := [(1, jl_vi k0), (0, jl_vr G 206)]) dX12_isOwnHere_375 rfl (Nat.le_of_ble_eq_true rfl) rfl ?_
  refine jr_iload_n dX12_isOwnHere_376 0 rfl ?_
  refine jr_if_ne (t := 402) dX12_isOwnHere_377 (by decide) hk0 (fun c8 => ?_) (fun c8 => ?_)
  · refine jr_aload_n dX12_isOwnHere_380 1 rfl ?_
    refine jr_aload_n dX12_isOwnHere_381 1 rfl ?_
    refine jr_getk (i := 41) jc_12 jk_206 (by decide) (Nat.le_of_ble_eq_true rfl) jlk_206_41 jw_1246 dX12_isOwnHere_382 ?_
    refine j2_callVz (As := [jl_vr G 239]) dX12_isOwnHere_385 (jt_X12_isHere G 239 s0) jv_X12_isHere ⟨rfl, rfl, rfl⟩ jw_1566 jk_206 (by decide) (by decide) rfl ⟨Nat.le_of_ble_eq_true rfl, Nat.le_of_ble_eq_true rfl⟩ rfl (Nat.le_of_ble_eq_true rfl) (fun r9 s10 hr9 => ?_)
    refine jr_if_ne (t := 402) dX12_isOwnHere_388 (by decide) (jl_nz hr9) (fun c11 => ?_) (fun c11 => ?_)
    · refine jr_aload_n dX12_isOwnHere_391 1 rfl ?_
      refine jr_aload_n dX12_isOwnHere_392 1 rfl ?_
      refine jr_getk (i := 42) jc_12 jk_206 (by decide) (Nat.le_of_ble_eq_true rfl) jlk_206_42 jw_1247 dX12_isOwnHere_393 ?_
      refine j2_callVz (As := [jl_vr G 240]) dX12_isOwnHere_396 (jt_X12_isHere G 240 s10) jv_X12_isHere ⟨rfl, rfl, rfl⟩ jw_1566 jk_206 (by decide) (by decide) rfl ⟨Nat.le_of_ble_eq_true rfl, Nat.le_of_ble_eq_true rfl⟩ rfl (Nat.le_of_ble_eq_true rfl) (fun r12 s13 hr12 => ?_)
      refine jr_if_eq (t := 406) dX12_isOwnHere_399 (by decide) (jl_nz hr12) (fun c14 => ?_) (fun c14 => ?_)
      · refine jr_iconst dX12_isOwnHere_406 ?_
        refine jr_sub [] rfl ?_
        exact jj_X12_isOwnHere_B407 G (0 : Int) (jl_nlit rfl) s13
      · refine jr_sub [] rfl ?_
        exact jj_X12_isOwnHere_B402 G s13
    · refine jr_sub [] rfl ?_
      exact jj_X12_isOwnHere_B402 G s10
  · refine jr_sub [] rfl ?_
    exact jj_X12_isOwnHere_B402 G s0
def jf_X12_isOwnHere_B370 (s0 : jl_Mm) : jl_O :=
  jf_X12_isOwnHere_B375 (1 : Int) s0
set_option maxRecDepth 20000 in
set_option maxHeartbeats 2000000 in
theorem jj_X12_isOwnHere_B370 (G : jl_GC) (s0 : jl_Mm) : j2 G jM_X12_isOwnHere 370 [(0, jl_vr G 206)] [] s0 (jf_X12_isOwnHere_B370 s0) := by
  refine jr_iconst dX12_isOwnHere_370 ?_
  refine jr_goto (t := 375) dX12_isOwnHere_371 (by decide) ?_
  exact jj_X12_isOwnHere_B375 G (1 : Int) (jl_nlit rfl) s0
def jf_X12_isOwnHere_B299 (k0 : Int) (s0 : jl_Mm) : jl_O :=
  if k0 = (0 : Int) then (jl_bd (jf_X12_isHere 233 s0) fun r15 s16 => if r15 = (0 : Int) then (jl_bd (jf_X12_isHere 234 s16) fun r18 s19 => if r18 = (0 : Int) then (jl_bd (jf_X12_isHere 235 s19) fun r21 s22 => if r21 = (0 : Int) then (jl_bd (jf_X12_isHere 236 s22) fun r24 s25 => if r24 = (0 : Int) then (jl_bd (jf_X12_isHere 237 s25) fun r27 s28 => if r27 = (0 : Int) then (jl_bd (jf_X12_isHere 238 s28) fun r30 s31 => if r30 = (0 : Int) then (jf_X12_isOwnHere_B375 (0 : Int) s31) else (jf_X12_isOwnHere_B370 s31)) else (jf_X12_isOwnHere_B370 s28)) else (jf_X12_isOwnHere_B370 s25)) else (jf_X12_isOwnHere_B370 s22)) else (jf_X12_isOwnHere_B370 s19)) else (jf_X12_isOwnHere_B370 s16)) else (jf_X12_isOwnHere_B370 s0)
set_option maxRecDepth 20000 in
set_option maxHeartbeats 2000000 in
theorem jj_X12_isOwnHere_B299 (G : jl_GC) (k0 : Int) (hk0 : jl_n3 k0) (s0 : jl_Mm) : j2 G jM_X12_isOwnHere 299 [(0, jl_vr G 206)] [jl_vi k0] s0 (jf_X12_isOwnHere_B299 k0 s0) := by
  refine jr_istore_n (lv := [(1, jl_vi k0), (0, jl_vr G 206)]) dX12_isOwnHere_299 rfl (Nat.le_of_ble_eq_true rfl) rfl ?_
  refine jr_iload_n dX12_isOwnHere_300 0 rfl ?_
  refine jr_if_ne (t := 370) dX12_isOwnHere_301 (by decide) hk0 (fun c7 => ?_) (fun c7 => ?_)
  · refine jr_aload_n dX12_isOwnHere_304 1 rfl ?_
    refine jr_aload_n dX12_isOwnHere_305 1 rfl ?_
    refine jr_getk (i := 35) jc_12 jk_206 (by decide) (Nat.le_of_ble_eq_true rfl) jlk_206_35 jw_1240 dX12_isOwnHere_306 ?_
    refine j2_callVz (As := [jl_vr G 233]) dX12_isOwnHere_309 (jt_X12_isHere G 233 s0) jv_X12_isHere ⟨rfl, rfl, rfl⟩ jw_1566 jk_206 (by decide) (by decide) rfl ⟨Nat.le_of_ble_eq_true rfl, Nat.le_of_ble_eq_true rfl⟩ rfl (Nat.le_of_ble_eq_true rfl) (fun r15 s16 hr15 => ?_)
    refine jr_if_ne (t := 370) dX12_isOwnHere_312 (by decide) (jl_nz hr15) (fun c17 => ?_) (fun c17 => ?_)
    · refine jr_aload_n dX12_isOwnHere_315 1 rfl ?_
      refine jr_aload_n dX12_isOwnHere_316 1 rfl ?_
      refine jr_getk (i := 36) jc_12 jk_206 (by decide) (Nat.le_of_ble_eq_true rfl) jlk_206_36 jw_1241 dX12_isOwnHere_317 ?_
      refine j2_callVz (As := [jl_vr G 234]) dX12_isOwnHere_320 (jt_X12_isHere G 234 s16) jv_X12_isHere ⟨rfl, rfl, rfl⟩ jw_1566 jk_206 (by decide) (by decide) rfl ⟨Nat.le_of_ble_eq_true rfl, Nat.le_of_ble_eq_true rfl⟩ rfl (Nat.le_of_ble_eq_true rfl) (fun r18 s19 hr18 => ?_)
      refine jr_if_ne (t := 370) dX12_isOwnHere_323 (by decide) (jl_nz hr18) (fun c20 => ?_) (fun c20 => ?_)
      · refine jr_aload_n dX12_isOwnHere_326 1 rfl ?_
        refine jr_aload_n dX12_isOwnHere_327 1 rfl ?_
        refine jr_getk (i := 37) jc_12 jk_206 (by decide) (Nat.le_of_ble_eq_true rfl) jlk_206_37 jw_1242 dX12_isOwnHere_328 ?_
        refine j2_callVz (As := [jl_vr G 235]) dX12_isOwnHere_331 (jt_X12_isHere G 235 s19) jv_X12_isHere ⟨rfl, rfl, rfl⟩ jw_1566 jk_206 (by decide) (by decide) rfl ⟨Nat.le_of_ble_eq_true rfl, Nat.le_of_ble_eq_true rfl⟩ rfl (Nat.le_of_ble_eq_true rfl) (fun r21 s22 hr21 => ?_)
        refine jr_if_ne (t := 370) dX12_isOwnHere_334 (by decide) (jl_nz hr21) (fun c23 => ?_) (fun c23 => ?_)
        · refine jr_aload_n dX12_isOwnHere_337 1 rfl ?_
          refine jr_aload_n dX12_isOwnHere_338 1 rfl ?_
          refine jr_getk (i := 38) jc_12 jk_206 (by decide) (Nat.le_of_ble_eq_true rfl) jlk_206_38 jw_1243 dX12_isOwnHere_339 ?_
          refine j2_callVz (As := [jl_vr G 236]) dX12_isOwnHere_342 (jt_X12_isHere G 236 s22) jv_X12_isHere ⟨rfl, rfl, rfl⟩ jw_1566 jk_206 (by decide) (by decide) rfl ⟨Nat.le_of_ble_eq_true rfl, Nat.le_of_ble_eq_true rfl⟩ rfl (Nat.le_of_ble_eq_true rfl) (fun r24 s25 hr24 => ?_)
          refine jr_if_ne (t := 370) dX12_isOwnHere_345 (by decide) (jl_nz hr24) (fun c26 => ?_) (fun c26 => ?_)
          · refine jr_aload_n dX12_isOwnHere_348 1 rfl ?_
            refine jr_aload_n dX12_isOwnHere_349 1 rfl ?_
            refine jr_getk (i := 39) jc_12 jk_206 (by decide) (Nat.le_of_ble_eq_true rfl) jlk_206_39 jw_1244 dX12_isOwnHere_350 ?_
            refine j2_callVz (As := [jl_vr G 237]) dX12_isOwnHere_353 (jt_X12_isHere G 237 s25) jv_X12_isHere ⟨rfl, rfl, rfl⟩ jw_1566 jk_206 (by decide) (by decide) rfl ⟨Nat.le_of_ble_eq_true rfl, Nat.le_of_ble_eq_true rfl⟩ rfl (Nat.le_of_ble_eq_true rfl) (fun r27 s28 hr27 => ?_)
            refine jr_if_ne (t := 370) dX12_isOwnHere_356 (by decide) (jl_nz hr27) (fun c29 => ?_) (fun c29 => ?_)
            · refine jr_aload_n dX12_isOwnHere_359 1 rfl ?_
              refine jr_aload_n dX12_isOwnHere_360 1 rfl ?_
              refine jr_getk (i := 40) jc_12 jk_206 (by decide) (Nat.le_of_ble_eq_true rfl) jlk_206_40 jw_1245 dX12_isOwnHere_361 ?_
              refine j2_callVz (As := [jl_vr G 238]) dX12_isOwnHere_364 (jt_X12_isHere G 238 s28) jv_X12_isHere ⟨rfl, rfl, rfl⟩ jw_1566 jk_206 (by decide) (by decide) rfl ⟨Nat.le_of_ble_eq_true rfl, Nat.le_of_ble_eq_true rfl⟩ rfl (Nat.le_of_ble_eq_true rfl) (fun r30 s31 hr30 => ?_)
              refine jr_if_eq (t := 374) dX12_isOwnHere_367 (by decide) (jl_nz hr30) (fun c32 => ?_) (fun c32 => ?_)
              · refine jr_iconst dX12_isOwnHere_374 ?_
                refine jr_sub [1] rfl ?_
                exact jj_X12_isOwnHere_B375 G (0 : Int) (jl_nlit rfl) s31
              · refine jr_sub [1] rfl ?_
                exact jj_X12_isOwnHere_B370 G s31
            · refine jr_sub [1] rfl ?_
              exact jj_X12_isOwnHere_B370 G s28
          · refine jr_sub [1] rfl ?_
            exact jj_X12_isOwnHere_B370 G s25
        · refine jr_sub [1] rfl ?_
          exact jj_X12_isOwnHere_B370 G s22
      · refine jr_sub [1] rfl ?_
        exact jj_X12_isOwnHere_B370 G s19
    · refine jr_sub [1] rfl ?_
      exact jj_X12_isOwnHere_B370 G s16
  · refine jr_sub [1] rfl ?_
    exact jj_X12_isOwnHere_B370 G s0
def jf_X12_isOwnHere_B294 (s0 : jl_Mm) : jl_O :=
  jf_X12_isOwnHere_B299 (1 : Int) s0
set_option maxRecDepth 20000 in
set_option maxHeartbeats 2000000 in
theorem jj_X12_isOwnHere_B294 (G : jl_GC) (s0 : jl_Mm) : j2 G jM_X12_isOwnHere 294 [(0, jl_vr G 206)] [] s0 (jf_X12_isOwnHere_B294 s0) := by
  refine jr_iconst dX12_isOwnHere_294 ?_
  refine jr_goto (t := 299) dX12_isOwnHere_295 (by decide) ?_
  exact jj_X12_isOwnHere_B299 G (1 : Int) (jl_nlit rfl) s0
def jf_X12_isOwnHere_B223 (k0 : Int) (s0 : jl_Mm) : jl_O :=
  if k0 = (0 : Int) then (jl_bd (jf_X12_isHere 227 s0) fun r33 s34 => if r33 = (0 : Int) then (jl_bd (jf_X12_isHere 228 s34) fun r36 s37 => if r36 = (0 : Int) then (jl_bd (jf_X12_isHere 229 s37) fun r39 s40 => if r39 = (0 : Int) then (jl_bd (jf_X12_isHere 230 s40) fun r42 s43 => if r42 = (0 : Int) then (jl_bd (jf_X12_isHere 231 s43) fun r45 s46 => if r45 = (0 : Int) then (jl_bd (jf_X12_isHere 232 s46) fun r48 s49 => if r48 = (0 : Int) then (jf_X12_isOwnHere_B299 (0 : Int) s49) else (jf_X12_isOwnHere_B294 s49)) else (jf_X12_isOwnHere_B294 s46)) else (jf_X12_isOwnHere_B294 s43)) else (jf_X12_isOwnHere_B294 s40)) else (jf_X12_isOwnHere_B294 s37)) else (jf_X12_isOwnHere_B294 s34)) else (jf_X12_isOwnHere_B294 s0)
set_option maxRecDepth 20000 in
set_option maxHeartbeats 2000000 in
theorem jj_X12_isOwnHere_B223 (G : jl_GC) (k0 : Int) (hk0 : jl_n3 k0) (s0 : jl_Mm) : j2 G jM_X12_isOwnHere 223 [(0, jl_vr G 206)] [jl_vi k0] s0 (jf_X12_isOwnHere_B223 k0 s0) := by
  refine jr_istore_n (lv := [(1, jl_vi k0), (0, jl_vr G 206)]) dX12_isOwnHere_223 rfl (Nat.le_of_ble_eq_true rfl) rfl ?_
  refine jr_iload_n dX12_isOwnHere_224 0 rfl ?_
  refine jr_if_ne (t := 294) dX12_isOwnHere_225 (by decide) hk0 (fun c6 => ?_) (fun c6 => ?_)
  · refine jr_aload_n dX12_isOwnHere_228 1 rfl ?_
    refine jr_aload_n dX12_isOwnHere_229 1 rfl ?_
    refine jr_getk (i := 29) jc_12 jk_206 (by decide) (Nat.le_of_ble_eq_true rfl) jlk_206_29 jw_1234 dX12_isOwnHere_230 ?_
    refine j2_callVz (As := [jl_vr G 227]) dX12_isOwnHere_233 (jt_X12_isHere G 227 s0) jv_X12_isHere ⟨rfl, rfl, rfl⟩ jw_1566 jk_206 (by decide) (by decide) rfl ⟨Nat.le_of_ble_eq_true rfl, Nat.le_of_ble_eq_true rfl⟩ rfl (Nat.le_of_ble_eq_true rfl) (fun r33 s34 hr33 => ?_)
    refine jr_if_ne (t := 294) dX12_isOwnHere_236 (by decide) (jl_nz hr33) (fun c35 => ?_) (fun c35 => ?_)
    · refine jr_aload_n dX12_isOwnHere_239 1 rfl ?_
      refine jr_aload_n dX12_isOwnHere_240 1 rfl ?_
      refine jr_getk (i := 30) jc_12 jk_206 (by decide) (Nat.le_of_ble_eq_true rfl) jlk_206_30 jw_1235 dX12_isOwnHere_241 ?_
      refine j2_callVz (As := [jl_vr G 228]) dX12_isOwnHere_244 (jt_X12_isHere G 228 s34) jv_X12_isHere ⟨rfl, rfl, rfl⟩ jw_1566 jk_206 (by decide) (by decide) rfl ⟨Nat.le_of_ble_eq_true rfl, Nat.le_of_ble_eq_true rfl⟩ rfl (Nat.le_of_ble_eq_true rfl) (fun r36 s37 hr36 => ?_)
      refine jr_if_ne (t := 294) dX12_isOwnHere_247 (by decide) (jl_nz hr36) (fun c38 => ?_) (fun c38 => ?_)
      · refine jr_aload_n dX12_isOwnHere_250 1 rfl ?_
        refine jr_aload_n dX12_isOwnHere_251 1 rfl ?_
        refine jr_getk (i := 31) jc_12 jk_206 (by decide) (Nat.le_of_ble_eq_true rfl) jlk_206_31 jw_1236 dX12_isOwnHere_252 ?_
        refine j2_callVz (As := [jl_vr G 229]) dX12_isOwnHere_255 (jt_X12_isHere G 229 s37) jv_X12_isHere ⟨rfl, rfl, rfl⟩ jw_1566 jk_206 (by decide) (by decide) rfl ⟨Nat.le_of_ble_eq_true rfl, Nat.le_of_ble_eq_true rfl⟩ rfl (Nat.le_of_ble_eq_true rfl) (fun r39 s40 hr39 => ?_)
        refine jr_if_ne (t := 294) dX12_isOwnHere_258 (by decide) (jl_nz hr39) (fun c41 => ?_) (fun c41 => ?_)
        · refine jr_aload_n dX12_isOwnHere_261 1 rfl ?_
          refine jr_aload_n dX12_isOwnHere_262 1 rfl ?_
          refine jr_getk (i := 32) jc_12 jk_206 (by decide) (Nat.le_of_ble_eq_true rfl) jlk_206_32 jw_1237 dX12_isOwnHere_263 ?_
          refine j2_callVz (As := [jl_vr G 230]) dX12_isOwnHere_266 (jt_X12_isHere G 230 s40) jv_X12_isHere ⟨rfl, rfl, rfl⟩ jw_1566 jk_206 (by decide) (by decide) rfl ⟨Nat.le_of_ble_eq_true rfl, Nat.le_of_ble_eq_true rfl⟩ rfl (Nat.le_of_ble_eq_true rfl) (fun r42 s43 hr42 => ?_)
          refine jr_if_ne (t := 294) dX12_isOwnHere_269 (by decide) (jl_nz hr42) (fun c44 => ?_) (fun c44 => ?_)
          · refine jr_aload_n dX12_isOwnHere_272 1 rfl ?_
            refine jr_aload_n dX12_isOwnHere_273 1 rfl ?_
            refine jr_getk (i := 33) jc_12 jk_206 (by decide) (Nat.le_of_ble_eq_true rfl) jlk_206_33 jw_1238 dX12_isOwnHere_274 ?_
            refine j2_callVz (As := [jl_vr G 231]) dX12_isOwnHere_277 (jt_X12_isHere G 231 s43) jv_X12_isHere ⟨rfl, rfl, rfl⟩ jw_1566 jk_206 (by decide) (by decide) rfl ⟨Nat.le_of_ble_eq_true rfl, Nat.le_of_ble_eq_true rfl⟩ rfl (Nat.le_of_ble_eq_true rfl) (fun r45 s46 hr45 => ?_)
            refine jr_if_ne (t := 294) dX12_isOwnHere_280 (by decide) (jl_nz hr45) (fun c47 => ?_) (fun c47 => ?_)
            · refine jr_aload_n dX12_isOwnHere_283 1 rfl ?_
              refine jr_aload_n dX12_isOwnHere_284 1 rfl ?_
              refine jr_getk (i := 34) jc_12 jk_206 (by decide) (Nat.le_of_ble_eq_true rfl) jlk_206_34 jw_1239 dX12_isOwnHere_285 ?_
              refine j2_callVz (As := [jl_vr G 232]) dX12_isOwnHere_288 (jt_X12_isHere G 232 s46) jv_X12_isHere ⟨rfl, rfl, rfl⟩ jw_1566 jk_206 (by decide) (by decide) rfl ⟨Nat.le_of_ble_eq_true rfl, Nat.le_of_ble_eq_true rfl⟩ rfl (Nat.le_of_ble_eq_true rfl) (fun r48 s49 hr48 => ?_)
              refine jr_if_eq (t := 298) dX12_isOwnHere_291 (by decide) (jl_nz hr48) (fun c50 => ?_) (fun c50 => ?_)
              · refine jr_iconst dX12_isOwnHere_298 ?_
                refine jr_sub [1] rfl ?_
                exact jj_X12_isOwnHere_B299 G (0 : Int) (jl_nlit rfl) s49
              · refine jr_sub [1] rfl ?_
                exact jj_X12_isOwnHere_B294 G s49
            · refine jr_sub [1] rfl ?_
              exact jj_X12_isOwnHere_B294 G s46
          · refine jr_sub [1] rfl ?_
            exact jj_X12_isOwnHere_B294 G s43
        · refine jr_sub [1] rfl ?_
          exact jj_X12_isOwnHere_B294 G s40
      · refine jr_sub [1] rfl ?_
        exact jj_X12_isOwnHere_B294 G s37
    · refine jr_sub [1] rfl ?_
      exact jj_X12_isOwnHere_B294 G s34
  · refine jr_sub [1] rfl ?_
    exact jj_X12_isOwnHere_B294 G s0
def jf_X12_isOwnHere_B218 (s0 : jl_Mm) : jl_O :=
  jf_X12_isOwnHere_B223 (1 : Int) s0
set_option maxRecDepth 20000 in
set_option maxHeartbeats 2000000 in
theorem jj_X12_isOwnHere_B218 (G : jl_GC) (s0 : jl_Mm) : j2 G jM_X12_isOwnHere 218 [(0, jl_vr G 206)] [] s0 (jf_X12_isOwnHere_B218 s0) := by
  refine jr_iconst dX12_isOwnHere_218 ?_
  refine jr_goto (t := 223) dX12_isOwnHere_219 (by decide) ?_
  exact jj_X12_isOwnHere_B223 G (1 : Int) (jl_nlit rfl) s0
def jf_X12_isOwnHere_B147 (k0 : Int) (s0 : jl_Mm) : jl_O :=
  if k0 = (0 : Int) then (jl_bd (jf_X12_isHere 221 s0) fun r51 s52 => if r51 = (0 : Int) then (jl_bd (jf_X12_isHere 222 s52) fun r54 s55 => if r54 = (0 : Int) then (jl_bd (jf_X12_isHere 223 s55) fun r57 s58 => if r57 = (0 : Int) then (jl_bd (jf_X12_isHere 224 s58) fun r60 s61 => if r60 = (0 : Int) then (jl_bd (jf_X12_isHere 225 s61) fun r63 s64 => if r63 = (0 : Int) then (jl_bd (jf_X12_isHere 226 s64) fun r66 s67 => if r66 = (0 : Int) then (jf_X12_isOwnHere_B223 (0 : Int) s67) else (jf_X12_isOwnHere_B218 s67)) else (jf_X12_isOwnHere_B218 s64)) else (jf_X12_isOwnHere_B218 s61)) else (jf_X12_isOwnHere_B218 s58)) else (jf_X12_isOwnHere_B218 s55)) else (jf_X12_isOwnHere_B218 s52)) else (jf_X12_isOwnHere_B218 s0)
set_option maxRecDepth 20000 in
set_option maxHeartbeats 2000000 in
theorem jj_X12_isOwnHere_B147 (G : jl_GC) (k0 : Int) (hk0 : jl_n3 k0) (s0 : jl_Mm) : j2 G jM_X12_isOwnHere 147 [(0, jl_vr G 206)] [jl_vi k0] s0 (jf_X12_isOwnHere_B147 k0 s0) := by
  refine jr_istore_n (lv := [(1, jl_vi k0), (0, jl_vr G 206)]) dX12_isOwnHere_147 rfl (Nat.le_of_ble_eq_true rfl) rfl ?_
  refine jr_iload_n dX12_isOwnHere_148 0 rfl ?_
  refine jr_if_ne (t := 218) dX12_isOwnHere_149 (by decide) hk0 (fun c5 => ?_) (fun c5 => ?_)
  · refine jr_aload_n dX12_isOwnHere_152 1 rfl ?_
    refine jr_aload_n dX12_isOwnHere_153 1 rfl ?_
    refine jr_getk (i := 23) jc_12 jk_206 (by decide) (Nat.le_of_ble_eq_true rfl) jlk_206_23 jw_1228 dX12_isOwnHere_154 ?_
    refine j2_callVz (As := [jl_vr G 221]) dX12_isOwnHere_157 (jt_X12_isHere G 221 s0) jv_X12_isHere ⟨rfl, rfl, rfl⟩ jw_1566 jk_206 (by decide) (by decide) rfl ⟨Nat.le_of_ble_eq_true rfl, Nat.le_of_ble_eq_true rfl⟩ rfl (Nat.le_of_ble_eq_true rfl) (fun r51 s52 hr51 => ?_)
    refine jr_if_ne (t := 218) dX12_isOwnHere_160 (by decide) (jl_nz hr51) (fun c53 => ?_) (fun c53 => ?_)
    · refine jr_aload_n dX12_isOwnHere_163 1 rfl ?_
      refine jr_aload_n dX12_isOwnHere_164 1 rfl ?_
      refine jr_getk (i := 24) jc_12 jk_206 (by decide) (Nat.le_of_ble_eq_true rfl) jlk_206_24 jw_1229 dX12_isOwnHere_165 ?_
      refine j2_callVz (As := [jl_vr G 222]) dX12_isOwnHere_168 (jt_X12_isHere G 222 s52) jv_X12_isHere ⟨rfl, rfl, rfl⟩ jw_1566 jk_206 (by decide) (by decide) rfl ⟨Nat.le_of_ble_eq_true rfl, Nat.le_of_ble_eq_true rfl⟩ rfl (Nat.le_of_ble_eq_true rfl) (fun r54 s55 hr54 => ?_)
      refine jr_if_ne (t := 218) dX12_isOwnHere_171 (by decide) (jl_nz hr54) (fun c56 => ?_) (fun c56 => ?_)
      · refine jr_aload_n dX12_isOwnHere_174 1 rfl ?_
        refine jr_aload_n dX12_isOwnHere_175 1 rfl ?_
        refine jr_getk (i := 25) jc_12 jk_206 (by decide) (Nat.le_of_ble_eq_true rfl) jlk_206_25 jw_1230 dX12_isOwnHere_176 ?_
        refine j2_callVz (As := [jl_vr G 223]) dX12_isOwnHere_179 (jt_X12_isHere G 223 s55) jv_X12_isHere ⟨rfl, rfl, rfl⟩ jw_1566 jk_206 (by decide) (by decide) rfl ⟨Nat.le_of_ble_eq_true rfl, Nat.le_of_ble_eq_true rfl⟩ rfl (Nat.le_of_ble_eq_true rfl) (fun r57 s58 hr57 => ?_)
        refine jr_if_ne (t := 218) dX12_isOwnHere_182 (by decide) (jl_nz hr57) (fun c59 => ?_) (fun c59 => ?_)
        · refine jr_aload_n dX12_isOwnHere_185 1 rfl ?_
          refine jr_aload_n dX12_isOwnHere_186 1 rfl ?_
          refine jr_getk (i := 26) jc_12 jk_206 (by decide) (Nat.le_of_ble_eq_true rfl) jlk_206_26 jw_1231 dX12_isOwnHere_187 ?_
          refine j2_callVz (As := [jl_vr G 224]) dX12_isOwnHere_190 (jt_X12_isHere G 224 s58) jv_X12_isHere ⟨rfl, rfl, rfl⟩ jw_1566 jk_206 (by decide) (by decide) rfl ⟨Nat.le_of_ble_eq_true rfl, Nat.le_of_ble_eq_true rfl⟩ rfl (Nat.le_of_ble_eq_true rfl) (fun r60 s61 hr60 => ?_)
          refine jr_if_ne (t := 218) dX12_isOwnHere_193 (by decide) (jl_nz hr60) (fun c62 => ?_) (fun c62 => ?_)
          · refine jr_aload_n dX12_isOwnHere_196 1 rfl ?_
            refine jr_aload_n dX12_isOwnHere_197 1 rfl ?_
            refine jr_getk (i := 27) jc_12 jk_206 (by decide) (Nat.le_of_ble_eq_true rfl) jlk_206_27 jw_1232 dX12_isOwnHere_198 ?_
            refine j2_callVz (As := [jl_vr G 225]) dX12_isOwnHere_201 (jt_X12_isHere G 225 s61) jv_X12_isHere ⟨rfl, rfl, rfl⟩ jw_1566 jk_206 (by decide) (by decide) rfl ⟨Nat.le_of_ble_eq_true rfl, Nat.le_of_ble_eq_true rfl⟩ rfl (Nat.le_of_ble_eq_true rfl) (fun r63 s64 hr63 => ?_)
            refine jr_if_ne (t := 218) dX12_isOwnHere_204 (by decide) (jl_nz hr63) (fun c65 => ?_) (fun c65 => ?_)
            · refine jr_aload_n dX12_isOwnHere_207 1 rfl ?_
              refine jr_aload_n dX12_isOwnHere_208 1 rfl ?_
              refine jr_getk (i := 28) jc_12 jk_206 (by decide) (Nat.le_of_ble_eq_true rfl) jlk_206_28 jw_1233 dX12_isOwnHere_209 ?_
              refine j2_callVz (As := [jl_vr G 226]) dX12_isOwnHere_212 (jt_X12_isHere G 226 s64) jv_X12_isHere ⟨rfl, rfl, rfl⟩ jw_1566 jk_206 (by decide) (by decide) rfl ⟨Nat.le_of_ble_eq_true rfl, Nat.le_of_ble_eq_true rfl⟩ rfl (Nat.le_of_ble_eq_true rfl) (fun r66 s67 hr66 => ?_)
              refine jr_if_eq (t := 222) dX12_isOwnHere_215 (by decide) (jl_nz hr66) (fun c68 => ?_) (fun c68 => ?_)
              · refine jr_iconst dX12_isOwnHere_222 ?_
                refine jr_sub [1] rfl ?_
                exact jj_X12_isOwnHere_B223 G (0 : Int) (jl_nlit rfl) s67
              · refine jr_sub [1] rfl ?_
                exact jj_X12_isOwnHere_B218 G s67
            · refine jr_sub [1] rfl ?_
              exact jj_X12_isOwnHere_B218 G s64
          · refine jr_sub [1] rfl ?_
            exact jj_X12_isOwnHere_B218 G s61
        · refine jr_sub [1] rfl ?_
          exact jj_X12_isOwnHere_B218 G s58
      · refine jr_sub [1] rfl ?_
        exact jj_X12_isOwnHere_B218 G s55
    · refine jr_sub [1] rfl ?_
      exact jj_X12_isOwnHere_B218 G s52
  · refine jr_sub [1] rfl ?_
    exact jj_X12_isOwnHere_B218 G s0
def jf_X12_isOwnHere_B142 (s0 : jl_Mm) : jl_O :=
  jf_X12_isOwnHere_B147 (1 : Int) s0
set_option maxRecDepth 20000 in
set_option maxHeartbeats 2000000 in
theorem jj_X12_isOwnHere_B142 (G : jl_GC) (s0 : jl_Mm) : j2 G jM_X12_isOwnHere 142 [(0, jl_vr G 206)] [] s0 (jf_X12_isOwnHere_B142 s0) := by
  refine jr_iconst dX12_isOwnHere_142 ?_
  refine jr_goto (t := 147) dX12_isOwnHere_143 (by decide) ?_
  exact jj_X12_isOwnHere_B147 G (1 : Int) (jl_nlit rfl) s0
def jf_X12_isOwnHere_B71 (k0 : Int) (s0 : jl_Mm) : jl_O :=
  if k0 = (0 : Int) then (jl_bd (jf_X12_isHere 215 s0) fun r69 s70 => if r69 = (0 : Int) then (jl_bd (jf_X12_isHere 216 s70) fun r72 s73 => if r72 = (0 : Int) then (jl_bd (jf_X12_isHere 217 s73) fun r75 s76 => if r75 = (0 : Int) then (jl_bd (jf_X12_isHere 218 s76) fun r78 s79 => if r78 = (0 : Int) then (jl_bd (jf_X12_isHere 219 s79) fun r81 s82 => if r81 = (0 : Int) then (jl_bd (jf_X12_isHere 220 s82) fun r84 s85 => if r84 = (0 : Int) then (jf_X12_isOwnHere_B147 (0 : Int) s85) else (jf_X12_isOwnHere_B142 s85)) else (jf_X12_isOwnHere_B142 s82)) else (jf_X12_isOwnHere_B142 s79)) else (jf_X12_isOwnHere_B142 s76)) else (jf_X12_isOwnHere_B142 s73)) else (jf_X12_isOwnHere_B142 s70)) else (jf_X12_isOwnHere_B142 s0)
set_option maxRecDepth 20000 in
set_option maxHeartbeats 2000000 in
theorem jj_X12_isOwnHere_B71 (G : jl_GC) (k0 : Int) (hk0 : jl_n3 k0) (s0 : jl_Mm) : j2 G jM_X12_isOwnHere 71 [(0, jl_vr G 206)] [jl_vi k0] s0 (jf_X12_isOwnHere_B71 k0 s0) := by
  refine jr_istore_n (lv := [(1, jl_vi k0), (0, jl_vr G 206)]) dX12_isOwnHere_71 rfl (Nat.le_of_ble_eq_true rfl) rfl ?_
  refine jr_iload_n dX12_isOwnHere_72 0 rfl ?_
  refine jr_if_ne (t := 142) dX12_isOwnHere_73 (by decide) hk0 (fun c4 => ?_) (fun c4 => ?_)
  · refine jr_aload_n dX12_isOwnHere_76 1 rfl ?_
    refine jr_aload_n dX12_isOwnHere_77 1 rfl ?_
    refine jr_getk (i := 17) jc_12 jk_206 (by decide) (Nat.le_of_ble_eq_true rfl) jlk_206_17 jw_1222 dX12_isOwnHere_78 ?_
    refine j2_callVz (As := [jl_vr G 215]) dX12_isOwnHere_81 (jt_X12_isHere G 215 s0) jv_X12_isHere ⟨rfl, rfl, rfl⟩ jw_1566 jk_206 (by decide) (by decide) rfl ⟨Nat.le_of_ble_eq_true rfl, Nat.le_of_ble_eq_true rfl⟩ rfl (Nat.le_of_ble_eq_true rfl) (fun r69 s70 hr69 => ?_)
    refine jr_if_ne (t := 142) dX12_isOwnHere_84 (by decide) (jl_nz hr69) (fun c71 => ?_) (fun c71 => ?_)
    · refine jr_aload_n dX12_isOwnHere_87 1 rfl ?_
      refine jr_aload_n dX12_isOwnHere_88 1 rfl ?_
      refine jr_getk (i := 18) jc_12 jk_206 (by decide) (Nat.le_of_ble_eq_true rfl) jlk_206_18 jw_1223 dX12_isOwnHere_89 ?_
      refine j2_callVz (As := [jl_vr G 216]) dX12_isOwnHere_92 (jt_X12_isHere G 216 s70) jv_X12_isHere ⟨rfl, rfl, rfl⟩ jw_1566 jk_206 (by decide) (by decide) rfl ⟨Nat.le_of_ble_eq_true rfl, Nat.le_of_ble_eq_true rfl⟩ rfl (Nat.le_of_ble_eq_true rfl) (fun r72 s73 hr72 => ?_)
      refine jr_if_ne (t := 142) dX12_isOwnHere_95 (by decide) (jl_nz hr72) (fun c74 => ?_) (fun c74 => ?_)
      · refine jr_aload_n dX12_isOwnHere_98 1 rfl ?_
        refine jr_aload_n dX12_isOwnHere_99 1 rfl ?_
        refine jr_getk (i := 19) jc_12 jk_206 (by decide) (Nat.le_of_ble_eq_true rfl) jlk_206_19 jw_1224 dX12_isOwnHere_100 ?_
        refine j2_callVz (As := [jl_vr G 217]) dX12_isOwnHere_103 (jt_X12_isHere G 217 s73) jv_X12_isHere ⟨rfl, rfl, rfl⟩ jw_1566 jk_206 (by decide) (by decide) rfl ⟨Nat.le_of_ble_eq_true rfl, Nat.le_of_ble_eq_true rfl⟩ rfl (Nat.le_of_ble_eq_true rfl) (fun r75 s76 hr75 => ?_)
        refine jr_if_ne (t := 142) dX12_isOwnHere_106 (by decide) (jl_nz hr75) (fun c77 => ?_) (fun c77 => ?_)
        · refine jr_aload_n dX12_isOwnHere_109 1 rfl ?_
          refine jr_aload_n dX12_isOwnHere_110 1 rfl ?_
          refine jr_getk (i := 20) jc_12 jk_206 (by decide) (Nat.le_of_ble_eq_true rfl) jlk_206_20 jw_1225 dX12_isOwnHere_111 ?_
          refine j2_callVz (As := [jl_vr G 218]) dX12_isOwnHere_114 (jt_X12_isHere G 218 s76) jv_X12_isHere ⟨rfl, rfl, rfl⟩ jw_1566 jk_206 (by decide) (by decide) rfl ⟨Nat.le_of_ble_eq_true rfl, Nat.le_of_ble_eq_true rfl⟩ rfl (Nat.le_of_ble_eq_true rfl) (fun r78 s79 hr78 => ?_)
          refine jr_if_ne (t := 142) dX12_isOwnHere_117 (by decide) (jl_nz hr78) (fun c80 => ?_) (fun c80 => ?_)
          · refine jr_aload_n dX12_isOwnHere_120 1 rfl ?_
            refine jr_aload_n dX12_isOwnHere_121 1 rfl ?_
            refine jr_getk (i := 21) jc_12 jk_206 (by decide) (Nat.le_of_ble_eq_true rfl) jlk_206_21 jw_1226 dX12_isOwnHere_122 ?_
            refine j2_callVz (As := [jl_vr G 219]) dX12_isOwnHere_125 (jt_X12_isHere G 219 s79) jv_X12_isHere ⟨rfl, rfl, rfl⟩ jw_1566 jk_206 (by decide) (by decide) rfl ⟨Nat.le_of_ble_eq_true rfl, Nat.le_of_ble_eq_true rfl⟩ rfl (Nat.le_of_ble_eq_true rfl) (fun r81 s82 hr81 => ?_)
            refine jr_if_ne (t := 142) dX12_isOwnHere_128 (by decide) (jl_nz hr81) (fun c83 => ?_) (fun c83 => ?_)
            · refine jr_aload_n dX12_isOwnHere_131 1 rfl ?_
              refine jr_aload_n dX12_isOwnHere_132 1 rfl ?_
              refine jr_getk (i := 22) jc_12 jk_206 (by decide) (Nat.le_of_ble_eq_true rfl) jlk_206_22 jw_1227 dX12_isOwnHere_133 ?_
              refine j2_callVz (As := [jl_vr G 220]) dX12_isOwnHere_136 (jt_X12_isHere G 220 s82) jv_X12_isHere ⟨rfl, rfl, rfl⟩ jw_1566 jk_206 (by decide) (by decide) rfl ⟨Nat.le_of_ble_eq_true rfl, Nat.le_of_ble_eq_true rfl⟩ rfl (Nat.le_of_ble_eq_true rfl) (fun r84 s85 hr84 => ?_)
              refine jr_if_eq (t := 146) dX12_isOwnHere_139 (by decide) (jl_nz hr84) (fun c86 => ?_) (fun c86 => ?_)
              · refine jr_iconst dX12_isOwnHere_146 ?_
                refine jr_sub [1] rfl ?_
                exact jj_X12_isOwnHere_B147 G (0 : Int) (jl_nlit rfl) s85
              · refine jr_sub [1] rfl ?_
                exact jj_X12_isOwnHere_B142 G s85
            · refine jr_sub [1] rfl ?_
              exact jj_X12_isOwnHere_B142 G s82
          · refine jr_sub [1] rfl ?_
            exact jj_X12_isOwnHere_B142 G s79
        · refine jr_sub [1] rfl ?_
          exact jj_X12_isOwnHere_B142 G s76
      · refine jr_sub [1] rfl ?_
        exact jj_X12_isOwnHere_B142 G s73
    · refine jr_sub [1] rfl ?_
      exact jj_X12_isOwnHere_B142 G s70
  · refine jr_sub [1] rfl ?_
    exact jj_X12_isOwnHere_B142 G s0
def jf_X12_isOwnHere_B66 (s0 : jl_Mm) : jl_O :=
  jf_X12_isOwnHere_B71 (1 : Int) s0
set_option maxRecDepth 20000 in
set_option maxHeartbeats 2000000 in
theorem jj_X12_isOwnHere_B66 (G : jl_GC) (s0 : jl_Mm) : j2 G jM_X12_isOwnHere 66 [(0, jl_vr G 206)] [] s0 (jf_X12_isOwnHere_B66 s0) := by
  refine jr_iconst dX12_isOwnHere_66 ?_
  refine jr_goto (t := 71) dX12_isOwnHere_67 (by decide) ?_
  exact jj_X12_isOwnHere_B71 G (1 : Int) (jl_nlit rfl) s0
def jf_X12_isOwnHere (s0 : jl_Mm) : jl_O :=
  jl_bd (jf_X12_isHere 209 s0) fun r1 s2 => if r1 = (0 : Int) then (jl_bd (jf_X12_isHere 210 s2) fun r87 s88 => if r87 = (0 : Int) then (jl_bd (jf_X12_isHere 211 s88) fun r90 s91 => if r90 = (0 : Int) then (jl_bd (jf_X12_isHere 212 s91) fun r93 s94 => if r93 = (0 : Int) then (jl_bd (jf_X12_isHere 213 s94) fun r96 s97 => if r96 = (0 : Int) then (jl_bd (jf_X12_isHere 214 s97) fun r99 s100 => if r99 = (0 : Int) then (jf_X12_isOwnHere_B71 (0 : Int) s100) else (jf_X12_isOwnHere_B66 s100)) else (jf_X12_isOwnHere_B66 s97)) else (jf_X12_isOwnHere_B66 s94)) else (jf_X12_isOwnHere_B66 s91)) else (jf_X12_isOwnHere_B66 s88)) else (jf_X12_isOwnHere_B66 s2)
set_option maxRecDepth 20000 in
set_option maxHeartbeats 2000000 in
theorem jt_X12_isOwnHere (G : jl_GC) (s0 : jl_Mm) : jC2 G jM_X12_isOwnHere [jl_vr G 206] s0 (jf_X12_isOwnHere s0) := by
  refine jl_met (plainFor_of_name rfl) (Nat.le_of_ble_eq_true rfl) ?_
  show j2 G jM_X12_isOwnHere 0 [(0, jl_vr G 206)] [] s0 _
  refine jr_aload_n dX12_isOwnHere_0 0 rfl ?_
  refine jr_aload_n dX12_isOwnHere_1 0 rfl ?_
  refine jr_getk (i := 11) jc_12 jk_206 (by decide) (Nat.le_of_ble_eq_true rfl) jlk_206_11 jw_1216 dX12_isOwnHere_2 ?_
  refine j2_callVz (As := [jl_vr G 209]) dX12_isOwnHere_5 (jt_X12_isHere G 209 s0) jv_X12_isHere ⟨rfl, rfl, rfl⟩ jw_1566 jk_206 (by decide) (by decide) rfl ⟨Nat.le_of_ble_eq_true rfl, Nat.le_of_ble_eq_true rfl⟩ rfl (Nat.le_of_ble_eq_true rfl) (fun r1 s2 hr1 => ?_)
  refine jr_if_ne (t := 66) dX12_isOwnHere_8 (by decide) (jl_nz hr1) (fun c3 => ?_) (fun c3 => ?_)
  · refine jr_aload_n dX12_isOwnHere_11 0 rfl ?_
    refine jr_aload_n dX12_isOwnHere_12 0 rfl ?_
    refine jr_getk (i := 12) jc_12 jk_206 (by decide) (Nat.le_of_ble_eq_true rfl) jlk_206_12 jw_1217 dX12_isOwnHere_13 ?_
    refine j2_callVz (As := [jl_vr G 210]) dX12_isOwnHere_16 (jt_X12_isHere G 210 s2) jv_X12_isHere ⟨rfl, rfl, rfl⟩ jw_1566 jk_206 (by decide) (by decide) rfl ⟨Nat.le_of_ble_eq_true rfl, Nat.le_of_ble_eq_true rfl⟩ rfl (Nat.le_of_ble_eq_true rfl) (fun r87 s88 hr87 => ?_)
    refine jr_if_ne (t := 66) dX12_isOwnHere_19 (by decide) (jl_nz hr87) (fun c89 => ?_) (fun c89 => ?_)
    · refine jr_aload_n dX12_isOwnHere_22 0 rfl ?_
      refine jr_aload_n dX12_isOwnHere_23 0 rfl ?_
      refine jr_getk (i := 13) jc_12 jk_206 (by decide) (Nat.le_of_ble_eq_true rfl) jlk_206_13 jw_1218 dX12_isOwnHere_24 ?_
      refine j2_callVz (As := [jl_vr G 211]) dX12_isOwnHere_27 (jt_X12_isHere G 211 s88) jv_X12_isHere ⟨rfl, rfl, rfl⟩ jw_1566 jk_206 (by decide) (by decide) rfl ⟨Nat.le_of_ble_eq_true rfl, Nat.le_of_ble_eq_true rfl⟩ rfl (Nat.le_of_ble_eq_true rfl) (fun r90 s91 hr90 => ?_)
      refine jr_if_ne (t := 66) dX12_isOwnHere_30 (by decide) (jl_nz hr90) (fun c92 => ?_) (fun c92 => ?_)
      · refine jr_aload_n dX12_isOwnHere_33 0 rfl ?_
        refine jr_aload_n dX12_isOwnHere_34 0 rfl ?_
        refine jr_getk (i := 14) jc_12 jk_206 (by decide) (Nat.le_of_ble_eq_true rfl) jlk_206_14 jw_1219 dX12_isOwnHere_35 ?_
        refine j2_callVz (As := [jl_vr G 212]) dX12_isOwnHere_38 (jt_X12_isHere G 212 s91) jv_X12_isHere ⟨rfl, rfl, rfl⟩ jw_1566 jk_206 (by decide) (by decide) rfl ⟨Nat.le_of_ble_eq_true rfl, Nat.le_of_ble_eq_true rfl⟩ rfl (Nat.le_of_ble_eq_true rfl) (fun r93 s94 hr93 => ?_)
        refine jr_if_ne (t := 66) dX12_isOwnHere_41 (by decide) (jl_nz hr93) (fun c95 => ?_) (fun c95 => ?_)
        · refine jr_aload_n dX12_isOwnHere_44 0 rfl ?_
          refine jr_aload_n dX12_isOwnHere_45 0 rfl ?_
          refine jr_getk (i := 15) jc_12 jk_206 (by decide) (Nat.le_of_ble_eq_true rfl) jlk_206_15 jw_1220 dX12_isOwnHere_46 ?_
          refine j2_callVz (As := [jl_vr G 213]) dX12_isOwnHere_49 (jt_X12_isHere G 213 s94) jv_X12_isHere ⟨rfl, rfl, rfl⟩ jw_1566 jk_206 (by decide) (by decide) rfl ⟨Nat.le_of_ble_eq_true rfl, Nat.le_of_ble_eq_true rfl⟩ rfl (Nat.le_of_ble_eq_true rfl) (fun r96 s97 hr96 => ?_)
          refine jr_if_ne (t := 66) dX12_isOwnHere_52 (by decide) (jl_nz hr96) (fun c98 => ?_) (fun c98 => ?_)
          · refine jr_aload_n dX12_isOwnHere_55 0 rfl ?_
            refine jr_aload_n dX12_isOwnHere_56 0 rfl ?_
            refine jr_getk (i := 16) jc_12 jk_206 (by decide) (Nat.le_of_ble_eq_true rfl) jlk_206_16 jw_1221 dX12_isOwnHere_57 ?_
            refine j2_callVz (As := [jl_vr G 214]) dX12_isOwnHere_60 (jt_X12_isHere G 214 s97) jv_X12_isHere ⟨rfl, rfl, rfl⟩ jw_1566 jk_206 (by decide) (by decide) rfl ⟨Nat.le_of_ble_eq_true rfl, Nat.le_of_ble_eq_true rfl⟩ rfl (Nat.le_of_ble_eq_true rfl) (fun r99 s100 hr99 => ?_)
            refine jr_if_eq (t := 70) dX12_isOwnHere_63 (by decide) (jl_nz hr99) (fun c101 => ?_) (fun c101 => ?_)
            · refine jr_iconst dX12_isOwnHere_70 ?_
              exact jj_X12_isOwnHere_B71 G (0 : Int) (jl_nlit rfl) s100
            · exact jj_X12_isOwnHere_B66 G s100
          · exact jj_X12_isOwnHere_B66 G s97
        · exact jj_X12_isOwnHere_B66 G s94
      · exact jj_X12_isOwnHere_B66 G s91
    · exact jj_X12_isOwnHere_B66 G s88
  · exact jj_X12_isOwnHere_B66 G s2
def jf_X12_name_B37 (s0 : jl_Mm) : jl_O :=
  jl_bd (jf_X12_fail (1 : Int) (jl_g s0 206 2) s0) fun r7 s8 => some ((0 : Int), s8)
set_option maxRecDepth 20000 in
set_option maxHeartbeats 2000000 in
theorem jj_X12_name_B37 (G : jl_GC) (s0 : jl_Mm) : j2 G jM_X12_name 37 [(0, jl_vr G 206)] [] s0 (jf_X12_name_B37 s0) := by
  refine jr_aload_n dX12_name_37 0 rfl ?_
  refine jr_iconst dX12_name_38 ?_
  refine jr_aload_n dX12_name_39 0 rfl ?_
  refine jr_geti (i := 2) jc_12 jk_206 (by decide) (Nat.le_of_ble_eq_true rfl) jlk_206_2 jft_12_2 jw_1207 dX12_name_40 ?_
  refine j2_callVv (As := [jl_vi (1 : Int), jl_vi (jl_g s0 206 2)]) dX12_name_43 (jt_X12_fail G (1 : Int) (jl_g s0 206 2) (jl_nlit rfl) (jl_n3_to _) s0) jv_X12_fail ⟨rfl, rfl, rfl⟩ jw_1577 jk_206 (by decide) (by decide) rfl ⟨Nat.le_of_ble_eq_true rfl, Nat.le_of_ble_eq_true rfl⟩ rfl (Nat.le_of_ble_eq_true rfl) (fun r7 s8 hr7 => ?_)
  refine jr_lconst (v := 0) dX12_name_46 (by decide) ?_
  exact jr_ret_l rfl (jl_n6lit rfl) dX12_name_47
def jf_X12_name_B145 (l1 : Int) (s0 : jl_Mm) : jl_O :=
  jl_lm (jl_up s0 206 4 (jl_g s0 206 2)) fun s15 => some (l1, s15)
set_option maxRecDepth 20000 in
set_option maxHeartbeats 2000000 in
theorem jj_X12_name_B145 (G : jl_GC) (l1 : Int) (hl1 : jl_n6 l1) (s0 : jl_Mm) : j2 G jM_X12_name 145 [(0, jl_vr G 206), (1, jl_vl l1)] [] s0 (jf_X12_name_B145 l1 s0) := by
  refine jr_aload_n dX12_name_145 0 rfl ?_
  refine jr_aload_n dX12_name_146 0 rfl ?_
  refine jr_geti (i := 2) jc_12 jk_206 (by decide) (Nat.le_of_ble_eq_true rfl) jlk_206_2 jft_12_2 jw_1207 dX12_name_147 ?_
  refine jr_puti (i := 4) jc_12 jk_206 (by decide) (Nat.le_of_ble_eq_true rfl) jlk_206_4 jft_12_4 rfl jw_1209 rfl dX12_name_150 ?_
  refine jr_lm (fun s15 => ?_)
  refine jr_lload_n dX12_name_153 1 rfl ?_
  exact jr_ret_l rfl hl1 dX12_name_154
def jf_X12_name_L58 : Nat → Int → jl_Mm → jl_O
  | 0, _, _ => none
  | n + 1, l1, s0 =>
    if jl_g s0 206 3 ≤ jl_g s0 206 2 then (jf_X12_name_B145 l1 s0) else (if 0 ≤ jl_g s0 206 2 ∧ jl_g s0 206 2 < ((1600 : Nat) : Int) then jl_bd (jf_X12_isLetter (jl_g s0 207 (jl_g s0 206 2).toNat) s0) fun r17 s18 => if r17 = (0 : Int) then (jf_X12_name_B145 l1 s18) else (if jl_sub (jl_g s18 206 2) (jl_g s18 206 43) = (6 : Int) then (jl_bd (jf_X12_fail (1 : Int) (jl_g s18 206 2) s18) fun r24 s25 => some ((0 : Int), s25)) else (if 0 ≤ jl_g s18 206 2 ∧ jl_g s18 206 2 < ((1600 : Nat) : Int) then jl_let (jl_ladd (jl_lsub (jl_ladd (jl_lmul (27 : Int) l1) (jl_g s18 207 (jl_g s18 206 2).toNat)) (97 : Int)) (1 : Int)) fun x22 => jl_lm (jl_up s18 206 2 (jl_add (jl_g s18 206 2) (1 : Int))) fun s23 => jf_X12_name_L58 n x22 s23 else none)) else none)
set_option maxRecDepth 20000 in
set_option maxHeartbeats 2000000 in
theorem jj_X12_name_L58 (G : jl_GC) : ∀ (n : Nat) (l1 : Int) (hl1 : jl_n6 l1) (s0 : jl_Mm), j2 G jM_X12_name 58 [(0, jl_vr G 206), (1, jl_vl l1)] [] s0 (jf_X12_name_L58 n l1 s0) := by
  intro n
  induction n with
  | zero =>
    intros
    exact jr_none
  | succ n ih =>
    intro l1 hl1 s0
    refine jr_aload_n dX12_name_58 0 rfl ?_
    refine jr_geti (i := 2) jc_12 jk_206 (by decide) (Nat.le_of_ble_eq_true rfl) jlk_206_2 jft_12_2 jw_1207 dX12_name_59 ?_
    refine jr_aload_n dX12_name_62 0 rfl ?_
    refine jr_geti (i := 3) jc_12 jk_206 (by decide) (Nat.le_of_ble_eq_true rfl) jlk_206_3 jft_12_3 jw_1208 dX12_name_63 ?_
    refine jr_icmp_ge (t := 145) dX12_name_66 (by decide) (jl_n3_to _) (jl_n3_to _) (fun c14 => ?_) (fun c14 => ?_)
    · exact jj_X12_name_B145 G l1 hl1 s0
    · refine jr_aload_n dX12_name_69 0 rfl ?_
      refine jr_getk (i := 0) jc_12 jk_206 (by decide) (Nat.le_of_ble_eq_true rfl) jlk_206_0 jw_1205 dX12_name_70 ?_
      refine jr_aload_n dX12_name_73 0 rfl ?_
      refine jr_geti (i := 2) jc_12 jk_206 (by decide) (Nat.le_of_ble_eq_true rfl) jlk_206_2 jft_12_2 jw_1207 dX12_name_74 ?_
      refine jr_grd (fun g16 => ?_)
      refine jr_iaload jk_207 (by decide) (jl_n3_to _) g16 dX12_name_77 ?_
      refine j2_callSz (As := [jl_vi (jl_g s0 207 (jl_g s0 206 2).toNat)]) dX12_name_78 (jt_X12_isLetter G (jl_g s0 207 (jl_g s0 206 2).toNat) (jl_n3_to _) s0) jv_X12_isLetter ⟨rfl, rfl, rfl⟩ jw_1574 ⟨Nat.le_of_ble_eq_true rfl, Nat.le_of_ble_eq_true rfl⟩ rfl (Nat.le_of_ble_eq_true rfl) (fun r17 s18 hr17 => ?_)
      refine jr_if_eq (t := 145) dX12_name_81 (by decide) (jl_nz hr17) (fun c19 => ?_) (fun c19 => ?_)
      · exact jj_X12_name_B145 G l1 hl1 s18
      · refine jr_aload_n dX12_name_84 0 rfl ?_
        refine jr_geti (i := 2) jc_12 jk_206 (by decide) (Nat.le_of_ble_eq_true rfl) jlk_206_2 jft_12_2 jw_1207 dX12_name_85 ?_
        refine jr_aload_n dX12_name_88 0 rfl ?_
        refine jr_geti (i := 43) jc_12 jk_206 (by decide) (Nat.le_of_ble_eq_true rfl) jlk_206_43 jft_12_43 jw_1248 dX12_name_89 ?_
        refine jr_isub dX12_name_92 ?_
        refine jr_bipush dX12_name_93 (by decide) ?_
        refine jr_icmp_ne (t := 109) dX12_name_95 (by decide) (jl_n3_to _) (jl_nlit rfl) (fun c20 => ?_) (fun c20 => ?_)
        · refine jr_aload_n dX12_name_98 0 rfl ?_
          refine jr_iconst dX12_name_99 ?_
          refine jr_aload_n dX12_name_100 0 rfl ?_
          refine jr_geti (i := 2) jc_12 jk_206 (by decide) (Nat.le_of_ble_eq_true rfl) jlk_206_2 jft_12_2 jw_1207 dX12_name_101 ?_
          refine j2_callVv (As := [jl_vi (1 : Int), jl_vi (jl_g s18 206 2)]) dX12_name_104 (jt_X12_fail G (1 : Int) (jl_g s18 206 2) (jl_nlit rfl) (jl_n3_to _) s18) jv_X12_fail ⟨rfl, rfl, rfl⟩ jw_1577 jk_206 (by decide) (by decide) rfl ⟨Nat.le_of_ble_eq_true rfl, Nat.le_of_ble_eq_true rfl⟩ rfl (Nat.le_of_ble_eq_true rfl) (fun r24 s25 hr24 => ?_)
          refine jr_lconst (v := 0) dX12_name_107 (by decide) ?_
          exact jr_ret_l rfl (jl_n6lit rfl) dX12_name_108
        · refine jr_ldc2_w (v := 27) dX12_name_109 jw_1623 (by decide) ?_
          refine jr_lload_n dX12_name_112 1 rfl ?_
          refine jr_lmul dX12_name_113 ?_
          refine jr_aload_n dX12_name_114 0 rfl ?_
          refine jr_getk (i := 0) jc_12 jk_206 (by decide) (Nat.le_of_ble_eq_true rfl) jlk_206_0 jw_1205 dX12_name_115 ?_
          refine jr_aload_n dX12_name_118 0 rfl ?_
          refine jr_geti (i := 2) jc_12 jk_206 (by decide) (Nat.le_of_ble_eq_true rfl) jlk_206_2 jft_12_2 jw_1207 dX12_name_119 ?_
          refine jr_grd (fun g21 => ?_)
          refine jr_iaload jk_207 (by decide) (jl_n3_to _) g21 dX12_name_122 ?_
          refine jr_i2l dX12_name_123 (jl_n3_to _) ?_
          refine jr_ladd dX12_name_124 ?_
          refine jr_ldc2_w (v := 97) dX12_name_125 jw_1624 (by decide) ?_
          refine jr_lsub dX12_name_128 ?_
          refine jr_lconst (v := 1) dX12_name_129 (by decide) ?_
          refine jr_ladd dX12_name_130 ?_
          refine jr_letl (jl_n6_to _) (fun x22 hx22 => ?_)
          refine jr_lstore_n (lv := [(1, jl_vl x22), (0, jl_vr G 206)]) dX12_name_131 rfl (Nat.le_of_ble_eq_true rfl) rfl ?_
          refine jr_aload_n dX12_name_132 1 rfl ?_
          refine jr_dup dX12_name_133 rfl ?_
          refine jr_geti (i := 2) jc_12 jk_206 (by decide) (Nat.le_of_ble_eq_true rfl) jlk_206_2 jft_12_2 jw_1207 dX12_name_134 ?_
          refine jr_iconst dX12_name_137 ?_
          refine jr_iadd dX12_name_138 ?_
          refine jr_puti (i := 2) jc_12 jk_206 (by decide) (Nat.le_of_ble_eq_true rfl) jlk_206_2 jft_12_2 rfl jw_1207 rfl dX12_name_139 ?_
          refine jr_lm (fun s23 => ?_)
          refine jr_goto (t := 58) dX12_name_142 (by decide) ?_
          refine jr_sub [1, 0] rfl ?_
          exact ih x22 hx22 s23
def jf_X12_name (s0 : jl_Mm) : jl_O :=
  if jl_g s0 206 5 = (0 : Int) then (jl_bd (jf_X12_look s0) fun r2 s3 => jl_bd (jf_X12_isLetter r2 s3) fun r4 s5 => if r4 = (0 : Int) then (jf_X12_name_B37 s5) else (if jl_g s5 206 2 = jl_g s5 206 4 then (jf_X12_name_B37 s5) else (jl_bd (jf_X12_isOwnHere s5) fun r10 s11 => if r10 = (0 : Int) then (jl_lm (jl_up s11 206 43 (jl_g s11 206 2)) fun s13 => jf_X12_name_L58 jl_fu (0 : Int) s13) else (jf_X12_name_B37 s11)))) else (some ((0 : Int), s0))
set_option maxRecDepth 20000 in
set_option maxHeartbeats 2000000 in
theorem jt_X12_name (G : jl_GC) (s0 : jl_Mm) : jC2 G jM_X12_name [jl_vr G 206] s0 (jf_X12_name s0) := by
  refine jl_met (plainFor_of_name rfl) (Nat.le_of_ble_eq_true rfl) ?_
  show j2 G jM_X12_name 0 [(0, jl_vr G 206)] [] s0 _
  refine jr_aload_n dX12_name_0 0 rfl ?_
  refine jr_geti (i := 5) jc_12 jk_206 (by decide) (Nat.le_of_ble_eq_true rfl) jlk_206_5 jft_12_5 jw_1210 dX12_name_1 ?_
  refine jr_if_eq (t := 9) dX12_name_4 (by decide) (jl_n3_to _) (fun c1 => ?_) (fun c1 => ?_)
  · refine jr_aload_n dX12_name_9 0 rfl ?_
    refine j2_callVi (As := []) dX12_name_10 (jt_X12_look G s0) jv_X12_look ⟨rfl, rfl, rfl⟩ jw_1570 jk_206 (by decide) (by decide) rfl ⟨Nat.le_of_ble_eq_true rfl, Nat.le_of_ble_eq_true rfl⟩ rfl (Nat.le_of_ble_eq_true rfl) (fun r2 s3 hr2 => ?_)
    refine j2_callSz (As := [jl_vi r2]) dX12_name_13 (jt_X12_isLetter G r2 hr2 s3) jv_X12_isLetter ⟨rfl, rfl, rfl⟩ jw_1574 ⟨Nat.le_of_ble_eq_true rfl, Nat.le_of_ble_eq_true rfl⟩ rfl (Nat.le_of_ble_eq_true rfl) (fun r4 s5 hr4 => ?_)
    refine jr_if_eq (t := 37) dX12_name_16 (by decide) (jl_nz hr4) (fun c6 => ?_) (fun c6 => ?_)
    · exact jj_X12_name_B37 G s5
    · refine jr_aload_n dX12_name_19 0 rfl ?_
      refine jr_geti (i := 2) jc_12 jk_206 (by decide) (Nat.le_of_ble_eq_true rfl) jlk_206_2 jft_12_2 jw_1207 dX12_name_20 ?_
      refine jr_aload_n dX12_name_23 0 rfl ?_
      refine jr_geti (i := 4) jc_12 jk_206 (by decide) (Nat.le_of_ble_eq_true rfl) jlk_206_4 jft_12_4 jw_1209 dX12_name_24 ?_
      refine jr_icmp_eq (t := 37) dX12_name_27 (by decide) (jl_n3_to _) (jl_n3_to _) (fun c9 => ?_) (fun c9 => ?_)
      · exact jj_X12_name_B37 G s5
      · refine jr_aload_n dX12_name_30 0 rfl ?_
        refine j2_callVz (As := []) dX12_name_31 (jt_X12_isOwnHere G s5) jv_X12_isOwnHere ⟨rfl, rfl, rfl⟩ jw_1619 jk_206 (by decide) (by decide) rfl ⟨Nat.le_of_ble_eq_true rfl, Nat.le_of_ble_eq_true rfl⟩ rfl (Nat.le_of_ble_eq_true rfl) (fun r10 s11 hr10 => ?_)
        refine jr_if_eq (t := 48) dX12_name_34 (by decide) (jl_nz hr10) (fun c12 => ?_) (fun c12 => ?_)
        · refine jr_aload_n dX12_name_48 0 rfl ?_
          refine jr_aload_n dX12_name_49 0 rfl ?_
          refine jr_geti (i := 2) jc_12 jk_206 (by decide) (Nat.le_of_ble_eq_true rfl) jlk_206_2 jft_12_2 jw_1207 dX12_name_50 ?_
          refine jr_puti (i := 43) jc_12 jk_206 (by decide) (Nat.le_of_ble_eq_true rfl) jlk_206_43 jft_12_43 rfl jw_1248 rfl dX12_name_53 ?_
          refine jr_lm (fun s13 => ?_)
          refine jr_lconst (v := 0) dX12_name_56 (by decide) ?_
          refine jr_lstore_n (lv := [(1, jl_vl (0 : Int)), (0, jl_vr G 206)]) dX12_name_57 rfl (Nat.le_of_ble_eq_true rfl) rfl ?_
          refine jr_sub [1, 0] rfl ?_
          exact jj_X12_name_L58 G jl_fu (0 : Int) (jl_n6lit rfl) s13
        · exact jj_X12_name_B37 G s11
  · refine jr_lconst (v := 0) dX12_name_7 (by decide) ?_
    exact jr_ret_l rfl (jl_n6lit rfl) dX12_name_8
def jf_X12_isAllowed_B42 (k0 : Int) (s0 : jl_Mm) : jl_O :=
  jl_zb k0 s0
set_option maxRecDepth 20000 in
set_option maxHeartbeats 2000000 in
theorem jj_X12_isAllowed_B42 (G : jl_GC) (k0 : Int) (hk0 : jl_n3 k0) (s0 : jl_Mm) : j2 G jM_X12_isAllowed 42 [] [jl_vi k0] s0 (jf_X12_isAllowed_B42 k0 s0) := by
  exact jr_ret_z rfl dX12_isAllowed_42
def jf_X12_isAllowed_B66 (k0 : Int) (s0 : jl_Mm) : jl_O :=
  jl_zb k0 s0
set_option maxRecDepth 20000 in
set_option maxHeartbeats 2000000 in
theorem jj_X12_isAllowed_B66 (G : jl_GC) (k0 : Int) (hk0 : jl_n3 k0) (s0 : jl_Mm) : j2 G jM_X12_isAllowed 66 [] [jl_vi k0] s0 (jf_X12_isAllowed_B66 k0 s0) := by
  exact jr_ret_z rfl dX12_isAllowed_66
def jf_X12_isAllowed_B61 (s0 : jl_Mm) : jl_O :=
  jf_X12_isAllowed_B66 (1 : Int) s0
set_option maxRecDepth 20000 in
set_option maxHeartbeats 2000000 in
theorem jj_X12_isAllowed_B61 (G : jl_GC) (s0 : jl_Mm) : j2 G jM_X12_isAllowed 61 [] [] s0 (jf_X12_isAllowed_B61 s0) := by
  refine jr_iconst dX12_isAllowed_61 ?_
  refine jr_goto (t := 66) dX12_isAllowed_62 (by decide) ?_
  exact jj_X12_isAllowed_B66 G (1 : Int) (jl_nlit rfl) s0
def jf_X12_isAllowed_B90 (k0 : Int) (s0 : jl_Mm) : jl_O :=
  jl_zb k0 s0
set_option maxRecDepth 20000 in
set_option maxHeartbeats 2000000 in
theorem jj_X12_isAllowed_B90 (G : jl_GC) (k0 : Int) (hk0 : jl_n3 k0) (s0 : jl_Mm) : j2 G jM_X12_isAllowed 90 [] [jl_vi k0] s0 (jf_X12_isAllowed_B90 k0 s0) := by
  exact jr_ret_z rfl dX12_isAllowed_90
def jf_X12_isAllowed_B85 (s0 : jl_Mm) : jl_O :=
  jf_X12_isAllowed_B90 (1 : Int) s0
set_option maxRecDepth 20000 in
set_option maxHeartbeats 2000000 in
theorem jj_X12_isAllowed_B85 (G : jl_GC) (s0 : jl_Mm) : j2 G jM_X12_isAllowed 85 [] [] s0 (jf_X12_isAllowed_B85 s0) := by
  refine jr_iconst dX12_isAllowed_85 ?_
  refine jr_goto (t := 90) dX12_isAllowed_86 (by decide) ?_
  exact jj_X12_isAllowed_B90 G (1 : Int) (jl_nlit rfl) s0
def jf_X12_isAllowed (v1 : Int) (s0 : jl_Mm) : jl_O :=
  jl_let (jl_g s0 206 55) fun x1 => if x1 = 0 then (if (2 : Int) ≤ v1 then (jf_X12_isAllowed_B42 (0 : Int) s0) else (jf_X12_isAllowed_B42 (1 : Int) s0)) else if x1 = 1 then (if v1 = (0 : Int) then (jf_X12_isAllowed_B61 s0) else (jl_bd (jf_X12_isIn v1 (2 : Int) (5 : Int) s0) fun r6 s7 => if r6 = (0 : Int) then (jf_X12_isAllowed_B66 (0 : Int) s7) else (jf_X12_isAllowed_B61 s7))) else if x1 = 2 then (if v1 = (0 : Int) then (jf_X12_isAllowed_B85 s0) else (jl_bd (jf_X12_isIn v1 (2 : Int) (6 : Int) s0) fun r11 s12 => if r11 = (0 : Int) then (jf_X12_isAllowed_B90 (0 : Int) s12) else (jf_X12_isAllowed_B85 s12))) else (jl_zb (1 : Int) s0)
set_option maxRecDepth 20000 in
set_option maxHeartbeats 2000000 in
theorem jt_X12_isAllowed (G : jl_GC) (v1 : Int) (h1 : jl_n3 v1) (s0 : jl_Mm) : jC2 G jM_X12_isAllowed [jl_vr G 206, jl_vi v1] s0 (jf_X12_isAllowed v1 s0) := by
  refine jl_met (plainFor_of_name rfl) (Nat.le_of_ble_eq_true rfl) ?_
  show j2 G jM_X12_isAllowed 0 [(0, jl_vr G 206), (1, jl_vi v1)] [] s0 _
  refine jr_aload_n dX12_isAllowed_0 0 rfl ?_
  refine jr_geti (i := 55) jc_12 jk_206 (by decide) (Nat.le_of_ble_eq_true rfl) jlk_206_55 jft_12_55 jw_1260 dX12_isAllowed_1 ?_
  refine jr_let (jl_n3_to _) (fun x1 hx1 => ?_)
  refine jr_ite (fun c2 => ?_) (fun c2 => ?_)
  · refine jr_tabIn (t := 32) dX12_isAllowed_4 hx1 (by omega) (by omega) (by rw [c2]; rfl) (by decide) ?_
    refine jr_iload_n dX12_isAllowed_32 1 rfl ?_
    refine jr_iconst dX12_isAllowed_33 ?_
    refine jr_icmp_ge (t := 41) dX12_isAllowed_34 (by decide) h1 (jl_nlit rfl) (fun c3 => ?_) (fun c3 => ?_)
    · refine jr_iconst dX12_isAllowed_41 ?_
      refine jr_sub [] rfl ?_
      exact jj_X12_isAllowed_B42 G (0 : Int) (jl_nlit rfl) s0
    · refine jr_iconst dX12_isAllowed_37 ?_
      refine jr_goto (t := 42) dX12_isAllowed_38 (by decide) ?_
      refine jr_sub [] rfl ?_
      exact jj_X12_isAllowed_B42 G (1 : Int) (jl_nlit rfl) s0
  · skip
    refine jr_ite (fun c4 => ?_) (fun c4 => ?_)
    · refine jr_tabIn (t := 43) dX12_isAllowed_4 hx1 (by omega) (by omega) (by rw [c4]; rfl) (by decide) ?_
      refine jr_iload_n dX12_isAllowed_43 1 rfl ?_
      refine jr_if_eq (t := 61) dX12_isAllowed_44 (by decide) h1 (fun c5 => ?_) (fun c5 => ?_)
      · refine jr_sub [] rfl ?_
        exact jj_X12_isAllowed_B61 G s0
      · refine jr_iload_n dX12_isAllowed_47 1 rfl ?_
        refine jr_i2l dX12_isAllowed_48 h1 ?_
        refine jr_ldc2_w (v := 2) dX12_isAllowed_49 jw_1681 (by decide) ?_
        refine jr_ldc2_w (v := 5) dX12_isAllowed_52 jw_1682 (by decide) ?_
        refine j2_callSz (As := [jl_vl v1, jl_vl (2 : Int), jl_vl (5 : Int)]) dX12_isAllowed_55 (jt_X12_isIn G v1 (2 : Int) (5 : Int) (jl_n36 h1) (jl_n6lit rfl) (jl_n6lit rfl) s0) jv_X12_isIn ⟨rfl, rfl, rfl⟩ jw_1588 ⟨Nat.le_of_ble_eq_true rfl, Nat.le_of_ble_eq_true rfl⟩ rfl (Nat.le_of_ble_eq_true rfl) (fun r6 s7 hr6 => ?_)
        refine jr_if_eq (t := 65) dX12_isAllowed_58 (by decide) (jl_nz hr6) (fun c8 => ?_) (fun c8 => ?_)
        · refine jr_iconst dX12_isAllowed_65 ?_
          refine jr_sub [] rfl ?_
          exact jj_X12_isAllowed_B66 G (0 : Int) (jl_nlit rfl) s7
        · refine jr_sub [] rfl ?_
          exact jj_X12_isAllowed_B61 G s7
    · skip
      refine jr_ite (fun c9 => ?_) (fun c9 => ?_)
      · refine jr_tabIn (t := 67) dX12_isAllowed_4 hx1 (by omega) (by omega) (by rw [c9]; rfl) (by decide) ?_
        refine jr_iload_n dX12_isAllowed_67 1 rfl ?_
        refine jr_if_eq (t := 85) dX12_isAllowed_68 (by decide) h1 (fun c10 => ?_) (fun c10 => ?_)
        · refine jr_sub [] rfl ?_
          exact jj_X12_isAllowed_B85 G s0
        · refine jr_iload_n dX12_isAllowed_71 1 rfl ?_
          refine jr_i2l dX12_isAllowed_72 h1 ?_
          refine jr_ldc2_w (v := 2) dX12_isAllowed_73 jw_1681 (by decide) ?_
          refine jr_ldc2_w (v := 6) dX12_isAllowed_76 jw_1683 (by decide) ?_
          refine j2_callSz (As := [jl_vl v1, jl_vl (2 : Int), jl_vl (6 : Int)]) dX12_isAllowed_79 (jt_X12_isIn G v1 (2 : Int) (6 : Int) (jl_n36 h1) (jl_n6lit rfl) (jl_n6lit rfl) s0) jv_X12_isIn ⟨rfl, rfl, rfl⟩ jw_1588 ⟨Nat.le_of_ble_eq_true rfl, Nat.le_of_ble_eq_true rfl⟩ rfl (Nat.le_of_ble_eq_true rfl) (fun r11 s12 hr11 => ?_)
          refine jr_if_eq (t := 89) dX12_isAllowed_82 (by decide) (jl_nz hr11) (fun c13 => ?_) (fun c13 => ?_)
          · refine jr_iconst dX12_isAllowed_89 ?_
            refine jr_sub [] rfl ?_
            exact jj_X12_isAllowed_B90 G (0 : Int) (jl_nlit rfl) s12
          · refine jr_sub [] rfl ?_
            exact jj_X12_isAllowed_B85 G s12
      · skip
        refine jr_tabOut (t := 91) dX12_isAllowed_4 hx1 (by omega) (by decide) ?_
        refine jr_iconst dX12_isAllowed_91 ?_
        exact jr_ret_z rfl dX12_isAllowed_92
def jf_X12_isFull_B35 (k0 : Int) (s0 : jl_Mm) : jl_O :=
  jl_zb k0 s0
set_option maxRecDepth 20000 in
set_option maxHeartbeats 2000000 in
theorem jj_X12_isFull_B35 (G : jl_GC) (k0 : Int) (hk0 : jl_n3 k0) (s0 : jl_Mm) : j2 G jM_X12_isFull 35 [] [jl_vi k0] s0 (jf_X12_isFull_B35 k0 s0) := by
  exact jr_ret_z rfl dX12_isFull_35
def jf_X12_isFull_B23 (s0 : jl_Mm) : jl_O :=
  if jl_g s0 206 5 = (0 : Int) then (jf_X12_isFull_B35 (0 : Int) s0) else (jf_X12_isFull_B35 (1 : Int) s0)
set_option maxRecDepth 20000 in
set_option maxHeartbeats 2000000 in
theorem jj_X12_isFull_B23 (G : jl_GC) (s0 : jl_Mm) : j2 G jM_X12_isFull 23 [(0, jl_vr G 206)] [] s0 (jf_X12_isFull_B23 s0) := by
  refine jr_aload_n dX12_isFull_23 0 rfl ?_
  refine jr_geti (i := 5) jc_12 jk_206 (by decide) (Nat.le_of_ble_eq_true rfl) jlk_206_5 jft_12_5 jw_1210 dX12_isFull_24 ?_
  refine jr_if_eq (t := 34) dX12_isFull_27 (by decide) (jl_n3_to _) (fun c2 => ?_) (fun c2 => ?_)
  · refine jr_iconst dX12_isFull_34 ?_
    refine jr_sub [] rfl ?_
    exact jj_X12_isFull_B35 G (0 : Int) (jl_nlit rfl) s0
  · refine jr_iconst dX12_isFull_30 ?_
    refine jr_goto (t := 35) dX12_isFull_31 (by decide) ?_
    refine jr_sub [] rfl ?_
    exact jj_X12_isFull_B35 G (1 : Int) (jl_nlit rfl) s0
def jf_X12_isFull (v1 : Int) (v2 : Int) (v3 : Int) (s0 : jl_Mm) : jl_O :=
  if jl_g s0 206 5 = (0 : Int) then (if 0 ≤ v1 ∧ v1 < ((12 : Nat) : Int) then if jl_g s0 241 (v1).toNat = v2 then (jl_bd (jf_X12_fail (5 : Int) v3 s0) fun r5 s6 => jf_X12_isFull_B23 s6) else (jf_X12_isFull_B23 s0) else none) else (jf_X12_isFull_B23 s0)
set_option maxRecDepth 20000 in
set_option maxHeartbeats 2000000 in
theorem jt_X12_isFull (G : jl_GC) (v1 : Int) (v2 : Int) (v3 : Int) (h1 : jl_n3 v1) (h2 : jl_n3 v2) (h3 : jl_n3 v3) (s0 : jl_Mm) : jC2 G jM_X12_isFull [jl_vr G 206, jl_vi v1, jl_vi v2, jl_vi v3] s0 (jf_X12_isFull v1 v2 v3 s0) := by
  refine jl_met (plainFor_of_name rfl) (Nat.le_of_ble_eq_true rfl) ?_
  show j2 G jM_X12_isFull 0 [(0, jl_vr G 206), (1, jl_vi v1), (2, jl_vi v2), (3, jl_vi v3)] [] s0 _
  refine jr_aload_n dX12_isFull_0 0 rfl ?_
  refine jr_geti (i := 5) jc_12 jk_206 (by decide) (Nat.le_of_ble_eq_true rfl) jlk_206_5 jft_12_5 jw_1210 dX12_isFull_1 ?_
  refine jr_if_ne (t := 23) dX12_isFull_4 (by decide) (jl_n3_to _) (fun c1 => ?_) (fun c1 => ?_)
  · refine jr_aload_n dX12_isFull_7 0 rfl ?_
    refine jr_getk (i := 44) jc_12 jk_206 (by decide) (Nat.le_of_ble_eq_true rfl) jlk_206_44 jw_1249 dX12_isFull_8 ?_
    refine jr_iload_n dX12_isFull_11 1 rfl ?_
    refine jr_grd (fun g3 => ?_)
    refine jr_iaload jk_241 (by decide) h1 g3 dX12_isFull_12 ?_
    refine jr_iload_n dX12_isFull_13 2 rfl ?_
    refine jr_icmp_ne (t := 23) dX12_isFull_14 (by decide) (jl_n3_to _) h2 (fun c4 => ?_) (fun c4 => ?_)
    · refine jr_aload_n dX12_isFull_17 0 rfl ?_
      refine jr_iconst dX12_isFull_18 ?_
      refine jr_iload_n dX12_isFull_19 3 rfl ?_
      refine j2_callVv (As := [jl_vi (5 : Int), jl_vi v3]) dX12_isFull_20 (jt_X12_fail G (5 : Int) v3 (jl_nlit rfl) h3 s0) jv_X12_fail ⟨rfl, rfl, rfl⟩ jw_1577 jk_206 (by decide) (by decide) rfl ⟨Nat.le_of_ble_eq_true rfl, Nat.le_of_ble_eq_true rfl⟩ rfl (Nat.le_of_ble_eq_true rfl) (fun r5 s6 hr5 => ?_)
      refine jr_sub [0] rfl ?_
      exact jj_X12_isFull_B23 G s6
    · refine jr_sub [0] rfl ?_
      exact jj_X12_isFull_B23 G s0
  · refine jr_sub [0] rfl ?_
    exact jj_X12_isFull_B23 G s0
def jf_X12_streetTold (s0 : jl_Mm) : jl_O :=
  jl_bd (jf_X12_asks 209 s0) fun r1 s2 => jl_bd (jf_X12_number (2 : Int) (30 : Int) s2) fun r3 s4 => jl_lm (jl_up s4 241 (((0 : Int) : Int).toNat) r3) fun s5 => jl_bd (jf_X12_asksSign (59 : Int) s5) fun r6 s7 => some (0, s7)
set_option maxRecDepth 20000 in
set_option maxHeartbeats 2000000 in
theorem jt_X12_streetTold (G : jl_GC) (s0 : jl_Mm) : jC2 G jM_X12_streetTold [jl_vr G 206] s0 (jf_X12_streetTold s0) := by
  refine jl_met (plainFor_of_name rfl) (Nat.le_of_ble_eq_true rfl) ?_
  show j2 G jM_X12_streetTold 0 [(0, jl_vr G 206)] [] s0 _
  refine jr_aload_n dX12_streetTold_0 0 rfl ?_
  refine jr_aload_n dX12_streetTold_1 0 rfl ?_
  refine jr_getk (i := 11) jc_12 jk_206 (by decide) (Nat.le_of_ble_eq_true rfl) jlk_206_11 jw_1216 dX12_streetTold_2 ?_
  refine j2_callVv (As := [jl_vr G 209]) dX12_streetTold_5 (jt_X12_asks G 209 s0) jv_X12_asks ⟨rfl, rfl, rfl⟩ jw_1558 jk_206 (by decide) (by decide) rfl ⟨Nat.le_of_ble_eq_true rfl, Nat.le_of_ble_eq_true rfl⟩ rfl (Nat.le_of_ble_eq_true rfl) (fun r1 s2 hr1 => ?_)
  refine jr_aload_n dX12_streetTold_8 0 rfl ?_
  refine jr_getk (i := 44) jc_12 jk_206 (by decide) (Nat.le_of_ble_eq_true rfl) jlk_206_44 jw_1249 dX12_streetTold_9 ?_
  refine jr_iconst dX12_streetTold_12 ?_
  refine jr_aload_n dX12_streetTold_13 0 rfl ?_
  refine jr_iconst dX12_streetTold_14 ?_
  refine jr_bipush dX12_streetTold_15 (by decide) ?_
  refine j2_callVi (As := [jl_vi (2 : Int), jl_vi (30 : Int)]) dX12_streetTold_17 (jt_X12_number G (2 : Int) (30 : Int) (jl_nlit rfl) (jl_nlit rfl) s2) jv_X12_number ⟨rfl, rfl, rfl⟩ jw_1581 jk_206 (by decide) (by decide) rfl ⟨Nat.le_of_ble_eq_true rfl, Nat.le_of_ble_eq_true rfl⟩ rfl (Nat.le_of_ble_eq_true rfl) (fun r3 s4 hr3 => ?_)
  refine jr_iastore jk_241 (by decide) (jl_nlit rfl) ⟨by decide, by decide⟩ dX12_streetTold_20 ?_
  refine jr_lm (fun s5 => ?_)
  refine jr_aload_n dX12_streetTold_21 0 rfl ?_
  refine jr_bipush dX12_streetTold_22 (by decide) ?_
  refine j2_callVv (As := [jl_vi (59 : Int)]) dX12_streetTold_24 (jt_X12_asksSign G (59 : Int) (jl_nlit rfl) s5) jv_X12_asksSign ⟨rfl, rfl, rfl⟩ jw_1591 jk_206 (by decide) (by decide) rfl ⟨Nat.le_of_ble_eq_true rfl, Nat.le_of_ble_eq_true rfl⟩ rfl (Nat.le_of_ble_eq_true rfl) (fun r6 s7 hr6 => ?_)
  exact jr_ret_v rfl dX12_streetTold_27
def jf_X12_newName_B61 (R7 : Int → Int → jl_Mm → jl_O) (R15 : Int → Int → Int → jl_Mm → jl_O) (l1 : Int) (l3 : Int) (l4 : Int) (s0 : jl_Mm) : jl_O :=
  R15 l1 l3 (jl_add l4 1) s0
set_option maxRecDepth 20000 in
set_option maxHeartbeats 2000000 in
theorem jj_X12_newName_B61 (G : jl_GC) (R7 : Int → Int → jl_Mm → jl_O) (R15 : Int → Int → Int → jl_Mm → jl_O) (hR7 : ∀ (l1 : Int) (l3 : Int) (_hl1 : jl_n6 l1) (_hl3 : jl_n3 l3) (s0 : jl_Mm), j2 G jM_X12_newName 7 [(0, jl_vr G 206), (1, jl_vl l1), (3, jl_vi l3)] [] s0 (R7 l1 l3 s0)) (hR15 : ∀ (l1 : Int) (l3 : Int) (l4 : Int) (_hl1 : jl_n6 l1) (_hl3 : jl_n3 l3) (_hl4 : jl_n3 l4) (s0 : jl_Mm), j2 G jM_X12_newName 15 [(0, jl_vr G 206), (1, jl_vl l1), (3, jl_vi l3), (4, jl_vi l4)] [] s0 (R15 l1 l3 l4 s0)) (l1 : Int) (l3 : Int) (l4 : Int) (hl1 : jl_n6 l1) (hl3 : jl_n3 l3) (hl4 : jl_n3 l4) (s0 : jl_Mm) : j2 G jM_X12_newName 61 [(0, jl_vr G 206), (1, jl_vl l1), (3, jl_vi l3), (4, jl_vi l4)] [] s0 (jf_X12_newName_B61 R7 R15 l1 l3 l4 s0) := by
  refine jr_iinc (j := 3) (lv := [(4, jl_vi (jl_add l4 1)), (0, jl_vr G 206), (1, jl_vl l1), (3, jl_vi l3)]) dX12_newName_61 rfl (Nat.le_of_ble_eq_true rfl) rfl ?_
  refine jr_goto (t := 15) dX12_newName_64 (by decide) ?_
  refine jr_sub [1, 2, 3, 0] rfl ?_
  exact hR15 l1 l3 (jl_add l4 1) hl1 hl3 (jl_n3_to _) s0
def jf_X12_newName_L15 (R7 : Int → Int → jl_Mm → jl_O) : Nat → Int → Int → Int → jl_Mm → jl_O
  | 0, _, _, _, _ => none
  | n + 1, l1, l3, l4, s0 =>
    if 0 ≤ jl_add (1 : Int) l3 ∧ jl_add (1 : Int) l3 < ((12 : Nat) : Int) then if jl_g s0 241 (jl_add (1 : Int) l3).toNat ≤ l4 then (R7 l1 (jl_add l3 1) s0) else (if jl_g s0 206 5 = (0 : Int) then (if 0 ≤ jl_add (jl_mul (8 : Int) l3) l4 ∧ jl_add (jl_mul (8 : Int) l3) l4 < ((32 : Nat) : Int) then if jl_lcmp (jl_gl s0 242 (jl_add (jl_mul (8 : Int) l3) l4).toNat) l1 = (0 : Int) then (jl_bd (jf_X12_fail (3 : Int) (jl_g s0 206 43) s0) fun r9 s10 => jf_X12_newName_B61 (R7) (jf_X12_newName_L15 R7 n) l1 l3 l4 s10) else (jf_X12_newName_B61 (R7) (jf_X12_newName_L15 R7 n) l1 l3 l4 s0) else none) else (jf_X12_newName_B61 (R7) (jf_X12_newName_L15 R7 n) l1 l3 l4 s0)) else none
set_option maxRecDepth 20000 in
set_option maxHeartbeats 2000000 in
theorem jj_X12_newName_L15 (G : jl_GC) (R7 : Int → Int → jl_Mm → jl_O) (hR7 : ∀ (l1 : Int) (l3 : Int) (_hl1 : jl_n6 l1) (_hl3 : jl_n3 l3) (s0 : jl_Mm), j2 G jM_X12_newName 7 [(0, jl_vr G 206), (1, jl_vl l1), (3, jl_vi l3)] [] s0 (R7 l1 l3 s0)) : ∀ (n : Nat) (l1 : Int) (l3 : Int) (l4 : Int) (hl1 : jl_n6 l1) (hl3 : jl_n3 l3) (hl4 : jl_n3 l4) (s0 : jl_Mm), j2 G jM_X12_newName 15 [(0, jl_vr G 206), (1, jl_vl l1), (3, jl_vi l3), (4, jl_vi l4)] [] s0 (jf_X12_newName_L15 R7 n l1 l3 l4 s0) := by
  intro n
  induction n with
  | zero =>
    intros
    exact jr_none
  | succ n ih =>
    intro l1 l3 l4 hl1 hl3 hl4 s0
    refine jr_iload dX12_newName_15 3 rfl ?_
    refine jr_aload_n dX12_newName_17 0 rfl ?_
    refine jr_getk (i := 44) jc_12 jk_206 (by decide) (Nat.le_of_ble_eq_true rfl) jlk_206_44 jw_1249 dX12_newName_18 ?_
    refine jr_iconst dX12_newName_21 ?_
    refine jr_iload_n dX12_newName_22 2 rfl ?_
    refine jr_iadd dX12_newName_23 ?_
    refine jr_grd (fun g4 => ?_)
    refine jr_iaload jk_241 (by decide) (jl_n3_to _) g4 dX12_newName_24 ?_
    refine jr_icmp_ge (t := 67) dX12_newName_25 (by decide) hl4 (jl_n3_to _) (fun c5 => ?_) (fun c5 => ?_)
    · refine jr_iinc (j := 2) (lv := [(3, jl_vi (jl_add l3 1)), (0, jl_vr G 206), (1, jl_vl l1), (4, jl_vi l4)]) dX12_newName_67 rfl (Nat.le_of_ble_eq_true rfl) rfl ?_
      refine jr_goto (t := 7) dX12_newName_70 (by decide) ?_
      refine jr_sub [1, 2, 0] rfl ?_
      exact hR7 l1 (jl_add l3 1) hl1 (jl_n3_to _) s0
    · refine jr_aload_n dX12_newName_28 0 rfl ?_
      refine jr_geti (i := 5) jc_12 jk_206 (by decide) (Nat.le_of_ble_eq_true rfl) jlk_206_5 jft_12_5 jw_1210 dX12_newName_29 ?_
      refine jr_if_ne (t := 61) dX12_newName_32 (by decide) (jl_n3_to _) (fun c6 => ?_) (fun c6 => ?_)
      · refine jr_aload_n dX12_newName_35 0 rfl ?_
        refine jr_getk (i := 45) jc_12 jk_206 (by decide) (Nat.le_of_ble_eq_true rfl) jlk_206_45 jw_1250 dX12_newName_36 ?_
        refine jr_bipush dX12_newName_39 (by decide) ?_
        refine jr_iload_n dX12_newName_41 2 rfl ?_
        refine jr_imul dX12_newName_42 ?_
        refine jr_iload dX12_newName_43 3 rfl ?_
        refine jr_iadd dX12_newName_45 ?_
        refine jr_grd (fun g7 => ?_)
        refine jr_laload jk_242 (by decide) (jl_n3_to _) g7 dX12_newName_46 ?_
        refine jr_lload_n dX12_newName_47 1 rfl ?_
        refine jr_lcmp dX12_newName_48 ?_
        refine jr_if_ne (t := 61) dX12_newName_49 (by decide) (jl_n3_to _) (fun c8 => ?_) (fun c8 => ?_)
        · refine jr_aload_n dX12_newName_52 0 rfl ?_
          refine jr_iconst dX12_newName_53 ?_
          refine jr_aload_n dX12_newName_54 0 rfl ?_
          refine jr_geti (i := 43) jc_12 jk_206 (by decide) (Nat.le_of_ble_eq_true rfl) jlk_206_43 jft_12_43 jw_1248 dX12_newName_55 ?_
          refine j2_callVv (As := [jl_vi (3 : Int), jl_vi (jl_g s0 206 43)]) dX12_newName_58 (jt_X12_fail G (3 : Int) (jl_g s0 206 43) (jl_nlit rfl) (jl_n3_to _) s0) jv_X12_fail ⟨rfl, rfl, rfl⟩ jw_1577 jk_206 (by decide) (by decide) rfl ⟨Nat.le_of_ble_eq_true rfl, Nat.le_of_ble_eq_true rfl⟩ rfl (Nat.le_of_ble_eq_true rfl) (fun r9 s10 hr9 => ?_)
          exact jj_X12_newName_B61 G (R7) (jf_X12_newName_L15 R7 n) (hR7) (ih) l1 l3 l4 hl1 hl3 hl4 s10
        · exact jj_X12_newName_B61 G (R7) (jf_X12_newName_L15 R7 n) (hR7) (ih) l1 l3 l4 hl1 hl3 hl4 s0
      · exact jj_X12_newName_B61 G (R7) (jf_X12_newName_L15 R7 n) (hR7) (ih) l1 l3 l4 hl1 hl3 hl4 s0
def jf_X12_newName_L7 : Nat → Int → Int → jl_Mm → jl_O
  | 0, _, _, _ => none
  | n + 1, l1, l3, s0 =>
    if (2 : Int) ≤ l3 then (some (l1, s0)) else (jf_X12_newName_L15 (jf_X12_newName_L7 n) jl_fu l1 l3 (0 : Int) s0)
set_option maxRecDepth 20000 in
set_option maxHeartbeats 2000000 in
theorem jj_X12_newName_L7 (G : jl_GC) : ∀ (n : Nat) (l1 : Int) (l3 : Int) (hl1 : jl_n6 l1) (hl3 : jl_n3 l3) (s0 : jl_Mm), j2 G jM_X12_newName 7 [(0, jl_vr G 206), (1, jl_vl l1), (3, jl_vi l3)] [] s0 (jf_X12_newName_L7 n l1 l3 s0) := by
  intro n
  induction n with
  | zero =>
    intros
    exact jr_none
  | succ n ih =>
    intro l1 l3 hl1 hl3 s0
    refine jr_iload_n dX12_newName_7 2 rfl ?_
    refine jr_iconst dX12_newName_8 ?_
    refine jr_icmp_ge (t := 73) dX12_newName_9 (by decide) hl3 (jl_nlit rfl) (fun c3 => ?_) (fun c3 => ?_)
    · refine jr_lload_n dX12_newName_73 1 rfl ?_
      exact jr_ret_l rfl hl1 dX12_newName_74
    · refine jr_iconst dX12_newName_12 ?_
      refine jr_istore (lv := [(4, jl_vi (0 : Int)), (0, jl_vr G 206), (1, jl_vl l1), (3, jl_vi l3)]) dX12_newName_13 (Nat.le_of_ble_eq_true rfl) rfl ?_
      refine jr_sub [1, 2, 3, 0] rfl ?_
      exact jj_X12_newName_L15 G (jf_X12_newName_L7 n) (ih) jl_fu l1 l3 (0 : Int) hl1 hl3 (jl_nlit rfl) s0
def jf_X12_newName (s0 : jl_Mm) : jl_O :=
  jl_bd (jf_X12_name s0) fun r1 s2 => jf_X12_newName_L7 jl_fu r1 (0 : Int) s2
set_option maxRecDepth 20000 in
set_option maxHeartbeats 2000000 in
theorem jt_X12_newName (G : jl_GC) (s0 : jl_Mm) : jC2 G jM_X12_newName [jl_vr G 206] s0 (jf_X12_newName s0) := by
  refine jl_met (plainFor_of_name rfl) (Nat.le_of_ble_eq_true rfl) ?_
  show j2 G jM_X12_newName 0 [(0, jl_vr G 206)] [] s0 _
  refine jr_aload_n dX12_newName_0 0 rfl ?_
  refine j2_callVl (As := []) dX12_newName_1 (jt_X12_name G s0) jv_X12_name ⟨rfl, rfl, rfl⟩ jw_1615 jk_206 (by decide) (by decide) rfl ⟨Nat.le_of_ble_eq_true rfl, Nat.le_of_ble_eq_true rfl⟩ rfl (Nat.le_of_ble_eq_true rfl) (fun r1 s2 hr1 => ?_)
  refine jr_lstore_n (lv := [(1, jl_vl r1), (0, jl_vr G 206)]) dX12_newName_4 rfl (Nat.le_of_ble_eq_true rfl) rfl ?_
  refine jr_iconst dX12_newName_5 ?_
  refine jr_istore_n (lv := [(3, jl_vi (0 : Int)), (1, jl_vl r1), (0, jl_vr G 206)]) dX12_newName_6 rfl (Nat.le_of_ble_eq_true rfl) rfl ?_
  refine jr_sub [2, 1, 0] rfl ?_
  exact jj_X12_newName_L7 G jl_fu r1 (0 : Int) hr1 (jl_nlit rfl) s2
def jf_X12_named_B63 (s0 : jl_Mm) : jl_O :=
  some ((0 : Int), s0)
set_option maxRecDepth 20000 in
set_option maxHeartbeats 2000000 in
theorem jj_X12_named_B63 (G : jl_GC) (s0 : jl_Mm) : j2 G jM_X12_named 63 [] [] s0 (jf_X12_named_B63 s0) := by
  refine jr_iconst dX12_named_63 ?_
  exact jr_ret_i rfl (jl_nlit rfl) dX12_named_64
def jf_X12_named_L8 : Nat → Int → Int → Int → jl_Mm → jl_O
  | 0, _, _, _, _ => none
  | n + 1, l1, l2, l4, s0 =>
    if 0 ≤ jl_add (1 : Int) l1 ∧ jl_add (1 : Int) l1 < ((12 : Nat) : Int) then if jl_g s0 241 (jl_add (1 : Int) l1).toNat ≤ l4 then (if jl_g s0 206 5 = (0 : Int) then (jl_bd (jf_X12_fail (3 : Int) (jl_g s0 206 43) s0) fun r6 s7 => jf_X12_named_B63 s7) else (jf_X12_named_B63 s0)) else (if 0 ≤ jl_add (jl_mul (8 : Int) l1) l4 ∧ jl_add (jl_mul (8 : Int) l1) l4 < ((32 : Nat) : Int) then if jl_lcmp (jl_gl s0 242 (jl_add (jl_mul (8 : Int) l1) l4).toNat) l2 = (0 : Int) then (some (l4, s0)) else (jf_X12_named_L8 n l1 l2 (jl_add l4 1) s0) else none) else none
set_option maxRecDepth 20000 in
set_option maxHeartbeats 2000000 in
theorem jj_X12_named_L8 (G : jl_GC) : ∀ (n : Nat) (l1 : Int) (l2 : Int) (l4 : Int) (hl1 : jl_n3 l1) (hl2 : jl_n6 l2) (hl4 : jl_n3 l4) (s0 : jl_Mm), j2 G jM_X12_named 8 [(0, jl_vr G 206), (1, jl_vi l1), (2, jl_vl l2), (4, jl_vi l4)] [] s0 (jf_X12_named_L8 n l1 l2 l4 s0) := by
  intro n
  induction n with
  | zero =>
    intros
    exact jr_none
  | succ n ih =>
    intro l1 l2 l4 hl1 hl2 hl4 s0
    refine jr_iload dX12_named_8 3 rfl ?_
    refine jr_aload_n dX12_named_10 0 rfl ?_
    refine jr_getk (i := 44) jc_12 jk_206 (by decide) (Nat.le_of_ble_eq_true rfl) jlk_206_44 jw_1249 dX12_named_11 ?_
    refine jr_iconst dX12_named_14 ?_
    refine jr_iload_n dX12_named_15 1 rfl ?_
    refine jr_iadd dX12_named_16 ?_
    refine jr_grd (fun g3 => ?_)
    refine jr_iaload jk_241 (by decide) (jl_n3_to _) g3 dX12_named_17 ?_
    refine jr_icmp_ge (t := 47) dX12_named_18 (by decide) hl4 (jl_n3_to _) (fun c4 => ?_) (fun c4 => ?_)
    · refine jr_aload_n dX12_named_47 0 rfl ?_
      refine jr_geti (i := 5) jc_12 jk_206 (by decide) (Nat.le_of_ble_eq_true rfl) jlk_206_5 jft_12_5 jw_1210 dX12_named_48 ?_
      refine jr_if_ne (t := 63) dX12_named_51 (by decide) (jl_n3_to _) (fun c5 => ?_) (fun c5 => ?_)
      · refine jr_aload_n dX12_named_54 0 rfl ?_
        refine jr_iconst dX12_named_55 ?_
        refine jr_aload_n dX12_named_56 0 rfl ?_
        refine jr_geti (i := 43) jc_12 jk_206 (by decide) (Nat.le_of_ble_eq_true rfl) jlk_206_43 jft_12_43 jw_1248 dX12_named_57 ?_
        refine j2_callVv (As := [jl_vi (3 : Int), jl_vi (jl_g s0 206 43)]) dX12_named_60 (jt_X12_fail G (3 : Int) (jl_g s0 206 43) (jl_nlit rfl) (jl_n3_to _) s0) jv_X12_fail ⟨rfl, rfl, rfl⟩ jw_1577 jk_206 (by decide) (by decide) rfl ⟨Nat.le_of_ble_eq_true rfl, Nat.le_of_ble_eq_true rfl⟩ rfl (Nat.le_of_ble_eq_true rfl) (fun r6 s7 hr6 => ?_)
        refine jr_sub [] rfl ?_
        exact jj_X12_named_B63 G s7
      · refine jr_sub [] rfl ?_
        exact jj_X12_named_B63 G s0
    · refine jr_aload_n dX12_named_21 0 rfl ?_
      refine jr_getk (i := 45) jc_12 jk_206 (by decide) (Nat.le_of_ble_eq_true rfl) jlk_206_45 jw_1250 dX12_named_22 ?_
      refine jr_bipush dX12_named_25 (by decide) ?_
      refine jr_iload_n dX12_named_27 1 rfl ?_
      refine jr_imul dX12_named_28 ?_
      refine jr_iload dX12_named_29 3 rfl ?_
      refine jr_iadd dX12_named_31 ?_
      refine jr_grd (fun g8 => ?_)
      refine jr_laload jk_242 (by decide) (jl_n3_to _) g8 dX12_named_32 ?_
      refine jr_lload_n dX12_named_33 2 rfl ?_
      refine jr_lcmp dX12_named_34 ?_
      refine jr_if_ne (t := 41) dX12_named_35 (by decide) (jl_n3_to _) (fun c9 => ?_) (fun c9 => ?_)
      · refine jr_iload dX12_named_38 3 rfl ?_
        exact jr_ret_i rfl hl4 dX12_named_40
      · refine jr_iinc (j := 3) (lv := [(4, jl_vi (jl_add l4 1)), (0, jl_vr G 206), (1, jl_vi l1), (2, jl_vl l2)]) dX12_named_41 rfl (Nat.le_of_ble_eq_true rfl) rfl ?_
        refine jr_goto (t := 8) dX12_named_44 (by decide) ?_
        refine jr_sub [1, 2, 3, 0] rfl ?_
        exact ih l1 l2 (jl_add l4 1) hl1 hl2 (jl_n3_to _) s0
def jf_X12_named (v1 : Int) (s0 : jl_Mm) : jl_O :=
  jl_bd (jf_X12_name s0) fun r1 s2 => jf_X12_named_L8 jl_fu v1 r1 (0 : Int) s2
set_option maxRecDepth 20000 in
set_option maxHeartbeats 2000000 in
theorem jt_X12_named (G : jl_GC) (v1 : Int) (h1 : jl_n3 v1) (s0 : jl_Mm) : jC2 G jM_X12_named [jl_vr G 206, jl_vi v1] s0 (jf_X12_named v1 s0) := by
  refine jl_met (plainFor_of_name rfl) (Nat.le_of_ble_eq_true rfl) ?_
  show j2 G jM_X12_named 0 [(0, jl_vr G 206), (1, jl_vi v1)] [] s0 _
  refine jr_aload_n dX12_named_0 0 rfl ?_
  refine j2_callVl (As := []) dX12_named_1 (jt_X12_name G s0) jv_X12_name ⟨rfl, rfl, rfl⟩ jw_1615 jk_206 (by decide) (by decide) rfl ⟨Nat.le_of_ble_eq_true rfl, Nat.le_of_ble_eq_true rfl⟩ rfl (Nat.le_of_ble_eq_true rfl) (fun r1 s2 hr1 => ?_)
  refine jr_lstore_n (lv := [(2, jl_vl r1), (0, jl_vr G 206), (1, jl_vi v1)]) dX12_named_4 rfl (Nat.le_of_ble_eq_true rfl) rfl ?_
  refine jr_iconst dX12_named_5 ?_
  refine jr_istore (lv := [(4, jl_vi (0 : Int)), (2, jl_vl r1), (0, jl_vr G 206), (1, jl_vi v1)]) dX12_named_6 (Nat.le_of_ble_eq_true rfl) rfl ?_
  refine jr_sub [2, 3, 1, 0] rfl ?_
  exact jj_X12_named_L8 G jl_fu v1 r1 (0 : Int) h1 hr1 (jl_nlit rfl) s2
def jf_X12_personTold (v1 : Int) (s0 : jl_Mm) : jl_O :=
  jl_bd (jf_X12_isFull (1 : Int) (6 : Int) v1 s0) fun r1 s2 => if r1 = (0 : Int) then (jl_bd (jf_X12_newName s2) fun r4 s5 => jl_bd (jf_X12_asks 211 s5) fun r6 s7 => jl_bd (jf_X12_number (0 : Int) (jl_sub (jl_g s7 241 (((0 : Int) : Int).toNat)) (1 : Int)) s7) fun r8 s9 => jl_bd (jf_X12_asks 212 s9) fun r10 s11 => jl_bd (jf_X12_number (0 : Int) (9 : Int) s11) fun r12 s13 => if jl_g s13 206 5 = (0 : Int) then (jl_let (jl_g s13 241 (((1 : Int) : Int).toNat)) fun x15 => if 0 ≤ x15 ∧ x15 < ((32 : Nat) : Int) then jl_lm (jl_up s13 242 (x15).toNat r4) fun s17 => if 0 ≤ jl_mul (2 : Int) x15 ∧ jl_mul (2 : Int) x15 < ((24 : Nat) : Int) then jl_lm (jl_up s17 243 (jl_mul (2 : Int) x15).toNat r8) fun s19 => if 0 ≤ jl_add (jl_mul (2 : Int) x15) (1 : Int) ∧ jl_add (jl_mul (2 : Int) x15) (1 : Int) < ((24 : Nat) : Int) then jl_lm (jl_up s19 243 (jl_add (jl_mul (2 : Int) x15) (1 : Int)).toNat r12) fun s21 => jl_lm (jl_up s21 241 (((1 : Int) : Int).toNat) (jl_add (jl_g s21 241 (((1 : Int) : Int).toNat)) (1 : Int))) fun s22 => some (0, s22) else none else none else none) else (some (0, s13))) else (some (0, s2))
set_option maxRecDepth 20000 in
set_option maxHeartbeats 2000000 in
theorem jt_X12_personTold (G : jl_GC) (v1 : Int) (h1 : jl_n3 v1) (s0 : jl_Mm) : jC2 G jM_X12_personTold [jl_vr G 206, jl_vi v1] s0 (jf_X12_personTold v1 s0) := by
  refine jl_met (plainFor_of_name rfl) (Nat.le_of_ble_eq_true rfl) ?_
  show j2 G jM_X12_personTold 0 [(0, jl_vr G 206), (1, jl_vi v1)] [] s0 _
  refine jr_aload_n dX12_personTold_0 0 rfl ?_
  refine jr_iconst dX12_personTold_1 ?_
  refine jr_bipush dX12_personTold_2 (by decide) ?_
  refine jr_iload_n dX12_personTold_4 1 rfl ?_
  refine j2_callVz (As := [jl_vi (1 : Int), jl_vi (6 : Int), jl_vi v1]) dX12_personTold_5 (jt_X12_isFull G (1 : Int) (6 : Int) v1 (jl_nlit rfl) (jl_nlit rfl) h1 s0) jv_X12_isFull ⟨rfl, rfl, rfl⟩ jw_1607 jk_206 (by decide) (by decide) rfl ⟨Nat.le_of_ble_eq_true rfl, Nat.le_of_ble_eq_true rfl⟩ rfl (Nat.le_of_ble_eq_true rfl) (fun r1 s2 hr1 => ?_)
  refine jr_if_eq (t := 12) dX12_personTold_8 (by decide) (jl_nz hr1) (fun c3 => ?_) (fun c3 => ?_)
  · refine jr_aload_n dX12_personTold_12 0 rfl ?_
    refine j2_callVl (As := []) dX12_personTold_13 (jt_X12_newName G s2) jv_X12_newName ⟨rfl, rfl, rfl⟩ jw_1611 jk_206 (by decide) (by decide) rfl ⟨Nat.le_of_ble_eq_true rfl, Nat.le_of_ble_eq_true rfl⟩ rfl (Nat.le_of_ble_eq_true rfl) (fun r4 s5 hr4 => ?_)
    refine jr_lstore_n (lv := [(2, jl_vl r4), (0, jl_vr G 206), (1, jl_vi v1)]) dX12_personTold_16 rfl (Nat.le_of_ble_eq_true rfl) rfl ?_
    refine jr_aload_n dX12_personTold_17 1 rfl ?_
    refine jr_aload_n dX12_personTold_18 1 rfl ?_
    refine jr_getk (i := 13) jc_12 jk_206 (by decide) (Nat.le_of_ble_eq_true rfl) jlk_206_13 jw_1218 dX12_personTold_19 ?_
    refine j2_callVv (As := [jl_vr G 211]) dX12_personTold_22 (jt_X12_asks G 211 s5) jv_X12_asks ⟨rfl, rfl, rfl⟩ jw_1558 jk_206 (by decide) (by decide) rfl ⟨Nat.le_of_ble_eq_true rfl, Nat.le_of_ble_eq_true rfl⟩ rfl (Nat.le_of_ble_eq_true rfl) (fun r6 s7 hr6 => ?_)
    refine jr_aload_n dX12_personTold_25 1 rfl ?_
    refine jr_iconst dX12_personTold_26 ?_
    refine jr_aload_n dX12_personTold_27 1 rfl ?_
    refine jr_getk (i := 44) jc_12 jk_206 (by decide) (Nat.le_of_ble_eq_true rfl) jlk_206_44 jw_1249 dX12_personTold_28 ?_
    refine jr_iconst dX12_personTold_31 ?_
    refine jr_iaload jk_241 (by decide) (jl_nlit rfl) ⟨by decide, by decide⟩ dX12_personTold_32 ?_
    refine jr_iconst dX12_personTold_33 ?_
    refine jr_isub dX12_personTold_34 ?_
    refine j2_callVi (As := [jl_vi (0 : Int), jl_vi (jl_sub (jl_g s7 241 (((0 : Int) : Int).toNat)) (1 : Int))]) dX12_personTold_35 (jt_X12_number G (0 : Int) (jl_sub (jl_g s7 241 (((0 : Int) : Int).toNat)) (1 : Int)) (jl_nlit rfl) (jl_n3_to _) s7) jv_X12_number ⟨rfl, rfl, rfl⟩ jw_1581 jk_206 (by decide) (by decide) rfl ⟨Nat.le_of_ble_eq_true rfl, Nat.le_of_ble_eq_true rfl⟩ rfl (Nat.le_of_ble_eq_true rfl) (fun r8 s9 hr8 => ?_)
    refine jr_istore (lv := [(4, jl_vi r8), (2, jl_vl r4), (0, jl_vr G 206), (1, jl_vi v1)]) dX12_personTold_38 (Nat.le_of_ble_eq_true rfl) rfl ?_
    refine jr_aload_n dX12_personTold_40 2 rfl ?_
    refine jr_aload_n dX12_personTold_41 2 rfl ?_
    refine jr_getk (i := 14) jc_12 jk_206 (by decide) (Nat.le_of_ble_eq_true rfl) jlk_206_14 jw_1219 dX12_personTold_42 ?_
    refine j2_callVv (As := [jl_vr G 212]) dX12_personTold_45 (jt_X12_asks G 212 s9) jv_X12_asks ⟨rfl, rfl, rfl⟩ jw_1558 jk_206 (by decide) (by decide) rfl ⟨Nat.le_of_ble_eq_true rfl, Nat.le_of_ble_eq_true rfl⟩ rfl (Nat.le_of_ble_eq_true rfl) (fun r10 s11 hr10 => ?_)
    refine jr_aload_n dX12_personTold_48 2 rfl ?_
    refine jr_iconst dX12_personTold_49 ?_
    refine jr_bipush dX12_personTold_50 (by decide) ?_
    refine j2_callVi (As := [jl_vi (0 : Int), jl_vi (9 : Int)]) dX12_personTold_52 (jt_X12_number G (0 : Int) (9 : Int) (jl_nlit rfl) (jl_nlit rfl) s11) jv_X12_number ⟨rfl, rfl, rfl⟩ jw_1581 jk_206 (by decide) (by decide) rfl ⟨Nat.le_of_ble_eq_true rfl, Nat.le_of_ble_eq_true rfl⟩ rfl (Nat.le_of_ble_eq_true rfl) (fun r12 s13 hr12 => ?_)
    refine jr_istore (lv := [(5, jl_vi r12), (4, jl_vi r8), (2, jl_vl r4), (0, jl_vr G 206), (1, jl_vi v1)]) dX12_personTold_55 (Nat.le_of_ble_eq_true rfl) rfl ?_
    refine jr_aload_n dX12_personTold_57 3 rfl ?_
    refine jr_geti (i := 5) jc_12 jk_206 (by decide) (Nat.le_of_ble_eq_true rfl) jlk_206_5 jft_12_5 jw_1210 dX12_personTold_58 ?_
    refine jr_if_eq (t := 65) dX12_personTold_61 (by decide) (jl_n3_to _) (fun c14 => ?_) (fun c14 => ?_)
    · refine jr_aload_n dX12_personTold_65 3 rfl ?_
      refine jr_getk (i := 44) jc_12 jk_206 (by decide) (Nat.le_of_ble_eq_true rfl) jlk_206_44 jw_1249 dX12_personTold_66 ?_
      refine jr_iconst dX12_personTold_69 ?_
      refine jr_iaload jk_241 (by decide) (jl_nlit rfl) ⟨by decide, by decide⟩ dX12_personTold_70 ?_
      refine jr_let (jl_n3_to _) (fun x15 hx15 => ?_)
      refine jr_istore (lv := [(6, jl_vi x15), (5, jl_vi r12), (4, jl_vi r8), (2, jl_vl r4), (0, jl_vr G 206), (1, jl_vi v1)]) dX12_personTold_71 (Nat.le_of_ble_eq_true rfl) rfl ?_
      refine jr_aload_n dX12_personTold_73 4 rfl ?_
      refine jr_getk (i := 45) jc_12 jk_206 (by decide) (Nat.le_of_ble_eq_true rfl) jlk_206_45 jw_1250 dX12_personTold_74 ?_
      refine jr_iload dX12_personTold_77 0 rfl ?_
      refine jr_lload_n dX12_personTold_79 3 rfl ?_
      refine jr_grd (fun g16 => ?_)
      refine jr_lastore jk_242 (by decide) hx15 g16 dX12_personTold_80 ?_
      refine jr_lm (fun s17 => ?_)
      refine jr_aload_n dX12_personTold_81 4 rfl ?_
      refine jr_getk (i := 46) jc_12 jk_206 (by decide) (Nat.le_of_ble_eq_true rfl) jlk_206_46 jw_1251 dX12_personTold_82 ?_
      refine jr_iconst dX12_personTold_85 ?_
      refine jr_iload dX12_personTold_86 0 rfl ?_
      refine jr_imul dX12_personTold_88 ?_
      refine jr_iload dX12_personTold_89 2 rfl ?_
      refine jr_grd (fun g18 => ?_)
      refine jr_iastore jk_243 (by decide) (jl_n3_to _) g18 dX12_personTold_91 ?_
      refine jr_lm (fun s19 => ?_)
      refine jr_aload_n dX12_personTold_92 4 rfl ?_
      refine jr_getk (i := 46) jc_12 jk_206 (by decide) (Nat.le_of_ble_eq_true rfl) jlk_206_46 jw_1251 dX12_personTold_93 ?_
      refine jr_iconst dX12_personTold_96 ?_
      refine jr_iload dX12_personTold_97 0 rfl ?_
      refine jr_imul dX12_personTold_99 ?_
      refine jr_iconst dX12_personTold_100 ?_
      refine jr_iadd dX12_personTold_101 ?_
      refine jr_iload dX12_personTold_102 1 rfl ?_
      refine jr_grd (fun g20 => ?_)
      refine jr_iastore jk_243 (by decide) (jl_n3_to _) g20 dX12_personTold_104 ?_
      refine jr_lm (fun s21 => ?_)
      refine jr_aload_n dX12_personTold_105 4 rfl ?_
      refine jr_getk (i := 44) jc_12 jk_206 (by decide) (Nat.le_of_ble_eq_true rfl) jlk_206_44 jw_1249 dX12_personTold_106 ?_
      refine jr_iconst dX12_personTold_109 ?_
      refine jr_dup2_11 dX12_personTold_110 rfl rfl ?_
      refine jr_iaload jk_241 (by decide) (jl_nlit rfl) ⟨by decide, by decide⟩ dX12_personTold_111 ?_
      refine jr_iconst dX12_personTold_112 ?_
      refine jr_iadd dX12_personTold_113 ?_
      refine jr_iastore jk_241 (by decide) (jl_nlit rfl) ⟨by decide, by decide⟩ dX12_personTold_114 ?_
      refine jr_lm (fun s22 => ?_)
      exact jr_ret_v rfl dX12_personTold_115
    · exact jr_ret_v rfl dX12_personTold_64
  · exact jr_ret_v rfl dX12_personTold_11
def jf_X12_lieTold (v1 : Int) (s0 : jl_Mm) : jl_O :=
  jl_bd (jf_X12_isFull (2 : Int) (8 : Int) v1 s0) fun r1 s2 => if r1 = (0 : Int) then (jl_bd (jf_X12_newName s2) fun r4 s5 => jl_bd (jf_X12_asks 214 s5) fun r6 s7 => jl_bd (jf_X12_named (0 : Int) s7) fun r8 s9 => if jl_g s9 206 5 = (0 : Int) then (jl_let (jl_g s9 241 (((2 : Int) : Int).toNat)) fun x11 => if 0 ≤ jl_add (8 : Int) x11 ∧ jl_add (8 : Int) x11 < ((32 : Nat) : Int) then jl_lm (jl_up s9 242 (jl_add (8 : Int) x11).toNat r4) fun s13 => if 0 ≤ jl_mul (2 : Int) x11 ∧ jl_mul (2 : Int) x11 < ((32 : Nat) : Int) then jl_lm (jl_up s13 244 (jl_mul (2 : Int) x11).toNat r8) fun s15 => if 0 ≤ jl_add (jl_mul (2 : Int) x11) (1 : Int) ∧ jl_add (jl_mul (2 : Int) x11) (1 : Int) < ((32 : Nat) : Int) then jl_lm (jl_up s15 244 (jl_add (jl_mul (2 : Int) x11) (1 : Int)).toNat (-1 : Int)) fun s17 => jl_lm (jl_up s17 241 (((2 : Int) : Int).toNat) (jl_add (jl_g s17 241 (((2 : Int) : Int).toNat)) (1 : Int))) fun s18 => some (0, s18) else none else none else none) else (some (0, s9))) else (some (0, s2))
set_option maxRecDepth 20000 in
set_option maxHeartbeats 2000000 in
theorem jt_X12_lieTold (G : jl_GC) (v1 : Int) (h1 : jl_n3 v1) (s0 : jl_Mm) : jC2 G jM_X12_lieTold [jl_vr G 206, jl_vi v1] s0 (jf_X12_lieTold v1 s0) := by
  refine jl_met (plainFor_of_name rfl) (Nat.le_of_ble_eq_true rfl) ?_
  show j2 G jM_X12_lieTold 0 [(0, jl_vr G 206), (1, jl_vi v1)] [] s0 _
  refine jr_aload_n dX12_lieTold_0 0 rfl ?_
  refine jr_iconst dX12_lieTold_1 ?_
  refine jr_bipush dX12_lieTold_2 (by decide) ?_
  refine jr_iload_n dX12_lieTold_4 1 rfl ?_
  refine j2_callVz (As := [jl_vi (2 : Int), jl_vi (8 : Int), jl_vi v1]) dX12_lieTold_5 (jt_X12_isFull G (2 : Int) (8 : Int) v1 (jl_nlit rfl) (jl_nlit rfl) h1 s0) jv_X12_isFull ⟨rfl, rfl, rfl⟩ jw_1607 jk_206 (by decide) (by decide) rfl ⟨Nat.le_of_ble_eq_true rfl, Nat.le_of_ble_eq_true rfl⟩ rfl (Nat.le_of_ble_eq_true rfl) (fun r1 s2 hr1 => ?_)
  refine jr_if_eq (t := 12) dX12_lieTold_8 (by decide) (jl_nz hr1) (fun c3 => ?_) (fun c3 => ?_)
  · refine jr_aload_n dX12_lieTold_12 0 rfl ?_
    refine j2_callVl (As := []) dX12_lieTold_13 (jt_X12_newName G s2) jv_X12_newName ⟨rfl, rfl, rfl⟩ jw_1611 jk_206 (by decide) (by decide) rfl ⟨Nat.le_of_ble_eq_true rfl, Nat.le_of_ble_eq_true rfl⟩ rfl (Nat.le_of_ble_eq_true rfl) (fun r4 s5 hr4 => ?_)
    refine jr_lstore_n (lv := [(2, jl_vl r4), (0, jl_vr G 206), (1, jl_vi v1)]) dX12_lieTold_16 rfl (Nat.le_of_ble_eq_true rfl) rfl ?_
    refine jr_aload_n dX12_lieTold_17 1 rfl ?_
    refine jr_aload_n dX12_lieTold_18 1 rfl ?_
    refine jr_getk (i := 16) jc_12 jk_206 (by decide) (Nat.le_of_ble_eq_true rfl) jlk_206_16 jw_1221 dX12_lieTold_19 ?_
    refine j2_callVv (As := [jl_vr G 214]) dX12_lieTold_22 (jt_X12_asks G 214 s5) jv_X12_asks ⟨rfl, rfl, rfl⟩ jw_1558 jk_206 (by decide) (by decide) rfl ⟨Nat.le_of_ble_eq_true rfl, Nat.le_of_ble_eq_true rfl⟩ rfl (Nat.le_of_ble_eq_true rfl) (fun r6 s7 hr6 => ?_)
    refine jr_aload_n dX12_lieTold_25 1 rfl ?_
    refine jr_iconst dX12_lieTold_26 ?_
    refine j2_callVi (As := [jl_vi (0 : Int)]) dX12_lieTold_27 (jt_X12_named G (0 : Int) (jl_nlit rfl) s7) jv_X12_named ⟨rfl, rfl, rfl⟩ jw_1629 jk_206 (by decide) (by decide) rfl ⟨Nat.le_of_ble_eq_true rfl, Nat.le_of_ble_eq_true rfl⟩ rfl (Nat.le_of_ble_eq_true rfl) (fun r8 s9 hr8 => ?_)
    refine jr_istore (lv := [(4, jl_vi r8), (2, jl_vl r4), (0, jl_vr G 206), (1, jl_vi v1)]) dX12_lieTold_30 (Nat.le_of_ble_eq_true rfl) rfl ?_
    refine jr_aload_n dX12_lieTold_32 2 rfl ?_
    refine jr_geti (i := 5) jc_12 jk_206 (by decide) (Nat.le_of_ble_eq_true rfl) jlk_206_5 jft_12_5 jw_1210 dX12_lieTold_33 ?_
    refine jr_if_eq (t := 40) dX12_lieTold_36 (by decide) (jl_n3_to _) (fun c10 => ?_) (fun c10 => ?_)
    · refine jr_aload_n dX12_lieTold_40 2 rfl ?_
      refine jr_getk (i := 44) jc_12 jk_206 (by decide) (Nat.le_of_ble_eq_true rfl) jlk_206_44 jw_1249 dX12_lieTold_41 ?_
      refine jr_iconst dX12_lieTold_44 ?_
      refine jr_iaload jk_241 (by decide) (jl_nlit rfl) ⟨by decide, by decide⟩ dX12_lieTold_45 ?_
      refine jr_let (jl_n3_to _) (fun x11 hx11 => ?_)
      refine jr_istore (lv := [(5, jl_vi x11), (4, jl_vi r8), (2, jl_vl r4), (0, jl_vr G 206), (1, jl_vi v1)]) dX12_lieTold_46 (Nat.le_of_ble_eq_true rfl) rfl ?_
      refine jr_aload_n dX12_lieTold_48 3 rfl ?_
      refine jr_getk (i := 45) jc_12 jk_206 (by decide) (Nat.le_of_ble_eq_true rfl) jlk_206_45 jw_1250 dX12_lieTold_49 ?_
      refine jr_bipush dX12_lieTold_52 (by decide) ?_
      refine jr_iload dX12_lieTold_54 0 rfl ?_
      refine jr_iadd dX12_lieTold_56 ?_
      refine jr_lload_n dX12_lieTold_57 2 rfl ?_
      refine jr_grd (fun g12 => ?_)
      refine jr_lastore jk_242 (by decide) (jl_n3_to _) g12 dX12_lieTold_58 ?_
      refine jr_lm (fun s13 => ?_)
      refine jr_aload_n dX12_lieTold_59 3 rfl ?_
      refine jr_getk (i := 47) jc_12 jk_206 (by decide) (Nat.le_of_ble_eq_true rfl) jlk_206_47 jw_1252 dX12_lieTold_60 ?_
      refine jr_iconst dX12_lieTold_63 ?_
      refine jr_iload dX12_lieTold_64 0 rfl ?_
      refine jr_imul dX12_lieTold_66 ?_
      refine jr_iload dX12_lieTold_67 1 rfl ?_
      refine jr_grd (fun g14 => ?_)
      refine jr_iastore jk_244 (by decide) (jl_n3_to _) g14 dX12_lieTold_69 ?_
      refine jr_lm (fun s15 => ?_)
      refine jr_aload_n dX12_lieTold_70 3 rfl ?_
      refine jr_getk (i := 47) jc_12 jk_206 (by decide) (Nat.le_of_ble_eq_true rfl) jlk_206_47 jw_1252 dX12_lieTold_71 ?_
      refine jr_iconst dX12_lieTold_74 ?_
      refine jr_iload dX12_lieTold_75 0 rfl ?_
      refine jr_imul dX12_lieTold_77 ?_
      refine jr_iconst dX12_lieTold_78 ?_
      refine jr_iadd dX12_lieTold_79 ?_
      refine jr_iconst dX12_lieTold_80 ?_
      refine jr_grd (fun g16 => ?_)
      refine jr_iastore jk_244 (by decide) (jl_n3_to _) g16 dX12_lieTold_81 ?_
      refine jr_lm (fun s17 => ?_)
      refine jr_aload_n dX12_lieTold_82 3 rfl ?_
      refine jr_getk (i := 44) jc_12 jk_206 (by decide) (Nat.le_of_ble_eq_true rfl) jlk_206_44 jw_1249 dX12_lieTold_83 ?_
      refine jr_iconst dX12_lieTold_86 ?_
      refine jr_dup2_11 dX12_lieTold_87 rfl rfl ?_
      refine jr_iaload jk_241 (by decide) (jl_nlit rfl) ⟨by decide, by decide⟩ dX12_lieTold_88 ?_
      refine jr_iconst dX12_lieTold_89 ?_
      refine jr_iadd dX12_lieTold_90 ?_
      refine jr_iastore jk_241 (by decide) (jl_nlit rfl) ⟨by decide, by decide⟩ dX12_lieTold_91 ?_
      refine jr_lm (fun s18 => ?_)
      exact jr_ret_v rfl dX12_lieTold_92
    · exact jr_ret_v rfl dX12_lieTold_39
  · exact jr_ret_v rfl dX12_lieTold_11
def jf_X12_hangsTold_B89 (s0 : jl_Mm) : jl_O :=
  some (0, s0)
set_option maxRecDepth 20000 in
set_option maxHeartbeats 2000000 in
theorem jj_X12_hangsTold_B89 (G : jl_GC) (s0 : jl_Mm) : j2 G jM_X12_hangsTold 89 [] [] s0 (jf_X12_hangsTold_B89 s0) := by
  exact jr_ret_v rfl dX12_hangsTold_89
def jf_X12_hangsTold_B71 (l1 : Int) (l2 : Int) (s0 : jl_Mm) : jl_O :=
  if jl_g s0 206 5 = (0 : Int) then (if 0 ≤ jl_add (jl_mul (2 : Int) l1) (1 : Int) ∧ jl_add (jl_mul (2 : Int) l1) (1 : Int) < ((32 : Nat) : Int) then jl_lm (jl_up s0 244 (jl_add (jl_mul (2 : Int) l1) (1 : Int)).toNat l2) fun s11 => jf_X12_hangsTold_B89 s11 else none) else (jf_X12_hangsTold_B89 s0)
set_option maxRecDepth 20000 in
set_option maxHeartbeats 2000000 in
theorem jj_X12_hangsTold_B71 (G : jl_GC) (l1 : Int) (l2 : Int) (hl1 : jl_n3 l1) (hl2 : jl_n3 l2) (s0 : jl_Mm) : j2 G jM_X12_hangsTold 71 [(0, jl_vr G 206), (1, jl_vi l1), (2, jl_vi l2)] [] s0 (jf_X12_hangsTold_B71 l1 l2 s0) := by
  refine jr_aload_n dX12_hangsTold_71 0 rfl ?_
  refine jr_geti (i := 5) jc_12 jk_206 (by decide) (Nat.le_of_ble_eq_true rfl) jlk_206_5 jft_12_5 jw_1210 dX12_hangsTold_72 ?_
  refine jr_if_ne (t := 89) dX12_hangsTold_75 (by decide) (jl_n3_to _) (fun c9 => ?_) (fun c9 => ?_)
  · refine jr_aload_n dX12_hangsTold_78 0 rfl ?_
    refine jr_getk (i := 47) jc_12 jk_206 (by decide) (Nat.le_of_ble_eq_true rfl) jlk_206_47 jw_1252 dX12_hangsTold_79 ?_
    refine jr_iconst dX12_hangsTold_82 ?_
    refine jr_iload_n dX12_hangsTold_83 1 rfl ?_
    refine jr_imul dX12_hangsTold_84 ?_
    refine jr_iconst dX12_hangsTold_85 ?_
    refine jr_iadd dX12_hangsTold_86 ?_
    refine jr_iload_n dX12_hangsTold_87 2 rfl ?_
    refine jr_grd (fun g10 => ?_)
    refine jr_iastore jk_244 (by decide) (jl_n3_to _) g10 dX12_hangsTold_88 ?_
    refine jr_lm (fun s11 => ?_)
    refine jr_sub [] rfl ?_
    exact jj_X12_hangsTold_B89 G s11
  · refine jr_sub [] rfl ?_
    exact jj_X12_hangsTold_B89 G s0
def jf_X12_hangsTold_B36 (l1 : Int) (s0 : jl_Mm) : jl_O :=
  jl_bd (jf_X12_asks 216 s0) fun r4 s5 => jl_bd (jf_X12_named (1 : Int) s5) fun r6 s7 => if jl_g s7 206 5 = (0 : Int) then (if r6 < l1 then (jf_X12_hangsTold_B71 l1 r6 s7) else (jl_bd (jf_X12_fail (3 : Int) (jl_g s7 206 43) s7) fun r13 s14 => jf_X12_hangsTold_B71 l1 r6 s14)) else (jf_X12_hangsTold_B71 l1 r6 s7)
set_option maxRecDepth 20000 in
set_option maxHeartbeats 2000000 in
theorem jj_X12_hangsTold_B36 (G : jl_GC) (l1 : Int) (hl1 : jl_n3 l1) (s0 : jl_Mm) : j2 G jM_X12_hangsTold 36 [(0, jl_vr G 206), (1, jl_vi l1)] [] s0 (jf_X12_hangsTold_B36 l1 s0) := by
  refine jr_aload_n dX12_hangsTold_36 0 rfl ?_
  refine jr_aload_n dX12_hangsTold_37 0 rfl ?_
  refine jr_getk (i := 18) jc_12 jk_206 (by decide) (Nat.le_of_ble_eq_true rfl) jlk_206_18 jw_1223 dX12_hangsTold_38 ?_
  refine j2_callVv (As := [jl_vr G 216]) dX12_hangsTold_41 (jt_X12_asks G 216 s0) jv_X12_asks ⟨rfl, rfl, rfl⟩ jw_1558 jk_206 (by decide) (by decide) rfl ⟨Nat.le_of_ble_eq_true rfl, Nat.le_of_ble_eq_true rfl⟩ rfl (Nat.le_of_ble_eq_true rfl) (fun r4 s5 hr4 => ?_)
  refine jr_aload_n dX12_hangsTold_44 0 rfl ?_
  refine jr_iconst dX12_hangsTold_45 ?_
  refine j2_callVi (As := [jl_vi (1 : Int)]) dX12_hangsTold_46 (jt_X12_named G (1 : Int) (jl_nlit rfl) s5) jv_X12_named ⟨rfl, rfl, rfl⟩ jw_1629 jk_206 (by decide) (by decide) rfl ⟨Nat.le_of_ble_eq_true rfl, Nat.le_of_ble_eq_true rfl⟩ rfl (Nat.le_of_ble_eq_true rfl) (fun r6 s7 hr6 => ?_)
  refine jr_istore_n (lv := [(2, jl_vi r6), (0, jl_vr G 206), (1, jl_vi l1)]) dX12_hangsTold_49 rfl (Nat.le_of_ble_eq_true rfl) rfl ?_
  refine jr_aload_n dX12_hangsTold_50 1 rfl ?_
  refine jr_geti (i := 5) jc_12 jk_206 (by decide) (Nat.le_of_ble_eq_true rfl) jlk_206_5 jft_12_5 jw_1210 dX12_hangsTold_51 ?_
  refine jr_if_ne (t := 71) dX12_hangsTold_54 (by decide) (jl_n3_to _) (fun c8 => ?_) (fun c8 => ?_)
  · refine jr_iload_n dX12_hangsTold_57 0 rfl ?_
    refine jr_iload_n dX12_hangsTold_58 2 rfl ?_
    refine jr_icmp_lt (t := 71) dX12_hangsTold_59 (by decide) hr6 hl1 (fun c12 => ?_) (fun c12 => ?_)
    · refine jr_sub [1, 2, 0] rfl ?_
      exact jj_X12_hangsTold_B71 G l1 r6 hl1 hr6 s7
    · refine jr_aload_n dX12_hangsTold_62 1 rfl ?_
      refine jr_iconst dX12_hangsTold_63 ?_
      refine jr_aload_n dX12_hangsTold_64 1 rfl ?_
      refine jr_geti (i := 43) jc_12 jk_206 (by decide) (Nat.le_of_ble_eq_true rfl) jlk_206_43 jft_12_43 jw_1248 dX12_hangsTold_65 ?_
      refine j2_callVv (As := [jl_vi (3 : Int), jl_vi (jl_g s7 206 43)]) dX12_hangsTold_68 (jt_X12_fail G (3 : Int) (jl_g s7 206 43) (jl_nlit rfl) (jl_n3_to _) s7) jv_X12_fail ⟨rfl, rfl, rfl⟩ jw_1577 jk_206 (by decide) (by decide) rfl ⟨Nat.le_of_ble_eq_true rfl, Nat.le_of_ble_eq_true rfl⟩ rfl (Nat.le_of_ble_eq_true rfl) (fun r13 s14 hr13 => ?_)
      refine jr_sub [1, 2, 0] rfl ?_
      exact jj_X12_hangsTold_B71 G l1 r6 hl1 hr6 s14
  · refine jr_sub [1, 2, 0] rfl ?_
    exact jj_X12_hangsTold_B71 G l1 r6 hl1 hr6 s7
def jf_X12_hangsTold (s0 : jl_Mm) : jl_O :=
  jl_bd (jf_X12_named (1 : Int) s0) fun r1 s2 => if jl_g s2 206 5 = (0 : Int) then (if 0 ≤ jl_add (jl_mul (2 : Int) r1) (1 : Int) ∧ jl_add (jl_mul (2 : Int) r1) (1 : Int) < ((32 : Nat) : Int) then if jl_g s2 244 (jl_add (jl_mul (2 : Int) r1) (1 : Int)).toNat = (-1 : Int) then (jf_X12_hangsTold_B36 r1 s2) else (jl_bd (jf_X12_fail (3 : Int) (jl_g s2 206 43) s2) fun r17 s18 => jf_X12_hangsTold_B36 r1 s18) else none) else (jf_X12_hangsTold_B36 r1 s2)
set_option maxRecDepth 20000 in
set_option maxHeartbeats 2000000 in
theorem jt_X12_hangsTold (G : jl_GC) (s0 : jl_Mm) : jC2 G jM_X12_hangsTold [jl_vr G 206] s0 (jf_X12_hangsTold s0) := by
  refine jl_met (plainFor_of_name rfl) (Nat.le_of_ble_eq_true rfl) ?_
  show j2 G jM_X12_hangsTold 0 [(0, jl_vr G 206)] [] s0 _
  refine jr_aload_n dX12_hangsTold_0 0 rfl ?_
  refine jr_iconst dX12_hangsTold_1 ?_
  refine j2_callVi (As := [jl_vi (1 : Int)]) dX12_hangsTold_2 (jt_X12_named G (1 : Int) (jl_nlit rfl) s0) jv_X12_named ⟨rfl, rfl, rfl⟩ jw_1629 jk_206 (by decide) (by decide) rfl ⟨Nat.le_of_ble_eq_true rfl, Nat.le_of_ble_eq_true rfl⟩ rfl (Nat.le_of_ble_eq_true rfl) (fun r1 s2 hr1 => ?_)
  refine jr_istore_n (lv := [(1, jl_vi r1), (0, jl_vr G 206)]) dX12_hangsTold_5 rfl (Nat.le_of_ble_eq_true rfl) rfl ?_
  refine jr_aload_n dX12_hangsTold_6 1 rfl ?_
  refine jr_geti (i := 5) jc_12 jk_206 (by decide) (Nat.le_of_ble_eq_true rfl) jlk_206_5 jft_12_5 jw_1210 dX12_hangsTold_7 ?_
  refine jr_if_ne (t := 36) dX12_hangsTold_10 (by decide) (jl_n3_to _) (fun c3 => ?_) (fun c3 => ?_)
  · refine jr_aload_n dX12_hangsTold_13 1 rfl ?_
    refine jr_getk (i := 47) jc_12 jk_206 (by decide) (Nat.le_of_ble_eq_true rfl) jlk_206_47 jw_1252 dX12_hangsTold_14 ?_
    refine jr_iconst dX12_hangsTold_17 ?_
    refine jr_iload_n dX12_hangsTold_18 0 rfl ?_
    refine jr_imul dX12_hangsTold_19 ?_
    refine jr_iconst dX12_hangsTold_20 ?_
    refine jr_iadd dX12_hangsTold_21 ?_
    refine jr_grd (fun g15 => ?_)
    refine jr_iaload jk_244 (by decide) (jl_n3_to _) g15 dX12_hangsTold_22 ?_
    refine jr_iconst dX12_hangsTold_23 ?_
    refine jr_icmp_eq (t := 36) dX12_hangsTold_24 (by decide) (jl_n3_to _) (jl_nlit rfl) (fun c16 => ?_) (fun c16 => ?_)
    · refine jr_sub [1, 0] rfl ?_
      exact jj_X12_hangsTold_B36 G r1 hr1 s2
    · refine jr_aload_n dX12_hangsTold_27 1 rfl ?_
      refine jr_iconst dX12_hangsTold_28 ?_
      refine jr_aload_n dX12_hangsTold_29 1 rfl ?_
      refine jr_geti (i := 43) jc_12 jk_206 (by decide) (Nat.le_of_ble_eq_true rfl) jlk_206_43 jft_12_43 jw_1248 dX12_hangsTold_30 ?_
      refine j2_callVv (As := [jl_vi (3 : Int), jl_vi (jl_g s2 206 43)]) dX12_hangsTold_33 (jt_X12_fail G (3 : Int) (jl_g s2 206 43) (jl_nlit rfl) (jl_n3_to _) s2) jv_X12_fail ⟨rfl, rfl, rfl⟩ jw_1577 jk_206 (by decide) (by decide) rfl ⟨Nat.le_of_ble_eq_true rfl, Nat.le_of_ble_eq_true rfl⟩ rfl (Nat.le_of_ble_eq_true rfl) (fun r17 s18 hr17 => ?_)
      refine jr_sub [1, 0] rfl ?_
      exact jj_X12_hangsTold_B36 G r1 hr1 s18
  · refine jr_sub [1, 0] rfl ?_
    exact jj_X12_hangsTold_B36 G r1 hr1 s2
def jf_X12_lightTold (v1 : Int) (s0 : jl_Mm) : jl_O :=
  jl_bd (jf_X12_isFull (3 : Int) (16 : Int) v1 s0) fun r1 s2 => if r1 = (0 : Int) then (jl_bd (jf_X12_named (1 : Int) s2) fun r4 s5 => jl_bd (jf_X12_asks 211 s5) fun r6 s7 => jl_bd (jf_X12_number (0 : Int) (999 : Int) s7) fun r8 s9 => jl_bd (jf_X12_asks 218 s9) fun r10 s11 => jl_bd (jf_X12_number (1 : Int) (99 : Int) s11) fun r12 s13 => if jl_g s13 206 5 = (0 : Int) then (jl_let (jl_mul (3 : Int) (jl_g s13 241 (((3 : Int) : Int).toNat))) fun x15 => if 0 ≤ x15 ∧ x15 < ((96 : Nat) : Int) then jl_lm (jl_up s13 245 (x15).toNat r4) fun s17 => if 0 ≤ jl_add x15 (1 : Int) ∧ jl_add x15 (1 : Int) < ((96 : Nat) : Int) then jl_lm (jl_up s17 245 (jl_add x15 (1 : Int)).toNat r8) fun s19 => if 0 ≤ jl_add x15 (2 : Int) ∧ jl_add x15 (2 : Int) < ((96 : Nat) : Int) then jl_lm (jl_up s19 245 (jl_add x15 (2 : Int)).toNat r12) fun s21 => jl_lm (jl_up s21 241 (((3 : Int) : Int).toNat) (jl_add (jl_g s21 241 (((3 : Int) : Int).toNat)) (1 : Int))) fun s22 => some (0, s22) else none else none else none) else (some (0, s13))) else (some (0, s2))
set_option maxRecDepth 20000 in
set_option maxHeartbeats 2000000 in
theorem jt_X12_lightTold (G : jl_GC) (v1 : Int) (h1 : jl_n3 v1) (s0 : jl_Mm) : jC2 G jM_X12_lightTold [jl_vr G 206, jl_vi v1] s0 (jf_X12_lightTold v1 s0) := by
  refine jl_met (plainFor_of_name rfl) (Nat.le_of_ble_eq_true rfl) ?_
  show j2 G jM_X12_lightTold 0 [(0, jl_vr G 206), (1, jl_vi v1)] [] s0 _
  refine jr_aload_n dX12_lightTold_0 0 rfl ?_
  refine jr_iconst dX12_lightTold_1 ?_
  refine jr_bipush dX12_lightTold_2 (by decide) ?_
  refine jr_iload_n dX12_lightTold_4 1 rfl ?_
  refine j2_callVz (As := [jl_vi (3 : Int), jl_vi (16 : Int), jl_vi v1]) dX12_lightTold_5 (jt_X12_isFull G (3 : Int) (16 : Int) v1 (jl_nlit rfl) (jl_nlit rfl) h1 s0) jv_X12_isFull ⟨rfl, rfl, rfl⟩ jw_1607 jk_206 (by decide) (by decide) rfl ⟨Nat.le_of_ble_eq_true rfl, Nat.le_of_ble_eq_true rfl⟩ rfl (Nat.le_of_ble_eq_true rfl) (fun r1 s2 hr1 => ?_)
  refine jr_if_eq (t := 12) dX12_lightTold_8 (by decide) (jl_nz hr1) (fun c3 => ?_) (fun c3 => ?_)
  · refine jr_aload_n dX12_lightTold_12 0 rfl ?_
    refine jr_iconst dX12_lightTold_13 ?_
    refine j2_callVi (As := [jl_vi (1 : Int)]) dX12_lightTold_14 (jt_X12_named G (1 : Int) (jl_nlit rfl) s2) jv_X12_named ⟨rfl, rfl, rfl⟩ jw_1629 jk_206 (by decide) (by decide) rfl ⟨Nat.le_of_ble_eq_true rfl, Nat.le_of_ble_eq_true rfl⟩ rfl (Nat.le_of_ble_eq_true rfl) (fun r4 s5 hr4 => ?_)
    refine jr_istore_n (lv := [(2, jl_vi r4), (0, jl_vr G 206), (1, jl_vi v1)]) dX12_lightTold_17 rfl (Nat.le_of_ble_eq_true rfl) rfl ?_
    refine jr_aload_n dX12_lightTold_18 1 rfl ?_
    refine jr_aload_n dX12_lightTold_19 1 rfl ?_
    refine jr_getk (i := 13) jc_12 jk_206 (by decide) (Nat.le_of_ble_eq_true rfl) jlk_206_13 jw_1218 dX12_lightTold_20 ?_
    refine j2_callVv (As := [jl_vr G 211]) dX12_lightTold_23 (jt_X12_asks G 211 s5) jv_X12_asks ⟨rfl, rfl, rfl⟩ jw_1558 jk_206 (by decide) (by decide) rfl ⟨Nat.le_of_ble_eq_true rfl, Nat.le_of_ble_eq_true rfl⟩ rfl (Nat.le_of_ble_eq_true rfl) (fun r6 s7 hr6 => ?_)
    refine jr_aload_n dX12_lightTold_26 1 rfl ?_
    refine jr_iconst dX12_lightTold_27 ?_
    refine jr_sipush dX12_lightTold_28 (by decide) ?_
    refine j2_callVi (As := [jl_vi (0 : Int), jl_vi (999 : Int)]) dX12_lightTold_31 (jt_X12_number G (0 : Int) (999 : Int) (jl_nlit rfl) (jl_nlit rfl) s7) jv_X12_number ⟨rfl, rfl, rfl⟩ jw_1581 jk_206 (by decide) (by decide) rfl ⟨Nat.le_of_ble_eq_true rfl, Nat.le_of_ble_eq_true rfl⟩ rfl (Nat.le_of_ble_eq_true rfl) (fun r8 s9 hr8 => ?_)
    refine jr_istore_n (lv := [(3, jl_vi r8), (2, jl_vi r4), (0, jl_vr G 206), (1, jl_vi v1)]) dX12_lightTold_34 rfl (Nat.le_of_ble_eq_true rfl) rfl ?_
    refine jr_aload_n dX12_lightTold_35 2 rfl ?_
    refine jr_aload_n dX12_lightTold_36 2 rfl ?_
    refine jr_getk (i := 20) jc_12 jk_206 (by decide) (Nat.le_of_ble_eq_true rfl) jlk_206_20 jw_1225 dX12_lightTold_37 ?_
    refine j2_callVv (As := [jl_vr G 218]) dX12_lightTold_40 (jt_X12_asks G 218 s9) jv_X12_asks ⟨rfl, rfl, rfl⟩ jw_1558 jk_206 (by decide) (by decide) rfl ⟨Nat.le_of_ble_eq_true rfl, Nat.le_of_ble_eq_true rfl⟩ rfl (Nat.le_of_ble_eq_true rfl) (fun r10 s11 hr10 => ?_)
    refine jr_aload_n dX12_lightTold_43 2 rfl ?_
    refine jr_iconst dX12_lightTold_44 ?_
    refine jr_bipush dX12_lightTold_45 (by decide) ?_
    refine j2_callVi (As := [jl_vi (1 : Int), jl_vi (99 : Int)]) dX12_lightTold_47 (jt_X12_number G (1 : Int) (99 : Int) (jl_nlit rfl) (jl_nlit rfl) s11) jv_X12_number ⟨rfl, rfl, rfl⟩ jw_1581 jk_206 (by decide) (by decide) rfl ⟨Nat.le_of_ble_eq_true rfl, Nat.le_of_ble_eq_true rfl⟩ rfl (Nat.le_of_ble_eq_true rfl) (fun r12 s13 hr12 => ?_)
    refine jr_istore (lv := [(4, jl_vi r12), (3, jl_vi r8), (2, jl_vi r4), (0, jl_vr G 206), (1, jl_vi v1)]) dX12_lightTold_50 (Nat.le_of_ble_eq_true rfl) rfl ?_
    refine jr_aload_n dX12_lightTold_52 3 rfl ?_
    refine jr_geti (i := 5) jc_12 jk_206 (by decide) (Nat.le_of_ble_eq_true rfl) jlk_206_5 jft_12_5 jw_1210 dX12_lightTold_53 ?_
    refine jr_if_eq (t := 60) dX12_lightTold_56 (by decide) (jl_n3_to _) (fun c14 => ?_) (fun c14 => ?_)
    · refine jr_iconst dX12_lightTold_60 ?_
      refine jr_aload_n dX12_lightTold_61 3 rfl ?_
      refine jr_getk (i := 44) jc_12 jk_206 (by decide) (Nat.le_of_ble_eq_true rfl) jlk_206_44 jw_1249 dX12_lightTold_62 ?_
      refine jr_iconst dX12_lightTold_65 ?_
      refine jr_iaload jk_241 (by decide) (jl_nlit rfl) ⟨by decide, by decide⟩ dX12_lightTold_66 ?_
      refine jr_imul dX12_lightTold_67 ?_
      refine jr_let (jl_n3_to _) (fun x15 hx15 => ?_)
      refine jr_istore (lv := [(5, jl_vi x15), (4, jl_vi r12), (3, jl_vi r8), (2, jl_vi r4), (0, jl_vr G 206), (1, jl_vi v1)]) dX12_lightTold_68 (Nat.le_of_ble_eq_true rfl) rfl ?_
      refine jr_aload_n dX12_lightTold_70 4 rfl ?_
      refine jr_getk (i := 48) jc_12 jk_206 (by decide) (Nat.le_of_ble_eq_true rfl) jlk_206_48 jw_1253 dX12_lightTold_71 ?_
      refine jr_iload dX12_lightTold_74 0 rfl ?_
      refine jr_iload_n dX12_lightTold_76 3 rfl ?_
      refine jr_grd (fun g16 => ?_)
      refine jr_iastore jk_245 (by decide) hx15 g16 dX12_lightTold_77 ?_
      refine jr_lm (fun s17 => ?_)
      refine jr_aload_n dX12_lightTold_78 4 rfl ?_
      refine jr_getk (i := 48) jc_12 jk_206 (by decide) (Nat.le_of_ble_eq_true rfl) jlk_206_48 jw_1253 dX12_lightTold_79 ?_
      refine jr_iload dX12_lightTold_82 0 rfl ?_
      refine jr_iconst dX12_lightTold_84 ?_
      refine jr_iadd dX12_lightTold_85 ?_
      refine jr_iload_n dX12_lightTold_86 2 rfl ?_
      refine jr_grd (fun g18 => ?_)
      refine jr_iastore jk_245 (by decide) (jl_n3_to _) g18 dX12_lightTold_87 ?_
      refine jr_lm (fun s19 => ?_)
      refine jr_aload_n dX12_lightTold_88 4 rfl ?_
      refine jr_getk (i := 48) jc_12 jk_206 (by decide) (Nat.le_of_ble_eq_true rfl) jlk_206_48 jw_1253 dX12_lightTold_89 ?_
      refine jr_iload dX12_lightTold_92 0 rfl ?_
      refine jr_iconst dX12_lightTold_94 ?_
      refine jr_iadd dX12_lightTold_95 ?_
      refine jr_iload dX12_lightTold_96 1 rfl ?_
      refine jr_grd (fun g20 => ?_)
      refine jr_iastore jk_245 (by decide) (jl_n3_to _) g20 dX12_lightTold_98 ?_
      refine jr_lm (fun s21 => ?_)
      refine jr_aload_n dX12_lightTold_99 4 rfl ?_
      refine jr_getk (i := 44) jc_12 jk_206 (by decide) (Nat.le_of_ble_eq_true rfl) jlk_206_44 jw_1249 dX12_lightTold_100 ?_
      refine jr_iconst dX12_lightTold_103 ?_
      refine jr_dup2_11 dX12_lightTold_104 rfl rfl ?_
      refine jr_iaload jk_241 (by decide) (jl_nlit rfl) ⟨by decide, by decide⟩ dX12_lightTold_105 ?_
      refine jr_iconst dX12_lightTold_106 ?_
      refine jr_iadd dX12_lightTold_107 ?_
      refine jr_iastore jk_241 (by decide) (jl_nlit rfl) ⟨by decide, by decide⟩ dX12_lightTold_108 ?_
      refine jr_lm (fun s22 => ?_)
      exact jr_ret_v rfl dX12_lightTold_109
    · exact jr_ret_v rfl dX12_lightTold_59
  · exact jr_ret_v rfl dX12_lightTold_11
