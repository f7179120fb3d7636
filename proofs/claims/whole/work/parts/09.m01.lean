def jf_X10_append_B46 (s0 : jl_Mm) : jl_O :=
  some (0, s0)
set_option maxRecDepth 20000 in
set_option maxHeartbeats 2000000 in
theorem jj_X10_append_B46 (G : jl_GC) (s0 : jl_Mm) : j2 G jM_X10_append 46 [] [] s0 (jf_X10_append_B46 s0) := by
  exact jr_ret_v rfl dX10_append_46
def jf_X10_append_L3 : Nat → Int → Int → jl_Mm → jl_O
  | 0, _, _, _ => none
  | n + 1, l1, l2, s0 =>
    if l2 < (0 : Int) then (jf_X10_append_B46 s0) else (if (1600 : Int) ≤ jl_g s0 1 1 then (jf_X10_append_B46 s0) else (jl_lm (jl_up s0 1 1 (jl_add (jl_g s0 1 1) (1 : Int))) fun s3 => if 0 ≤ jl_g s0 1 1 ∧ jl_g s0 1 1 < ((1600 : Nat) : Int) then jl_lm (jl_up s3 2 (jl_g s0 1 1).toNat (jl_and (jl_ushr l1 l2) (255 : Int))) fun s5 => jf_X10_append_L3 n l1 (jl_add l2 (-8)) s5 else none))
set_option maxRecDepth 20000 in
set_option maxHeartbeats 2000000 in
theorem jj_X10_append_L3 (G : jl_GC) : ∀ (n : Nat) (l1 : Int) (l2 : Int) (hl1 : jl_n3 l1) (hl2 : jl_n3 l2) (s0 : jl_Mm), j2 G jM_X10_append 3 [(0, jl_vr G 1), (1, jl_vi l1), (2, jl_vi l2)] [] s0 (jf_X10_append_L3 n l1 l2 s0) := by
  intro n
  induction n with
  | zero =>
    intros
    exact jr_none
  | succ n ih =>
    intro l1 l2 hl1 hl2 s0
    refine jr_iload_n dX10_append_3 2 rfl ?_
    refine jr_if_lt (t := 46) dX10_append_4 (by decide) hl2 (fun c1 => ?_) (fun c1 => ?_)
    · refine jr_sub [] rfl ?_
      exact jj_X10_append_B46 G s0
    · refine jr_aload_n dX10_append_7 0 rfl ?_
      refine jr_geti (i := 1) jc_10 jk_1 (by decide) (Nat.le_of_ble_eq_true rfl) jlk_1_1 jft_10_1 jw_38 dX10_append_8 ?_
      refine jr_sipush dX10_append_11 (by decide) ?_
      refine jr_icmp_ge (t := 46) dX10_append_14 (by decide) (jl_n3_to _) (jl_nlit rfl) (fun c2 => ?_) (fun c2 => ?_)
      · refine jr_sub [] rfl ?_
        exact jj_X10_append_B46 G s0
      · refine jr_aload_n dX10_append_17 0 rfl ?_
        refine jr_getk (i := 0) jc_10 jk_1 (by decide) (Nat.le_of_ble_eq_true rfl) jlk_1_0 jw_35 dX10_append_18 ?_
        refine jr_aload_n dX10_append_21 0 rfl ?_
        refine jr_dup dX10_append_22 rfl ?_
        refine jr_geti (i := 1) jc_10 jk_1 (by decide) (Nat.le_of_ble_eq_true rfl) jlk_1_1 jft_10_1 jw_38 dX10_append_23 ?_
        refine jr_dup_x1 dX10_append_26 rfl rfl ?_
        refine jr_iconst dX10_append_27 ?_
        refine jr_iadd dX10_append_28 ?_
        refine jr_puti (i := 1) jc_10 jk_1 (by decide) (Nat.le_of_ble_eq_true rfl) jlk_1_1 jft_10_1 rfl jw_38 rfl dX10_append_29 ?_
        refine jr_lm (fun s3 => ?_)
        refine jr_iload_n dX10_append_32 1 rfl ?_
        refine jr_iload_n dX10_append_33 2 rfl ?_
        refine jr_iushr dX10_append_34 ?_
        refine jr_sipush dX10_append_35 (by decide) ?_
        refine jr_iand dX10_append_38 ?_
        refine jr_grd (fun g4 => ?_)
        refine jr_iastore jk_2 (by decide) (jl_n3_to _) g4 dX10_append_39 ?_
        refine jr_lm (fun s5 => ?_)
        refine jr_iinc (j := 2) (lv := [(2, jl_vi (jl_add l2 (-8))), (0, jl_vr G 1), (1, jl_vi l1)]) dX10_append_40 rfl (Nat.le_of_ble_eq_true rfl) rfl ?_
        refine jr_goto (t := 3) dX10_append_43 (by decide) ?_
        refine jr_sub [1, 2, 0] rfl ?_
        exact ih l1 (jl_add l2 (-8)) hl1 (jl_n3_to _) s5
def jf_X10_append (v1 : Int) (s0 : jl_Mm) : jl_O :=
  jf_X10_append_L3 jl_fu v1 (24 : Int) s0
set_option maxRecDepth 20000 in
set_option maxHeartbeats 2000000 in
theorem jt_X10_append (G : jl_GC) (v1 : Int) (h1 : jl_n3 v1) (s0 : jl_Mm) : jC2 G jM_X10_append [jl_vr G 1, jl_vi v1] s0 (jf_X10_append v1 s0) := by
  refine jl_met (plainFor_of_name rfl) (Nat.le_of_ble_eq_true rfl) ?_
  show j2 G jM_X10_append 0 [(0, jl_vr G 1), (1, jl_vi v1)] [] s0 _
  refine jr_bipush dX10_append_0 (by decide) ?_
  refine jr_istore_n (lv := [(2, jl_vi (24 : Int)), (0, jl_vr G 1), (1, jl_vi v1)]) dX10_append_2 rfl (Nat.le_of_ble_eq_true rfl) rfl ?_
  refine jr_sub [1, 2, 0] rfl ?_
  exact jj_X10_append_L3 G jl_fu v1 (24 : Int) h1 (jl_nlit rfl) s0
def jf_X11_refuse (v1 : Int) (s0 : jl_Mm) : jl_O :=
  if 0 ≤ v1 ∧ v1 < ((6 : Nat) : Int) then if 0 ≤ v1 ∧ v1 < ((6 : Nat) : Int) then jl_lm (jl_up s0 205 (v1).toNat (jl_add (jl_g s0 205 (v1).toNat) (1 : Int))) fun s3 => some ((-1 : Int), s3) else none else none
set_option maxRecDepth 20000 in
set_option maxHeartbeats 2000000 in
theorem jt_X11_refuse (G : jl_GC) (v1 : Int) (h1 : jl_n3 v1) (s0 : jl_Mm) : jC2 G jM_X11_refuse [jl_vr G 0, jl_vi v1] s0 (jf_X11_refuse v1 s0) := by
  refine jl_met (plainFor_of_name rfl) (Nat.le_of_ble_eq_true rfl) ?_
  show j2 G jM_X11_refuse 0 [(0, jl_vr G 0), (1, jl_vi v1)] [] s0 _
  refine jr_aload_n dX11_refuse_0 0 rfl ?_
  refine jr_getk (i := 14) jc_11 jk_0 (by decide) (Nat.le_of_ble_eq_true rfl) jlk_0_14 jw_438 dX11_refuse_1 ?_
  refine jr_iload_n dX11_refuse_4 1 rfl ?_
  refine jr_dup2_11 dX11_refuse_5 rfl rfl ?_
  refine jr_grd (fun g1 => ?_)
  refine jr_iaload jk_205 (by decide) h1 g1 dX11_refuse_6 ?_
  refine jr_iconst dX11_refuse_7 ?_
  refine jr_iadd dX11_refuse_8 ?_
  refine jr_grd (fun g2 => ?_)
  refine jr_iastore jk_205 (by decide) h1 g2 dX11_refuse_9 ?_
  refine jr_lm (fun s3 => ?_)
  refine jr_iconst dX11_refuse_10 ?_
  exact jr_ret_i rfl (jl_nlit rfl) dX11_refuse_11
def jf_X11_feed (v1 : Int) (v2 : Int) (v3 : Int) (v4 : Int) (v5 : Int) (s0 : jl_Mm) : jl_O :=
  if jl_add (jl_g s0 1 1) (20 : Int) ≤ (1600 : Int) then (jl_bd (jf_X10_append v1 s0) fun r2 s3 => jl_bd (jf_X10_append v2 s3) fun r4 s5 => jl_bd (jf_X10_append v3 s5) fun r6 s7 => jl_bd (jf_X10_append v4 s7) fun r8 s9 => jl_bd (jf_X10_append v5 s9) fun r10 s11 => some (jl_g s11 1 1, s11)) else (jl_bd (jf_X11_refuse (0 : Int) s0) fun r12 s13 => some (r12, s13))
set_option maxRecDepth 20000 in
set_option maxHeartbeats 2000000 in
theorem jt_X11_feed (G : jl_GC) (v1 : Int) (v2 : Int) (v3 : Int) (v4 : Int) (v5 : Int) (h1 : jl_n3 v1) (h2 : jl_n3 v2) (h3 : jl_n3 v3) (h4 : jl_n3 v4) (h5 : jl_n3 v5) (s0 : jl_Mm) : jC2 G jM_X11_feed [jl_vr G 0, jl_vi v1, jl_vi v2, jl_vi v3, jl_vi v4, jl_vi v5] s0 (jf_X11_feed v1 v2 v3 v4 v5 s0) := by
  refine jl_met (plainFor_of_name rfl) (Nat.le_of_ble_eq_true rfl) ?_
  show j2 G jM_X11_feed 0 [(0, jl_vr G 0), (1, jl_vi v1), (2, jl_vi v2), (3, jl_vi v3), (4, jl_vi v4), (5, jl_vi v5)] [] s0 _
  refine jr_aload_n dX11_feed_0 0 rfl ?_
  refine jr_getk (i := 0) jc_11 jk_0 (by decide) (Nat.le_of_ble_eq_true rfl) jlk_0_0 jw_424 dX11_feed_1 ?_
  refine jr_getiN (i := 1) jc_10 jk_1 (by decide) (Nat.le_of_ble_eq_true rfl) jlk_1_1 jft_10_1 jw_40 dX11_feed_4 ?_
  refine jr_bipush dX11_feed_7 (by decide) ?_
  refine jr_iadd dX11_feed_9 ?_
  refine jr_sipush dX11_feed_10 (by decide) ?_
  refine jr_icmp_le (t := 22) dX11_feed_13 (by decide) (jl_n3_to _) (jl_nlit rfl) (fun c1 => ?_) (fun c1 => ?_)
  · refine jr_aload_n dX11_feed_22 0 rfl ?_
    refine jr_getk (i := 0) jc_11 jk_0 (by decide) (Nat.le_of_ble_eq_true rfl) jlk_0_0 jw_424 dX11_feed_23 ?_
    refine jr_iload_n dX11_feed_26 1 rfl ?_
    refine j2_callVv (As := [jl_vi v1]) dX11_feed_27 (jt_X10_append G v1 h1 s0) jv_X10_append ⟨rfl, rfl, rfl⟩ jw_487 jk_1 (by decide) (by decide) rfl ⟨Nat.le_of_ble_eq_true rfl, Nat.le_of_ble_eq_true rfl⟩ rfl (Nat.le_of_ble_eq_true rfl) (fun r2 s3 hr2 => ?_)
    refine jr_aload_n dX11_feed_30 0 rfl ?_
    refine jr_getk (i := 0) jc_11 jk_0 (by decide) (Nat.le_of_ble_eq_true rfl) jlk_0_0 jw_424 dX11_feed_31 ?_
    refine jr_iload_n dX11_feed_34 2 rfl ?_
    refine j2_callVv (As := [jl_vi v2]) dX11_feed_35 (jt_X10_append G v2 h2 s3) jv_X10_append ⟨rfl, rfl, rfl⟩ jw_487 jk_1 (by decide) (by decide) rfl ⟨Nat.le_of_ble_eq_true rfl, Nat.le_of_ble_eq_true rfl⟩ rfl (Nat.le_of_ble_eq_true rfl) (fun r4 s5 hr4 => ?_)
    refine jr_aload_n dX11_feed_38 0 rfl ?_
    refine jr_getk (i := 0) jc_11 jk_0 (by decide) (Nat.le_of_ble_eq_true rfl) jlk_0_0 jw_424 dX11_feed_39 ?_
    refine jr_iload_n dX11_feed_42 3 rfl ?_
    refine j2_callVv (As := [jl_vi v3]) dX11_feed_43 (jt_X10_append G v3 h3 s5) jv_X10_append ⟨rfl, rfl, rfl⟩ jw_487 jk_1 (by decide) (by decide) rfl ⟨Nat.le_of_ble_eq_true rfl, Nat.le_of_ble_eq_true rfl⟩ rfl (Nat.le_of_ble_eq_true rfl) (fun r6 s7 hr6 => ?_)
    refine jr_aload_n dX11_feed_46 0 rfl ?_
    refine jr_getk (i := 0) jc_11 jk_0 (by decide) (Nat.le_of_ble_eq_true rfl) jlk_0_0 jw_424 dX11_feed_47 ?_
    refine jr_iload dX11_feed_50 4 rfl ?_
    refine j2_callVv (As := [jl_vi v4]) dX11_feed_52 (jt_X10_append G v4 h4 s7) jv_X10_append ⟨rfl, rfl, rfl⟩ jw_487 jk_1 (by decide) (by decide) rfl ⟨Nat.le_of_ble_eq_true rfl, Nat.le_of_ble_eq_true rfl⟩ rfl (Nat.le_of_ble_eq_true rfl) (fun r8 s9 hr8 => ?_)
    refine jr_aload_n dX11_feed_55 0 rfl ?_
    refine jr_getk (i := 0) jc_11 jk_0 (by decide) (Nat.le_of_ble_eq_true rfl) jlk_0_0 jw_424 dX11_feed_56 ?_
    refine jr_iload dX11_feed_59 5 rfl ?_
    refine j2_callVv (As := [jl_vi v5]) dX11_feed_61 (jt_X10_append G v5 h5 s9) jv_X10_append ⟨rfl, rfl, rfl⟩ jw_487 jk_1 (by decide) (by decide) rfl ⟨Nat.le_of_ble_eq_true rfl, Nat.le_of_ble_eq_true rfl⟩ rfl (Nat.le_of_ble_eq_true rfl) (fun r10 s11 hr10 => ?_)
    refine jr_aload_n dX11_feed_64 0 rfl ?_
    refine jr_getk (i := 0) jc_11 jk_0 (by decide) (Nat.le_of_ble_eq_true rfl) jlk_0_0 jw_424 dX11_feed_65 ?_
    refine jr_getiN (i := 1) jc_10 jk_1 (by decide) (Nat.le_of_ble_eq_true rfl) jlk_1_1 jft_10_1 jw_40 dX11_feed_68 ?_
    exact jr_ret_i rfl (jl_n3_to _) dX11_feed_71
  · refine jr_aload_n dX11_feed_16 0 rfl ?_
    refine jr_iconst dX11_feed_17 ?_
    refine j2_callVi (As := [jl_vi (0 : Int)]) dX11_feed_18 (jt_X11_refuse G (0 : Int) (jl_nlit rfl) s0) jv_X11_refuse ⟨rfl, rfl, rfl⟩ jw_483 jk_0 (by decide) (by decide) rfl ⟨Nat.le_of_ble_eq_true rfl, Nat.le_of_ble_eq_true rfl⟩ rfl (Nat.le_of_ble_eq_true rfl) (fun r12 s13 hr12 => ?_)
    exact jr_ret_i rfl hr12 dX11_feed_21
def jf_X11_deny (v1 : Int) (s0 : jl_Mm) : jl_O :=
  if 0 ≤ v1 ∧ v1 < ((6 : Nat) : Int) then if 0 ≤ v1 ∧ v1 < ((6 : Nat) : Int) then jl_lm (jl_up s0 205 (v1).toNat (jl_add (jl_g s0 205 (v1).toNat) (1 : Int))) fun s3 => jl_zb (0 : Int) s3 else none else none
set_option maxRecDepth 20000 in
set_option maxHeartbeats 2000000 in
theorem jt_X11_deny (G : jl_GC) (v1 : Int) (h1 : jl_n3 v1) (s0 : jl_Mm) : jC2 G jM_X11_deny [jl_vr G 0, jl_vi v1] s0 (jf_X11_deny v1 s0) := by
  refine jl_met (plainFor_of_name rfl) (Nat.le_of_ble_eq_true rfl) ?_
  show j2 G jM_X11_deny 0 [(0, jl_vr G 0), (1, jl_vi v1)] [] s0 _
  refine jr_aload_n dX11_deny_0 0 rfl ?_
  refine jr_getk (i := 14) jc_11 jk_0 (by decide) (Nat.le_of_ble_eq_true rfl) jlk_0_14 jw_438 dX11_deny_1 ?_
  refine jr_iload_n dX11_deny_4 1 rfl ?_
  refine jr_dup2_11 dX11_deny_5 rfl rfl ?_
  refine jr_grd (fun g1 => ?_)
  refine jr_iaload jk_205 (by decide) h1 g1 dX11_deny_6 ?_
  refine jr_iconst dX11_deny_7 ?_
  refine jr_iadd dX11_deny_8 ?_
  refine jr_grd (fun g2 => ?_)
  refine jr_iastore jk_205 (by decide) h1 g2 dX11_deny_9 ?_
  refine jr_lm (fun s3 => ?_)
  refine jr_iconst dX11_deny_10 ?_
  exact jr_ret_z rfl dX11_deny_11
def jf_X11_end_B15 (s0 : jl_Mm) : jl_O :=
  jl_bd (jf_X11_deny (0 : Int) s0) fun r2 s3 => jl_zb r2 s3
set_option maxRecDepth 20000 in
set_option maxHeartbeats 2000000 in
theorem jj_X11_end_B15 (G : jl_GC) (s0 : jl_Mm) : j2 G jM_X11_end 15 [(0, jl_vr G 0)] [] s0 (jf_X11_end_B15 s0) := by
  refine jr_aload_n dX11_end_15 0 rfl ?_
  refine jr_iconst dX11_end_16 ?_
  refine j2_callVz (As := [jl_vi (0 : Int)]) dX11_end_17 (jt_X11_deny G (0 : Int) (jl_nlit rfl) s0) jv_X11_deny ⟨rfl, rfl, rfl⟩ jw_495 jk_0 (by decide) (by decide) rfl ⟨Nat.le_of_ble_eq_true rfl, Nat.le_of_ble_eq_true rfl⟩ rfl (Nat.le_of_ble_eq_true rfl) (fun r2 s3 hr2 => ?_)
  exact jr_ret_z rfl dX11_end_20
def jf_X11_end (v1 : Int) (s0 : jl_Mm) : jl_O :=
  if v1 < (0 : Int) then (jf_X11_end_B15 s0) else (if v1 ≤ jl_g s0 1 1 then (jl_lm (jl_up s0 1 1 v1) fun s5 => jl_zb (1 : Int) s5) else (jf_X11_end_B15 s0))
set_option maxRecDepth 20000 in
set_option maxHeartbeats 2000000 in
theorem jt_X11_end (G : jl_GC) (v1 : Int) (h1 : jl_n3 v1) (s0 : jl_Mm) : jC2 G jM_X11_end [jl_vr G 0, jl_vi v1] s0 (jf_X11_end v1 s0) := by
  refine jl_met (plainFor_of_name rfl) (Nat.le_of_ble_eq_true rfl) ?_
  show j2 G jM_X11_end 0 [(0, jl_vr G 0), (1, jl_vi v1)] [] s0 _
  refine jr_iload_n dX11_end_0 1 rfl ?_
  refine jr_if_lt (t := 15) dX11_end_1 (by decide) h1 (fun c1 => ?_) (fun c1 => ?_)
  · refine jr_sub [0] rfl ?_
    exact jj_X11_end_B15 G s0
  · refine jr_iload_n dX11_end_4 1 rfl ?_
    refine jr_aload_n dX11_end_5 0 rfl ?_
    refine jr_getk (i := 0) jc_11 jk_0 (by decide) (Nat.le_of_ble_eq_true rfl) jlk_0_0 jw_424 dX11_end_6 ?_
    refine jr_getiN (i := 1) jc_10 jk_1 (by decide) (Nat.le_of_ble_eq_true rfl) jlk_1_1 jft_10_1 jw_40 dX11_end_9 ?_
    refine jr_icmp_le (t := 21) dX11_end_12 (by decide) h1 (jl_n3_to _) (fun c4 => ?_) (fun c4 => ?_)
    · refine jr_aload_n dX11_end_21 0 rfl ?_
      refine jr_getk (i := 0) jc_11 jk_0 (by decide) (Nat.le_of_ble_eq_true rfl) jlk_0_0 jw_424 dX11_end_22 ?_
      refine jr_iload_n dX11_end_25 1 rfl ?_
      refine jr_putiN (i := 1) jc_10 jk_1 (by decide) (Nat.le_of_ble_eq_true rfl) jlk_1_1 jft_10_1 rfl jw_40 rfl dX11_end_26 ?_
      refine jr_lm (fun s5 => ?_)
      refine jr_iconst dX11_end_29 ?_
      exact jr_ret_z rfl dX11_end_30
    · refine jr_sub [0] rfl ?_
      exact jj_X11_end_B15 G s0
def jf_X11_forgetActs (s0 : jl_Mm) : jl_O :=
  jl_lm (jl_up s0 44 3 (0 : Int)) fun s1 => jl_lm (jl_up s1 47 3 (0 : Int)) fun s2 => some (0, s2)
set_option maxRecDepth 20000 in
set_option maxHeartbeats 2000000 in
theorem jt_X11_forgetActs (G : jl_GC) (s0 : jl_Mm) : jC2 G jM_X11_forgetActs [jl_vr G 0] s0 (jf_X11_forgetActs s0) := by
  refine jl_met (plainFor_of_name rfl) (Nat.le_of_ble_eq_true rfl) ?_
  show j2 G jM_X11_forgetActs 0 [(0, jl_vr G 0)] [] s0 _
  refine jr_aload_n dX11_forgetActs_0 0 rfl ?_
  refine jr_getk (i := 7) jc_11 jk_0 (by decide) (Nat.le_of_ble_eq_true rfl) jlk_0_7 jw_431 dX11_forgetActs_1 ?_
  refine jr_iconst dX11_forgetActs_4 ?_
  refine jr_putiN (i := 3) jc_2 jk_44 (by decide) (Nat.le_of_ble_eq_true rfl) jlk_44_3 jft_2_3 rfl jw_277 rfl dX11_forgetActs_5 ?_
  refine jr_lm (fun s1 => ?_)
  refine jr_aload_n dX11_forgetActs_8 0 rfl ?_
  refine jr_getk (i := 8) jc_11 jk_0 (by decide) (Nat.le_of_ble_eq_true rfl) jlk_0_8 jw_432 dX11_forgetActs_9 ?_
  refine jr_iconst dX11_forgetActs_12 ?_
  refine jr_putiN (i := 3) jc_3 jk_47 (by decide) (Nat.le_of_ble_eq_true rfl) jlk_47_3 jft_3_3 rfl jw_303 rfl dX11_forgetActs_13 ?_
  refine jr_lm (fun s2 => ?_)
  exact jr_ret_v rfl dX11_forgetActs_16
def jf_X11_takeFault (s0 : jl_Mm) : jl_O :=
  jl_lm (jl_up s0 0 15 (jl_g s0 38 7)) fun s1 => jl_lm (jl_up s1 0 16 (jl_g s1 38 8)) fun s2 => jl_lm (jl_up s2 1 1 (0 : Int)) fun s3 => some (0, s3)
set_option maxRecDepth 20000 in
set_option maxHeartbeats 2000000 in
theorem jt_X11_takeFault (G : jl_GC) (s0 : jl_Mm) : jC2 G jM_X11_takeFault [jl_vr G 0] s0 (jf_X11_takeFault s0) := by
  refine jl_met (plainFor_of_name rfl) (Nat.le_of_ble_eq_true rfl) ?_
  show j2 G jM_X11_takeFault 0 [(0, jl_vr G 0)] [] s0 _
  refine jr_aload_n dX11_takeFault_0 0 rfl ?_
  refine jr_aload_n dX11_takeFault_1 0 rfl ?_
  refine jr_getk (i := 4) jc_11 jk_0 (by decide) (Nat.le_of_ble_eq_true rfl) jlk_0_4 jw_428 dX11_takeFault_2 ?_
  refine jr_getiN (i := 7) jc_4 jk_38 (by decide) (Nat.le_of_ble_eq_true rfl) jlk_38_7 jft_4_7 jw_196 dX11_takeFault_5 ?_
  refine jr_puti (i := 15) jc_11 jk_0 (by decide) (Nat.le_of_ble_eq_true rfl) jlk_0_15 jft_11_15 rfl jw_439 rfl dX11_takeFault_8 ?_
  refine jr_lm (fun s1 => ?_)
  refine jr_aload_n dX11_takeFault_11 0 rfl ?_
  refine jr_aload_n dX11_takeFault_12 0 rfl ?_
  refine jr_getk (i := 4) jc_11 jk_0 (by decide) (Nat.le_of_ble_eq_true rfl) jlk_0_4 jw_428 dX11_takeFault_13 ?_
  refine jr_getiN (i := 8) jc_4 jk_38 (by decide) (Nat.le_of_ble_eq_true rfl) jlk_38_8 jft_4_8 jw_198 dX11_takeFault_16 ?_
  refine jr_puti (i := 16) jc_11 jk_0 (by decide) (Nat.le_of_ble_eq_true rfl) jlk_0_16 jft_11_16 rfl jw_440 rfl dX11_takeFault_19 ?_
  refine jr_lm (fun s2 => ?_)
  refine jr_aload_n dX11_takeFault_22 0 rfl ?_
  refine jr_getk (i := 0) jc_11 jk_0 (by decide) (Nat.le_of_ble_eq_true rfl) jlk_0_0 jw_424 dX11_takeFault_23 ?_
  refine jr_iconst dX11_takeFault_26 ?_
  refine jr_putiN (i := 1) jc_10 jk_1 (by decide) (Nat.le_of_ble_eq_true rfl) jlk_1_1 jft_10_1 rfl jw_40 rfl dX11_takeFault_27 ?_
  refine jr_lm (fun s3 => ?_)
  exact jr_ret_v rfl dX11_takeFault_30
def jf_X7_setCandle (q0 : Nat) (v1 : Int) (v2 : Int) (s0 : jl_Mm) : jl_O :=
  if (jl_kd q0).1 = 7 then if 0 ≤ v1 ∧ v1 < ((8 : Nat) : Int) then jl_lm (jl_up s0 (q0 + 2) (v1).toNat v2) fun s2 => if 0 ≤ v1 ∧ v1 < ((8 : Nat) : Int) then jl_lm (jl_up s2 (q0 + 3) (v1).toNat (0 : Int)) fun s4 => some (0, s4) else none else none else none
set_option maxRecDepth 20000 in
set_option maxHeartbeats 2000000 in
theorem jt_X7_setCandle (G : jl_GC) (q0 : Nat) (v1 : Int) (v2 : Int) (h1 : jl_n3 v1) (h2 : jl_n3 v2) (s0 : jl_Mm) : jC2 G jM_X7_setCandle [jl_vr G q0, jl_vi v1, jl_vi v2] s0 (jf_X7_setCandle q0 v1 v2 s0) := by
  refine jl_met (plainFor_of_name rfl) (Nat.le_of_ble_eq_true rfl) ?_
  show j2 G jM_X7_setCandle 0 [(0, jl_vr G q0), (1, jl_vi v1), (2, jl_vi v2)] [] s0 _
  refine jr_grd (fun gp0 => ?_)
  refine jr_aload_n dX7_setCandle_0 0 rfl ?_
  refine jr_getk (i := 3) jc_7 (jl_kd1 gp0) (jl_kdlt gp0 (by decide)) (Nat.le_of_ble_eq_true rfl) (js7_3 gp0) jw_248 dX7_setCandle_1 ?_
  refine jr_iload_n dX7_setCandle_4 1 rfl ?_
  refine jr_iload_n dX7_setCandle_5 2 rfl ?_
  refine jr_grd (fun g1 => ?_)
  refine jr_iastore (js7k_3 gp0) (jl_kdl (js7k_3 gp0) (by decide)) h1 g1 dX7_setCandle_6 ?_
  refine jr_lm (fun s2 => ?_)
  refine jr_aload_n dX7_setCandle_7 0 rfl ?_
  refine jr_getk (i := 4) jc_7 (jl_kd1 gp0) (jl_kdlt gp0 (by decide)) (Nat.le_of_ble_eq_true rfl) (js7_4 gp0) jw_253 dX7_setCandle_8 ?_
  refine jr_iload_n dX7_setCandle_11 1 rfl ?_
  refine jr_iconst dX7_setCandle_12 ?_
  refine jr_grd (fun g3 => ?_)
  refine jr_iastore (js7k_4 gp0) (jl_kdl (js7k_4 gp0) (by decide)) h1 g3 dX7_setCandle_13 ?_
  refine jr_lm (fun s4 => ?_)
  exact jr_ret_v rfl dX7_setCandle_14
def jf_X7_putOut (q0 : Nat) (v1 : Int) (s0 : jl_Mm) : jl_O :=
  if (jl_kd q0).1 = 7 then jl_bd (jf_X7_setCandle q0 v1 (0 : Int) s0) fun r1 s2 => some (0, s2) else none
set_option maxRecDepth 20000 in
set_option maxHeartbeats 2000000 in
theorem jt_X7_putOut (G : jl_GC) (q0 : Nat) (v1 : Int) (h1 : jl_n3 v1) (s0 : jl_Mm) : jC2 G jM_X7_putOut [jl_vr G q0, jl_vi v1] s0 (jf_X7_putOut q0 v1 s0) := by
  refine jl_met (plainFor_of_name rfl) (Nat.le_of_ble_eq_true rfl) ?_
  show j2 G jM_X7_putOut 0 [(0, jl_vr G q0), (1, jl_vi v1)] [] s0 _
  refine jr_grd (fun gp0 => ?_)
  refine jr_aload_n dX7_putOut_0 0 rfl ?_
  refine jr_iload_n dX7_putOut_1 1 rfl ?_
  refine jr_iconst dX7_putOut_2 ?_
  refine j2_callVv (As := [jl_vi v1, jl_vi (0 : Int)]) dX7_putOut_3 (jt_X7_setCandle G q0 v1 (0 : Int) h1 (jl_nlit rfl) s0) jv_X7_setCandle ⟨rfl, rfl, rfl⟩ jw_762 (jl_kd1 gp0) (by decide) (jl_kdlt gp0 (by decide)) rfl ⟨Nat.le_of_ble_eq_true rfl, Nat.le_of_ble_eq_true rfl⟩ rfl (Nat.le_of_ble_eq_true rfl) (fun r1 s2 hr1 => ?_)
  exact jr_ret_v rfl dX7_putOut_6
def jf_X7_beginAt_L30 : Nat → Nat → Int → jl_Mm → jl_O
  | 0, _, _, _ => none
  | n + 1, l0, l2, s0 =>
    if (8 : Int) ≤ l2 then (some (0, s0)) else (jl_bd (jf_X7_putOut l0 l2 s0) fun r6 s7 => jf_X7_beginAt_L30 n l0 (jl_add l2 1) s7)
set_option maxRecDepth 20000 in
set_option maxHeartbeats 2000000 in
theorem jj_X7_beginAt_L30 (G : jl_GC) : ∀ (n : Nat) (l0 : Nat) (l2 : Int) (hl0 : (jl_kd l0).1 = 7) (hl2 : jl_n3 l2) (s0 : jl_Mm), j2 G jM_X7_beginAt 30 [(0, jl_vr G l0), (2, jl_vi l2)] [] s0 (jf_X7_beginAt_L30 n l0 l2 s0) := by
  intro n
  induction n with
  | zero =>
    intros
    exact jr_none
  | succ n ih =>
    intro l0 l2 hl0 hl2 s0
    refine jr_iload_n dX7_beginAt_30 1 rfl ?_
    refine jr_bipush dX7_beginAt_31 (by decide) ?_
    refine jr_icmp_ge (t := 47) dX7_beginAt_33 (by decide) hl2 (jl_nlit rfl) (fun c5 => ?_) (fun c5 => ?_)
    · exact jr_ret_v rfl dX7_beginAt_47
    · refine jr_aload_n dX7_beginAt_36 0 rfl ?_
      refine jr_iload_n dX7_beginAt_37 1 rfl ?_
      refine j2_callVv (As := [jl_vi l2]) dX7_beginAt_38 (jt_X7_putOut G l0 l2 hl2 s0) jv_X7_putOut ⟨rfl, rfl, rfl⟩ jw_758 (jl_kd1 hl0) (by decide) (jl_kdlt hl0 (by decide)) rfl ⟨Nat.le_of_ble_eq_true rfl, Nat.le_of_ble_eq_true rfl⟩ rfl (Nat.le_of_ble_eq_true rfl) (fun r6 s7 hr6 => ?_)
      refine jr_iinc (j := 1) (lv := [(2, jl_vi (jl_add l2 1)), (0, jl_vr G l0)]) dX7_beginAt_41 rfl (Nat.le_of_ble_eq_true rfl) rfl ?_
      refine jr_goto (t := 30) dX7_beginAt_44 (by decide) ?_
      refine jr_sub [1, 0] rfl ?_
      exact ih l0 (jl_add l2 1) hl0 (jl_n3_to _) s7
def jf_X7_beginAt (q0 : Nat) (q1 : Nat) (s0 : jl_Mm) : jl_O :=
  if (jl_kd q0).1 = 7 then if (jl_kd q1).1 = 8 then jl_lm (jl_up s0 q0 0 (0 : Int)) fun s1 => jl_lm (jl_up s1 q0 1 (jl_g s1 q1 5)) fun s2 => if (0 ≤ (0 : Int) ∧ 0 ≤ (0 : Int) ∧ 0 ≤ (6 : Int)) ∧ (0 : Int) + (6 : Int) ≤ ((6 : Nat) : Int) ∧ (0 : Int) + (6 : Int) ≤ ((6 : Nat) : Int) then jl_lm (jl_cp s2 (q1 + 2) (((0 : Int) : Int).toNat) (q0 + 1) (((0 : Int) : Int).toNat) (((6 : Int) : Int).toNat)) fun s4 => jf_X7_beginAt_L30 jl_fu q0 (0 : Int) s4 else none else none else none
set_option maxRecDepth 20000 in
set_option maxHeartbeats 2000000 in
theorem jt_X7_beginAt (G : jl_GC) (q0 : Nat) (q1 : Nat) (s0 : jl_Mm) : jC2 G jM_X7_beginAt [jl_vr G q0, jl_vr G q1] s0 (jf_X7_beginAt q0 q1 s0) := by
  refine jl_met (plainFor_of_name rfl) (Nat.le_of_ble_eq_true rfl) ?_
  show j2 G jM_X7_beginAt 0 [(0, jl_vr G q0), (1, jl_vr G q1)] [] s0 _
  refine jr_grd (fun gp0 => ?_)
  refine jr_grd (fun gp1 => ?_)
  refine jr_aload_n dX7_beginAt_0 0 rfl ?_
  refine jr_iconst dX7_beginAt_1 ?_
  refine jr_puti (i := 0) jc_7 (jl_kd1 gp0) (jl_kdlt gp0 (by decide)) (Nat.le_of_ble_eq_true rfl) (js7n_0 gp0) jft_7_0 rfl jw_237 rfl dX7_beginAt_2 ?_
  refine jr_lm (fun s1 => ?_)
  refine jr_aload_n dX7_beginAt_5 0 rfl ?_
  refine jr_aload_n dX7_beginAt_6 1 rfl ?_
  refine jr_getiN (i := 5) jc_8 (jl_kd1 gp1) (jl_kdlt gp1 (by decide)) (Nat.le_of_ble_eq_true rfl) (js8n_5 gp1) jft_8_5 jw_110 dX7_beginAt_7 ?_
  refine jr_puti (i := 1) jc_7 (jl_kd1 gp0) (jl_kdlt gp0 (by decide)) (Nat.le_of_ble_eq_true rfl) (js7n_1 gp0) jft_7_1 rfl jw_241 rfl dX7_beginAt_10 ?_
  refine jr_lm (fun s2 => ?_)
  refine jr_aload_n dX7_beginAt_13 1 rfl ?_
  refine jr_getkN (i := 8) jc_8 (jl_kd1 gp1) (jl_kdlt gp1 (by decide)) (Nat.le_of_ble_eq_true rfl) (js8_8 gp1) jw_119 dX7_beginAt_14 ?_
  refine jr_iconst dX7_beginAt_17 ?_
  refine jr_aload_n dX7_beginAt_18 0 rfl ?_
  refine jr_getk (i := 2) jc_7 (jl_kd1 gp0) (jl_kdlt gp0 (by decide)) (Nat.le_of_ble_eq_true rfl) (js7_2 gp0) jw_244 dX7_beginAt_19 ?_
  refine jr_iconst dX7_beginAt_22 ?_
  refine jr_bipush dX7_beginAt_23 (by decide) ?_
  refine jr_grd (fun g3 => ?_)
  refine jr_copy dX7_beginAt_25 (js8k_8 gp1) (jl_kdl (js8k_8 gp1) (by decide)) (js7k_2 gp0) (jl_kdl (js7k_2 gp0) (by decide)) (jl_nlit rfl) (jl_nlit rfl) (jl_nlit rfl) g3 jw_755 (Nat.le_of_ble_eq_true rfl) (Nat.le_of_ble_eq_true rfl) ?_
  refine jr_lm (fun s4 => ?_)
  refine jr_iconst dX7_beginAt_28 ?_
  refine jr_istore_n (lv := [(2, jl_vi (0 : Int)), (0, jl_vr G q0), (1, jl_vr G q1)]) dX7_beginAt_29 rfl (Nat.le_of_ble_eq_true rfl) rfl ?_
  refine jr_sub [1, 0] rfl ?_
  exact jj_X7_beginAt_L30 G jl_fu q0 (0 : Int) gp0 (jl_nlit rfl) s4
def jf_X0_isTold_B20 (k0 : Int) (s0 : jl_Mm) : jl_O :=
  jl_zb k0 s0
set_option maxRecDepth 20000 in
set_option maxHeartbeats 2000000 in
theorem jj_X0_isTold_B20 (G : jl_GC) (k0 : Int) (hk0 : jl_n3 k0) (s0 : jl_Mm) : j2 G jM_X0_isTold 20 [] [jl_vi k0] s0 (jf_X0_isTold_B20 k0 s0) := by
  exact jr_ret_z rfl dX0_isTold_20
def jf_X0_isTold (q0 : Nat) (v1 : Int) (s0 : jl_Mm) : jl_O :=
  if (jl_kd q0).1 = 0 then if 0 ≤ v1 ∧ v1 < ((3 : Nat) : Int) then if 0 ≤ v1 ∧ v1 < ((3 : Nat) : Int) then if jl_g s0 (q0 + 3) (v1).toNat ≤ jl_g s0 (q0 + 2) (v1).toNat then (jf_X0_isTold_B20 (0 : Int) s0) else (jf_X0_isTold_B20 (1 : Int) s0) else none else none else none
set_option maxRecDepth 20000 in
set_option maxHeartbeats 2000000 in
theorem jt_X0_isTold (G : jl_GC) (q0 : Nat) (v1 : Int) (h1 : jl_n3 v1) (s0 : jl_Mm) : jC2 G jM_X0_isTold [jl_vr G q0, jl_vi v1] s0 (jf_X0_isTold q0 v1 s0) := by
  refine jl_met (plainFor_of_name rfl) (Nat.le_of_ble_eq_true rfl) ?_
  show j2 G jM_X0_isTold 0 [(0, jl_vr G q0), (1, jl_vi v1)] [] s0 _
  refine jr_grd (fun gp0 => ?_)
  refine jr_aload_n dX0_isTold_0 0 rfl ?_
  refine jr_getk (i := 2) jc_0 (jl_kd1 gp0) (jl_kdlt gp0 (by decide)) (Nat.le_of_ble_eq_true rfl) (js0_2 gp0) jw_58 dX0_isTold_1 ?_
  refine jr_iload_n dX0_isTold_4 1 rfl ?_
  refine jr_grd (fun g1 => ?_)
  refine jr_iaload (js0k_2 gp0) (jl_kdl (js0k_2 gp0) (by decide)) h1 g1 dX0_isTold_5 ?_
  refine jr_aload_n dX0_isTold_6 0 rfl ?_
  refine jr_getk (i := 1) jc_0 (jl_kd1 gp0) (jl_kdlt gp0 (by decide)) (Nat.le_of_ble_eq_true rfl) (js0_1 gp0) jw_56 dX0_isTold_7 ?_
  refine jr_iload_n dX0_isTold_10 1 rfl ?_
  refine jr_grd (fun g2 => ?_)
  refine jr_iaload (js0k_1 gp0) (jl_kdl (js0k_1 gp0) (by decide)) h1 g2 dX0_isTold_11 ?_
  refine jr_icmp_le (t := 19) dX0_isTold_12 (by decide) (jl_n3_to _) (jl_n3_to _) (fun c3 => ?_) (fun c3 => ?_)
  · refine jr_iconst dX0_isTold_19 ?_
    refine jr_sub [] rfl ?_
    exact jj_X0_isTold_B20 G (0 : Int) (jl_nlit rfl) s0
  · refine jr_iconst dX0_isTold_15 ?_
    refine jr_goto (t := 20) dX0_isTold_16 (by decide) ?_
    refine jr_sub [] rfl ?_
    exact jj_X0_isTold_B20 G (1 : Int) (jl_nlit rfl) s0
def jf_X0_put_B40 (s0 : jl_Mm) : jl_O :=
  some (0, s0)
set_option maxRecDepth 20000 in
set_option maxHeartbeats 2000000 in
theorem jj_X0_put_B40 (G : jl_GC) (s0 : jl_Mm) : j2 G jM_X0_put 40 [] [] s0 (jf_X0_put_B40 s0) := by
  exact jr_ret_v rfl dX0_put_40
def jf_X0_put (q0 : Nat) (v1 : Int) (s0 : jl_Mm) : jl_O :=
  if (jl_kd q0).1 = 0 then if (1608 : Int) ≤ jl_g s0 q0 4 then (jf_X0_put_B40 s0) else (jl_lm (jl_up s0 q0 4 (jl_add (jl_g s0 q0 4) (1 : Int))) fun s2 => if 0 ≤ jl_g s0 q0 4 ∧ jl_g s0 q0 4 < ((1608 : Nat) : Int) then jl_lm (jl_up s2 (q0 + 1) (jl_g s0 q0 4).toNat v1) fun s4 => if 0 ≤ jl_g s4 q0 5 ∧ jl_g s4 q0 5 < ((3 : Nat) : Int) then jl_lm (jl_up s4 (q0 + 3) (jl_g s4 q0 5).toNat (jl_g s4 q0 4)) fun s6 => jf_X0_put_B40 s6 else none else none) else none
set_option maxRecDepth 20000 in
set_option maxHeartbeats 2000000 in
theorem jt_X0_put (G : jl_GC) (q0 : Nat) (v1 : Int) (h1 : jl_n3 v1) (s0 : jl_Mm) : jC2 G jM_X0_put [jl_vr G q0, jl_vi v1] s0 (jf_X0_put q0 v1 s0) := by
  refine jl_met (plainFor_of_name rfl) (Nat.le_of_ble_eq_true rfl) ?_
  show j2 G jM_X0_put 0 [(0, jl_vr G q0), (1, jl_vi v1)] [] s0 _
  refine jr_grd (fun gp0 => ?_)
  refine jr_aload_n dX0_put_0 0 rfl ?_
  refine jr_geti (i := 4) jc_0 (jl_kd1 gp0) (jl_kdlt gp0 (by decide)) (Nat.le_of_ble_eq_true rfl) (js0n_4 gp0) jft_0_4 jw_62 dX0_put_1 ?_
  refine jr_sipush dX0_put_4 (by decide) ?_
  refine jr_icmp_ge (t := 40) dX0_put_7 (by decide) (jl_n3_to _) (jl_nlit rfl) (fun c1 => ?_) (fun c1 => ?_)
  · refine jr_sub [] rfl ?_
    exact jj_X0_put_B40 G s0
  · refine jr_aload_n dX0_put_10 0 rfl ?_
    refine jr_getk (i := 0) jc_0 (jl_kd1 gp0) (jl_kdlt gp0 (by decide)) (Nat.le_of_ble_eq_true rfl) (js0_0 gp0) jw_54 dX0_put_11 ?_
    refine jr_aload_n dX0_put_14 0 rfl ?_
    refine jr_dup dX0_put_15 rfl ?_
    refine jr_geti (i := 4) jc_0 (jl_kd1 gp0) (jl_kdlt gp0 (by decide)) (Nat.le_of_ble_eq_true rfl) (js0n_4 gp0) jft_0_4 jw_62 dX0_put_16 ?_
    refine jr_dup_x1 dX0_put_19 rfl rfl ?_
    refine jr_iconst dX0_put_20 ?_
    refine jr_iadd dX0_put_21 ?_
    refine jr_puti (i := 4) jc_0 (jl_kd1 gp0) (jl_kdlt gp0 (by decide)) (Nat.le_of_ble_eq_true rfl) (js0n_4 gp0) jft_0_4 rfl jw_62 rfl dX0_put_22 ?_
    refine jr_lm (fun s2 => ?_)
    refine jr_iload_n dX0_put_25 1 rfl ?_
    refine jr_grd (fun g3 => ?_)
    refine jr_iastore (js0k_0 gp0) (jl_kdl (js0k_0 gp0) (by decide)) (jl_n3_to _) g3 dX0_put_26 ?_
    refine jr_lm (fun s4 => ?_)
    refine jr_aload_n dX0_put_27 0 rfl ?_
    refine jr_getk (i := 2) jc_0 (jl_kd1 gp0) (jl_kdlt gp0 (by decide)) (Nat.le_of_ble_eq_true rfl) (js0_2 gp0) jw_58 dX0_put_28 ?_
    refine jr_aload_n dX0_put_31 0 rfl ?_
    refine jr_geti (i := 5) jc_0 (jl_kd1 gp0) (jl_kdlt gp0 (by decide)) (Nat.le_of_ble_eq_true rfl) (js0n_5 gp0) jft_0_5 jw_63 dX0_put_32 ?_
    refine jr_aload_n dX0_put_35 0 rfl ?_
    refine jr_geti (i := 4) jc_0 (jl_kd1 gp0) (jl_kdlt gp0 (by decide)) (Nat.le_of_ble_eq_true rfl) (js0n_4 gp0) jft_0_4 jw_62 dX0_put_36 ?_
    refine jr_grd (fun g5 => ?_)
    refine jr_iastore (js0k_2 gp0) (jl_kdl (js0k_2 gp0) (by decide)) (jl_n3_to _) g5 dX0_put_39 ?_
    refine jr_lm (fun s6 => ?_)
    refine jr_sub [] rfl ?_
    exact jj_X0_put_B40 G s6
def jf_X0_putWord (q0 : Nat) (v1 : Int) (s0 : jl_Mm) : jl_O :=
  if (jl_kd q0).1 = 0 then if 0 ≤ jl_g s0 q0 5 ∧ jl_g s0 q0 5 < ((3 : Nat) : Int) then if 0 ≤ jl_g s0 q0 5 ∧ jl_g s0 q0 5 < ((3 : Nat) : Int) then jl_lm (jl_up s0 (q0 + 4) (jl_g s0 q0 5).toNat (jl_or (jl_g s0 (q0 + 4) (jl_g s0 q0 5).toNat) (jl_shl (1 : Int) v1))) fun s3 => jl_bd (jf_X0_put q0 (jl_xor v1 (-1 : Int)) s3) fun r4 s5 => some (0, s5) else none else none else none
set_option maxRecDepth 20000 in
set_option maxHeartbeats 2000000 in
theorem jt_X0_putWord (G : jl_GC) (q0 : Nat) (v1 : Int) (h1 : jl_n3 v1) (s0 : jl_Mm) : jC2 G jM_X0_putWord [jl_vr G q0, jl_vi v1] s0 (jf_X0_putWord q0 v1 s0) := by
  refine jl_met (plainFor_of_name rfl) (Nat.le_of_ble_eq_true rfl) ?_
  show j2 G jM_X0_putWord 0 [(0, jl_vr G q0), (1, jl_vi v1)] [] s0 _
  refine jr_grd (fun gp0 => ?_)
  refine jr_aload_n dX0_putWord_0 0 rfl ?_
  refine jr_getk (i := 3) jc_0 (jl_kd1 gp0) (jl_kdlt gp0 (by decide)) (Nat.le_of_ble_eq_true rfl) (js0_3 gp0) jw_60 dX0_putWord_1 ?_
  refine jr_aload_n dX0_putWord_4 0 rfl ?_
  refine jr_geti (i := 5) jc_0 (jl_kd1 gp0) (jl_kdlt gp0 (by decide)) (Nat.le_of_ble_eq_true rfl) (js0n_5 gp0) jft_0_5 jw_63 dX0_putWord_5 ?_
  refine jr_dup2_11 dX0_putWord_8 rfl rfl ?_
  refine jr_grd (fun g1 => ?_)
  refine jr_iaload (js0k_3 gp0) (jl_kdl (js0k_3 gp0) (by decide)) (jl_n3_to _) g1 dX0_putWord_9 ?_
  refine jr_iconst dX0_putWord_10 ?_
  refine jr_iload_n dX0_putWord_11 1 rfl ?_
  refine jr_ishl dX0_putWord_12 ?_
  refine jr_ior dX0_putWord_13 ?_
  refine jr_grd (fun g2 => ?_)
  refine jr_iastore (js0k_3 gp0) (jl_kdl (js0k_3 gp0) (by decide)) (jl_n3_to _) g2 dX0_putWord_14 ?_
  refine jr_lm (fun s3 => ?_)
  refine jr_aload_n dX0_putWord_15 0 rfl ?_
  refine jr_iload_n dX0_putWord_16 1 rfl ?_
  refine jr_iconst dX0_putWord_17 ?_
  refine jr_ixor dX0_putWord_18 ?_
  refine j2_callVv (As := [jl_vi (jl_xor v1 (-1 : Int))]) dX0_putWord_19 (jt_X0_put G q0 (jl_xor v1 (-1 : Int)) (jl_n3_to _) s3) jv_X0_put ⟨rfl, rfl, rfl⟩ jw_719 (jl_kd1 gp0) (by decide) (jl_kdlt gp0 (by decide)) rfl ⟨Nat.le_of_ble_eq_true rfl, Nat.le_of_ble_eq_true rfl⟩ rfl (Nat.le_of_ble_eq_true rfl) (fun r4 s5 hr4 => ?_)
  exact jr_ret_v rfl dX0_putWord_22
def jf_X0_start (q0 : Nat) (v1 : Int) (s0 : jl_Mm) : jl_O :=
  if (jl_kd q0).1 = 0 then jl_lm (jl_up s0 q0 5 v1) fun s1 => if 0 ≤ v1 ∧ v1 < ((3 : Nat) : Int) then jl_lm (jl_up s1 (q0 + 2) (v1).toNat (jl_g s1 q0 4)) fun s3 => if 0 ≤ v1 ∧ v1 < ((3 : Nat) : Int) then jl_lm (jl_up s3 (q0 + 3) (v1).toNat (jl_g s3 q0 4)) fun s5 => if 0 ≤ v1 ∧ v1 < ((3 : Nat) : Int) then jl_lm (jl_up s5 (q0 + 4) (v1).toNat (0 : Int)) fun s7 => some (0, s7) else none else none else none else none
set_option maxRecDepth 20000 in
set_option maxHeartbeats 2000000 in
theorem jt_X0_start (G : jl_GC) (q0 : Nat) (v1 : Int) (h1 : jl_n3 v1) (s0 : jl_Mm) : jC2 G jM_X0_start [jl_vr G q0, jl_vi v1] s0 (jf_X0_start q0 v1 s0) := by
  refine jl_met (plainFor_of_name rfl) (Nat.le_of_ble_eq_true rfl) ?_
  show j2 G jM_X0_start 0 [(0, jl_vr G q0), (1, jl_vi v1)] [] s0 _
  refine jr_grd (fun gp0 => ?_)
  refine jr_aload_n dX0_start_0 0 rfl ?_
  refine jr_iload_n dX0_start_1 1 rfl ?_
  refine jr_puti (i := 5) jc_0 (jl_kd1 gp0) (jl_kdlt gp0 (by decide)) (Nat.le_of_ble_eq_true rfl) (js0n_5 gp0) jft_0_5 rfl jw_63 rfl dX0_start_2 ?_
  refine jr_lm (fun s1 => ?_)
  refine jr_aload_n dX0_start_5 0 rfl ?_
  refine jr_getk (i := 1) jc_0 (jl_kd1 gp0) (jl_kdlt gp0 (by decide)) (Nat.le_of_ble_eq_true rfl) (js0_1 gp0) jw_56 dX0_start_6 ?_
  refine jr_iload_n dX0_start_9 1 rfl ?_
  refine jr_aload_n dX0_start_10 0 rfl ?_
  refine jr_geti (i := 4) jc_0 (jl_kd1 gp0) (jl_kdlt gp0 (by decide)) (Nat.le_of_ble_eq_true rfl) (js0n_4 gp0) jft_0_4 jw_62 dX0_start_11 ?_
  refine jr_grd (fun g2 => ?_)
  refine jr_iastore (js0k_1 gp0) (jl_kdl (js0k_1 gp0) (by decide)) h1 g2 dX0_start_14 ?_
  refine jr_lm (fun s3 => ?_)
  refine jr_aload_n dX0_start_15 0 rfl ?_
  refine jr_getk (i := 2) jc_0 (jl_kd1 gp0) (jl_kdlt gp0 (by decide)) (Nat.le_of_ble_eq_true rfl) (js0_2 gp0) jw_58 dX0_start_16 ?_
  refine jr_iload_n dX0_start_19 1 rfl ?_
  refine jr_aload_n dX0_start_20 0 rfl ?_
  refine jr_geti (i := 4) jc_0 (jl_kd1 gp0) (jl_kdlt gp0 (by decide)) (Nat.le_of_ble_eq_true rfl) (js0n_4 gp0) jft_0_4 jw_62 dX0_start_21 ?_
  refine jr_grd (fun g4 => ?_)
  refine jr_iastore (js0k_2 gp0) (jl_kdl (js0k_2 gp0) (by decide)) h1 g4 dX0_start_24 ?_
  refine jr_lm (fun s5 => ?_)
  refine jr_aload_n dX0_start_25 0 rfl ?_
  refine jr_getk (i := 3) jc_0 (jl_kd1 gp0) (jl_kdlt gp0 (by decide)) (Nat.le_of_ble_eq_true rfl) (js0_3 gp0) jw_60 dX0_start_26 ?_
  refine jr_iload_n dX0_start_29 1 rfl ?_
  refine jr_iconst dX0_start_30 ?_
  refine jr_grd (fun g6 => ?_)
  refine jr_iastore (js0k_3 gp0) (jl_kdl (js0k_3 gp0) (by decide)) h1 g6 dX0_start_31 ?_
  refine jr_lm (fun s7 => ?_)
  exact jr_ret_v rfl dX0_start_32
def jf_X0_putUntold_B66 (s0 : jl_Mm) : jl_O :=
  some (0, s0)
set_option maxRecDepth 20000 in
set_option maxHeartbeats 2000000 in
theorem jj_X0_putUntold_B66 (G : jl_GC) (s0 : jl_Mm) : j2 G jM_X0_putUntold 66 [] [] s0 (jf_X0_putUntold_B66 s0) := by
  exact jr_ret_v rfl dX0_putUntold_66
def jf_X0_putUntold_B48 (l0 : Nat) (s0 : jl_Mm) : jl_O :=
  jl_bd (jf_X0_isTold l0 (2 : Int) s0) fun r7 s8 => if r7 = (0 : Int) then (jl_bd (jf_X0_start l0 (2 : Int) s8) fun r10 s11 => jl_bd (jf_X0_put l0 (1 : Int) s11) fun r12 s13 => jf_X0_putUntold_B66 s13) else (jf_X0_putUntold_B66 s8)
set_option maxRecDepth 20000 in
set_option maxHeartbeats 2000000 in
theorem jj_X0_putUntold_B48 (G : jl_GC) (l0 : Nat) (hl0 : (jl_kd l0).1 = 0) (s0 : jl_Mm) : j2 G jM_X0_putUntold 48 [(0, jl_vr G l0)] [] s0 (jf_X0_putUntold_B48 l0 s0) := by
  refine jr_aload_n dX0_putUntold_48 0 rfl ?_
  refine jr_iconst dX0_putUntold_49 ?_
  refine j2_callVz (As := [jl_vi (2 : Int)]) dX0_putUntold_50 (jt_X0_isTold G l0 (2 : Int) (jl_nlit rfl) s0) jv_X0_isTold ⟨rfl, rfl, rfl⟩ jw_744 (jl_kd1 hl0) (by decide) (jl_kdlt hl0 (by decide)) rfl ⟨Nat.le_of_ble_eq_true rfl, Nat.le_of_ble_eq_true rfl⟩ rfl (Nat.le_of_ble_eq_true rfl) (fun r7 s8 hr7 => ?_)
  refine jr_if_ne (t := 66) dX0_putUntold_53 (by decide) (jl_nz hr7) (fun c9 => ?_) (fun c9 => ?_)
  · refine jr_aload_n dX0_putUntold_56 0 rfl ?_
    refine jr_iconst dX0_putUntold_57 ?_
    refine j2_callVv (As := [jl_vi (2 : Int)]) dX0_putUntold_58 (jt_X0_start G l0 (2 : Int) (jl_nlit rfl) s8) jv_X0_start ⟨rfl, rfl, rfl⟩ jw_745 (jl_kd1 hl0) (by decide) (jl_kdlt hl0 (by decide)) rfl ⟨Nat.le_of_ble_eq_true rfl, Nat.le_of_ble_eq_true rfl⟩ rfl (Nat.le_of_ble_eq_true rfl) (fun r10 s11 hr10 => ?_)
    refine jr_aload_n dX0_putUntold_61 0 rfl ?_
    refine jr_iconst dX0_putUntold_62 ?_
    refine j2_callVv (As := [jl_vi (1 : Int)]) dX0_putUntold_63 (jt_X0_put G l0 (1 : Int) (jl_nlit rfl) s11) jv_X0_put ⟨rfl, rfl, rfl⟩ jw_719 (jl_kd1 hl0) (by decide) (jl_kdlt hl0 (by decide)) rfl ⟨Nat.le_of_ble_eq_true rfl, Nat.le_of_ble_eq_true rfl⟩ rfl (Nat.le_of_ble_eq_true rfl) (fun r12 s13 hr12 => ?_)
    refine jr_sub [] rfl ?_
    exact jj_X0_putUntold_B66 G s13
  · refine jr_sub [] rfl ?_
    exact jj_X0_putUntold_B66 G s8
def jf_X0_putUntold_B18 (l0 : Nat) (s0 : jl_Mm) : jl_O :=
  jl_bd (jf_X0_isTold l0 (1 : Int) s0) fun r4 s5 => if r4 = (0 : Int) then (jl_bd (jf_X0_start l0 (1 : Int) s5) fun r14 s15 => jl_bd (jf_X0_put l0 (1 : Int) s15) fun r16 s17 => jl_bd (jf_X0_putWord l0 (16 : Int) s17) fun r18 s19 => jl_bd (jf_X0_put l0 (-44 : Int) s19) fun r20 s21 => jf_X0_putUntold_B48 l0 s21) else (jf_X0_putUntold_B48 l0 s5)
set_option maxRecDepth 20000 in
set_option maxHeartbeats 2000000 in
theorem jj_X0_putUntold_B18 (G : jl_GC) (l0 : Nat) (hl0 : (jl_kd l0).1 = 0) (s0 : jl_Mm) : j2 G jM_X0_putUntold 18 [(0, jl_vr G l0)] [] s0 (jf_X0_putUntold_B18 l0 s0) := by
  refine jr_aload_n dX0_putUntold_18 0 rfl ?_
  refine jr_iconst dX0_putUntold_19 ?_
  refine j2_callVz (As := [jl_vi (1 : Int)]) dX0_putUntold_20 (jt_X0_isTold G l0 (1 : Int) (jl_nlit rfl) s0) jv_X0_isTold ⟨rfl, rfl, rfl⟩ jw_744 (jl_kd1 hl0) (by decide) (jl_kdlt hl0 (by decide)) rfl ⟨Nat.le_of_ble_eq_true rfl, Nat.le_of_ble_eq_true rfl⟩ rfl (Nat.le_of_ble_eq_true rfl) (fun r4 s5 hr4 => ?_)
  refine jr_if_ne (t := 48) dX0_putUntold_23 (by decide) (jl_nz hr4) (fun c6 => ?_) (fun c6 => ?_)
  · refine jr_aload_n dX0_putUntold_26 0 rfl ?_
    refine jr_iconst dX0_putUntold_27 ?_
    refine j2_callVv (As := [jl_vi (1 : Int)]) dX0_putUntold_28 (jt_X0_start G l0 (1 : Int) (jl_nlit rfl) s5) jv_X0_start ⟨rfl, rfl, rfl⟩ jw_745 (jl_kd1 hl0) (by decide) (jl_kdlt hl0 (by decide)) rfl ⟨Nat.le_of_ble_eq_true rfl, Nat.le_of_ble_eq_true rfl⟩ rfl (Nat.le_of_ble_eq_true rfl) (fun r14 s15 hr14 => ?_)
    refine jr_aload_n dX0_putUntold_31 0 rfl ?_
    refine jr_iconst dX0_putUntold_32 ?_
    refine j2_callVv (As := [jl_vi (1 : Int)]) dX0_putUntold_33 (jt_X0_put G l0 (1 : Int) (jl_nlit rfl) s15) jv_X0_put ⟨rfl, rfl, rfl⟩ jw_719 (jl_kd1 hl0) (by decide) (jl_kdlt hl0 (by decide)) rfl ⟨Nat.le_of_ble_eq_true rfl, Nat.le_of_ble_eq_true rfl⟩ rfl (Nat.le_of_ble_eq_true rfl) (fun r16 s17 hr16 => ?_)
    refine jr_aload_n dX0_putUntold_36 0 rfl ?_
    refine jr_bipush dX0_putUntold_37 (by decide) ?_
    refine j2_callVv (As := [jl_vi (16 : Int)]) dX0_putUntold_39 (jt_X0_putWord G l0 (16 : Int) (jl_nlit rfl) s17) jv_X0_putWord ⟨rfl, rfl, rfl⟩ jw_746 (jl_kd1 hl0) (by decide) (jl_kdlt hl0 (by decide)) rfl ⟨Nat.le_of_ble_eq_true rfl, Nat.le_of_ble_eq_true rfl⟩ rfl (Nat.le_of_ble_eq_true rfl) (fun r18 s19 hr18 => ?_)
    refine jr_aload_n dX0_putUntold_42 0 rfl ?_
    refine jr_bipush dX0_putUntold_43 (by decide) ?_
    refine j2_callVv (As := [jl_vi (-44 : Int)]) dX0_putUntold_45 (jt_X0_put G l0 (-44 : Int) (jl_nlit rfl) s19) jv_X0_put ⟨rfl, rfl, rfl⟩ jw_719 (jl_kd1 hl0) (by decide) (jl_kdlt hl0 (by decide)) rfl ⟨Nat.le_of_ble_eq_true rfl, Nat.le_of_ble_eq_true rfl⟩ rfl (Nat.le_of_ble_eq_true rfl) (fun r20 s21 hr20 => ?_)
    exact jj_X0_putUntold_B48 G l0 hl0 s21
  · exact jj_X0_putUntold_B48 G l0 hl0 s5
def jf_X0_putUntold (q0 : Nat) (s0 : jl_Mm) : jl_O :=
  if (jl_kd q0).1 = 0 then jl_bd (jf_X0_isTold q0 (0 : Int) s0) fun r1 s2 => if r1 = (0 : Int) then (jl_bd (jf_X0_start q0 (0 : Int) s2) fun r22 s23 => jl_bd (jf_X0_put q0 (0 : Int) s23) fun r24 s25 => jf_X0_putUntold_B18 q0 s25) else (jf_X0_putUntold_B18 q0 s2) else none
set_option maxRecDepth 20000 in
set_option maxHeartbeats 2000000 in
theorem jt_X0_putUntold (G : jl_GC) (q0 : Nat) (s0 : jl_Mm) : jC2 G jM_X0_putUntold [jl_vr G q0] s0 (jf_X0_putUntold q0 s0) := by
  refine jl_met (plainFor_of_name rfl) (Nat.le_of_ble_eq_true rfl) ?_
  show j2 G jM_X0_putUntold 0 [(0, jl_vr G q0)] [] s0 _
  refine jr_grd (fun gp0 => ?_)
  refine jr_aload_n dX0_putUntold_0 0 rfl ?_
  refine jr_iconst dX0_putUntold_1 ?_
  refine j2_callVz (As := [jl_vi (0 : Int)]) dX0_putUntold_2 (jt_X0_isTold G q0 (0 : Int) (jl_nlit rfl) s0) jv_X0_isTold ⟨rfl, rfl, rfl⟩ jw_744 (jl_kd1 gp0) (by decide) (jl_kdlt gp0 (by decide)) rfl ⟨Nat.le_of_ble_eq_true rfl, Nat.le_of_ble_eq_true rfl⟩ rfl (Nat.le_of_ble_eq_true rfl) (fun r1 s2 hr1 => ?_)
  refine jr_if_ne (t := 18) dX0_putUntold_5 (by decide) (jl_nz hr1) (fun c3 => ?_) (fun c3 => ?_)
  · refine jr_aload_n dX0_putUntold_8 0 rfl ?_
    refine jr_iconst dX0_putUntold_9 ?_
    refine j2_callVv (As := [jl_vi (0 : Int)]) dX0_putUntold_10 (jt_X0_start G q0 (0 : Int) (jl_nlit rfl) s2) jv_X0_start ⟨rfl, rfl, rfl⟩ jw_745 (jl_kd1 gp0) (by decide) (jl_kdlt gp0 (by decide)) rfl ⟨Nat.le_of_ble_eq_true rfl, Nat.le_of_ble_eq_true rfl⟩ rfl (Nat.le_of_ble_eq_true rfl) (fun r22 s23 hr22 => ?_)
    refine jr_aload_n dX0_putUntold_13 0 rfl ?_
    refine jr_iconst dX0_putUntold_14 ?_
    refine j2_callVv (As := [jl_vi (0 : Int)]) dX0_putUntold_15 (jt_X0_put G q0 (0 : Int) (jl_nlit rfl) s23) jv_X0_put ⟨rfl, rfl, rfl⟩ jw_719 (jl_kd1 gp0) (by decide) (jl_kdlt gp0 (by decide)) rfl ⟨Nat.le_of_ble_eq_true rfl, Nat.le_of_ble_eq_true rfl⟩ rfl (Nat.le_of_ble_eq_true rfl) (fun r24 s25 hr24 => ?_)
    exact jj_X0_putUntold_B18 G q0 gp0 s25
  · exact jj_X0_putUntold_B18 G q0 gp0 s2
def jf_X4_fail_B17 (s0 : jl_Mm) : jl_O :=
  jl_lm (jl_up s0 38 4 (jl_g s0 1 1)) fun s2 => some (0, s2)
set_option maxRecDepth 20000 in
set_option maxHeartbeats 2000000 in
theorem jj_X4_fail_B17 (G : jl_GC) (s0 : jl_Mm) : j2 G jM_X4_fail 17 [(0, jl_vr G 38)] [] s0 (jf_X4_fail_B17 s0) := by
  refine jr_aload_n dX4_fail_17 0 rfl ?_
  refine jr_aload_n dX4_fail_18 0 rfl ?_
  refine jr_getk (i := 0) jc_4 jk_38 (by decide) (Nat.le_of_ble_eq_true rfl) jlk_38_0 jw_185 dX4_fail_19 ?_
  refine jr_getiN (i := 1) jc_10 jk_1 (by decide) (Nat.le_of_ble_eq_true rfl) jlk_1_1 jft_10_1 jw_41 dX4_fail_22 ?_
  refine jr_puti (i := 4) jc_4 jk_38 (by decide) (Nat.le_of_ble_eq_true rfl) jlk_38_4 jft_4_4 rfl jw_189 rfl dX4_fail_25 ?_
  refine jr_lm (fun s2 => ?_)
  exact jr_ret_v rfl dX4_fail_28
def jf_X4_fail (v1 : Int) (v2 : Int) (s0 : jl_Mm) : jl_O :=
  if jl_g s0 38 7 = (0 : Int) then (jl_lm (jl_up s0 38 7 v1) fun s3 => jl_lm (jl_up s3 38 8 v2) fun s4 => jf_X4_fail_B17 s4) else (jf_X4_fail_B17 s0)
set_option maxRecDepth 20000 in
set_option maxHeartbeats 2000000 in
theorem jt_X4_fail (G : jl_GC) (v1 : Int) (v2 : Int) (h1 : jl_n3 v1) (h2 : jl_n3 v2) (s0 : jl_Mm) : jC2 G jM_X4_fail [jl_vr G 38, jl_vi v1, jl_vi v2] s0 (jf_X4_fail v1 v2 s0) := by
  refine jl_met (plainFor_of_name rfl) (Nat.le_of_ble_eq_true rfl) ?_
  show j2 G jM_X4_fail 0 [(0, jl_vr G 38), (1, jl_vi v1), (2, jl_vi v2)] [] s0 _
  refine jr_aload_n dX4_fail_0 0 rfl ?_
  refine jr_geti (i := 7) jc_4 jk_38 (by decide) (Nat.le_of_ble_eq_true rfl) jlk_38_7 jft_4_7 jw_195 dX4_fail_1 ?_
  refine jr_if_ne (t := 17) dX4_fail_4 (by decide) (jl_n3_to _) (fun c1 => ?_) (fun c1 => ?_)
  · refine jr_aload_n dX4_fail_7 0 rfl ?_
    refine jr_iload_n dX4_fail_8 1 rfl ?_
    refine jr_puti (i := 7) jc_4 jk_38 (by decide) (Nat.le_of_ble_eq_true rfl) jlk_38_7 jft_4_7 rfl jw_195 rfl dX4_fail_9 ?_
    refine jr_lm (fun s3 => ?_)
    refine jr_aload_n dX4_fail_12 0 rfl ?_
    refine jr_iload_n dX4_fail_13 2 rfl ?_
    refine jr_puti (i := 8) jc_4 jk_38 (by decide) (Nat.le_of_ble_eq_true rfl) jlk_38_8 jft_4_8 rfl jw_197 rfl dX4_fail_14 ?_
    refine jr_lm (fun s4 => ?_)
    refine jr_sub [0] rfl ?_
    exact jj_X4_fail_B17 G s4
  · refine jr_sub [0] rfl ?_
    exact jj_X4_fail_B17 G s0
def jf_X4_peek_B41 (R0 : jl_Mm → jl_O) (s0 : jl_Mm) : jl_O :=
  jl_lm (jl_up s0 38 4 (jl_add (jl_g s0 38 4) (1 : Int))) fun s5 => R0 s5
set_option maxRecDepth 20000 in
set_option maxHeartbeats 2000000 in
theorem jj_X4_peek_B41 (G : jl_GC) (R0 : jl_Mm → jl_O) (hR0 : ∀ (s0 : jl_Mm), j2 G jM_X4_peek 0 [(0, jl_vr G 38)] [] s0 (R0 s0)) (s0 : jl_Mm) : j2 G jM_X4_peek 41 [(0, jl_vr G 38)] [] s0 (jf_X4_peek_B41 R0 s0) := by
  refine jr_aload_n dX4_peek_41 0 rfl ?_
  refine jr_dup dX4_peek_42 rfl ?_
  refine jr_geti (i := 4) jc_4 jk_38 (by decide) (Nat.le_of_ble_eq_true rfl) jlk_38_4 jft_4_4 jw_189 dX4_peek_43 ?_
  refine jr_iconst dX4_peek_46 ?_
  refine jr_iadd dX4_peek_47 ?_
  refine jr_puti (i := 4) jc_4 jk_38 (by decide) (Nat.le_of_ble_eq_true rfl) jlk_38_4 jft_4_4 rfl jw_189 rfl dX4_peek_48 ?_
  refine jr_lm (fun s5 => ?_)
  refine jr_goto (t := 0) dX4_peek_51 (by decide) ?_
  exact hR0 s5
def jf_X4_peek_L0 : Nat → jl_Mm → jl_O
  | 0, _ => none
  | n + 1, s0 =>
    if jl_g s0 1 1 ≤ jl_g s0 38 4 then (some ((-1 : Int), s0)) else (if 0 ≤ jl_g s0 38 4 ∧ jl_g s0 38 4 < ((1600 : Nat) : Int) then jl_let (jl_g s0 2 (jl_g s0 38 4).toNat) fun x3 => if x3 = (32 : Int) then (jf_X4_peek_B41 (jf_X4_peek_L0 n) s0) else (if x3 = (10 : Int) then (jf_X4_peek_B41 (jf_X4_peek_L0 n) s0) else (some (x3, s0))) else none)
set_option maxRecDepth 20000 in
set_option maxHeartbeats 2000000 in
theorem jj_X4_peek_L0 (G : jl_GC) : ∀ (n : Nat) (s0 : jl_Mm), j2 G jM_X4_peek 0 [(0, jl_vr G 38)] [] s0 (jf_X4_peek_L0 n s0) := by
  intro n
  induction n with
  | zero =>
    intros
    exact jr_none
  | succ n ih =>
    intro s0
    refine jr_aload_n dX4_peek_0 0 rfl ?_
    refine jr_geti (i := 4) jc_4 jk_38 (by decide) (Nat.le_of_ble_eq_true rfl) jlk_38_4 jft_4_4 jw_189 dX4_peek_1 ?_
    refine jr_aload_n dX4_peek_4 0 rfl ?_
    refine jr_getk (i := 0) jc_4 jk_38 (by decide) (Nat.le_of_ble_eq_true rfl) jlk_38_0 jw_185 dX4_peek_5 ?_
    refine jr_getiN (i := 1) jc_10 jk_1 (by decide) (Nat.le_of_ble_eq_true rfl) jlk_1_1 jft_10_1 jw_41 dX4_peek_8 ?_
    refine jr_icmp_ge (t := 54) dX4_peek_11 (by decide) (jl_n3_to _) (jl_n3_to _) (fun c1 => ?_) (fun c1 => ?_)
    · refine jr_iconst dX4_peek_54 ?_
      exact jr_ret_i rfl (jl_nlit rfl) dX4_peek_55
    · refine jr_aload_n dX4_peek_14 0 rfl ?_
      refine jr_getk (i := 0) jc_4 jk_38 (by decide) (Nat.le_of_ble_eq_true rfl) jlk_38_0 jw_185 dX4_peek_15 ?_
      refine jr_getkN (i := 0) jc_10 jk_1 (by decide) (Nat.le_of_ble_eq_true rfl) jlk_1_0 jw_37 dX4_peek_18 ?_
      refine jr_aload_n dX4_peek_21 0 rfl ?_
      refine jr_geti (i := 4) jc_4 jk_38 (by decide) (Nat.le_of_ble_eq_true rfl) jlk_38_4 jft_4_4 jw_189 dX4_peek_22 ?_
      refine jr_grd (fun g2 => ?_)
      refine jr_iaload jk_2 (by decide) (jl_n3_to _) g2 dX4_peek_25 ?_
      refine jr_let (jl_n3_to _) (fun x3 hx3 => ?_)
      refine jr_istore_n (lv := [(1, jl_vi x3), (0, jl_vr G 38)]) dX4_peek_26 rfl (Nat.le_of_ble_eq_true rfl) rfl ?_
      refine jr_iload_n dX4_peek_27 0 rfl ?_
      refine jr_bipush dX4_peek_28 (by decide) ?_
      refine jr_icmp_eq (t := 41) dX4_peek_30 (by decide) hx3 (jl_nlit rfl) (fun c4 => ?_) (fun c4 => ?_)
      · refine jr_sub [1] rfl ?_
        exact jj_X4_peek_B41 G (jf_X4_peek_L0 n) (ih) s0
      · refine jr_iload_n dX4_peek_33 0 rfl ?_
        refine jr_bipush dX4_peek_34 (by decide) ?_
        refine jr_icmp_eq (t := 41) dX4_peek_36 (by decide) hx3 (jl_nlit rfl) (fun c6 => ?_) (fun c6 => ?_)
        · refine jr_sub [1] rfl ?_
          exact jj_X4_peek_B41 G (jf_X4_peek_L0 n) (ih) s0
        · refine jr_iload_n dX4_peek_39 0 rfl ?_
          exact jr_ret_i rfl hx3 dX4_peek_40
def jf_X4_peek (s0 : jl_Mm) : jl_O :=
  jf_X4_peek_L0 jl_fu s0
set_option maxRecDepth 20000 in
set_option maxHeartbeats 2000000 in
theorem jt_X4_peek (G : jl_GC) (s0 : jl_Mm) : jC2 G jM_X4_peek [jl_vr G 38] s0 (jf_X4_peek s0) := by
  refine jl_met (plainFor_of_name rfl) (Nat.le_of_ble_eq_true rfl) ?_
  show j2 G jM_X4_peek 0 [(0, jl_vr G 38)] [] s0 _
  exact jj_X4_peek_L0 G jl_fu s0
def jf_X4_expectSign_B30 (s0 : jl_Mm) : jl_O :=
  some (0, s0)
set_option maxRecDepth 20000 in
set_option maxHeartbeats 2000000 in
theorem jj_X4_expectSign_B30 (G : jl_GC) (s0 : jl_Mm) : j2 G jM_X4_expectSign 30 [] [] s0 (jf_X4_expectSign_B30 s0) := by
  exact jr_ret_v rfl dX4_expectSign_30
def jf_X4_expectSign (v1 : Int) (s0 : jl_Mm) : jl_O :=
  jl_bd (jf_X4_peek s0) fun r1 s2 => if r1 = v1 then (jl_lm (jl_up s2 38 4 (jl_add (jl_g s2 38 4) (1 : Int))) fun s6 => jf_X4_expectSign_B30 s6) else (jl_bd (jf_X4_fail (1 : Int) (jl_g s2 38 4) s2) fun r4 s5 => jf_X4_expectSign_B30 s5)
set_option maxRecDepth 20000 in
set_option maxHeartbeats 2000000 in
theorem jt_X4_expectSign (G : jl_GC) (v1 : Int) (h1 : jl_n3 v1) (s0 : jl_Mm) : jC2 G jM_X4_expectSign [jl_vr G 38, jl_vi v1] s0 (jf_X4_expectSign v1 s0) := by
  refine jl_met (plainFor_of_name rfl) (Nat.le_of_ble_eq_true rfl) ?_
  show j2 G jM_X4_expectSign 0 [(0, jl_vr G 38), (1, jl_vi v1)] [] s0 _
  refine jr_aload_n dX4_expectSign_0 0 rfl ?_
  refine j2_callVi (As := []) dX4_expectSign_1 (jt_X4_peek G s0) jv_X4_peek ⟨rfl, rfl, rfl⟩ jw_531 jk_38 (by decide) (by decide) rfl ⟨Nat.le_of_ble_eq_true rfl, Nat.le_of_ble_eq_true rfl⟩ rfl (Nat.le_of_ble_eq_true rfl) (fun r1 s2 hr1 => ?_)
  refine jr_iload_n dX4_expectSign_4 1 rfl ?_
  refine jr_icmp_ne (t := 21) dX4_expectSign_5 (by decide) hr1 h1 (fun c3 => ?_) (fun c3 => ?_)
  · refine jr_aload_n dX4_expectSign_8 0 rfl ?_
    refine jr_dup dX4_expectSign_9 rfl ?_
    refine jr_geti (i := 4) jc_4 jk_38 (by decide) (Nat.le_of_ble_eq_true rfl) jlk_38_4 jft_4_4 jw_189 dX4_expectSign_10 ?_
    refine jr_iconst dX4_expectSign_13 ?_
    refine jr_iadd dX4_expectSign_14 ?_
    refine jr_puti (i := 4) jc_4 jk_38 (by decide) (Nat.le_of_ble_eq_true rfl) jlk_38_4 jft_4_4 rfl jw_189 rfl dX4_expectSign_15 ?_
    refine jr_lm (fun s6 => ?_)
    refine jr_goto (t := 30) dX4_expectSign_18 (by decide) ?_
    refine jr_sub [] rfl ?_
    exact jj_X4_expectSign_B30 G s6
  · refine jr_aload_n dX4_expectSign_21 0 rfl ?_
    refine jr_iconst dX4_expectSign_22 ?_
    refine jr_aload_n dX4_expectSign_23 0 rfl ?_
    refine jr_geti (i := 4) jc_4 jk_38 (by decide) (Nat.le_of_ble_eq_true rfl) jlk_38_4 jft_4_4 jw_189 dX4_expectSign_24 ?_
    refine j2_callVv (As := [jl_vi (1 : Int), jl_vi (jl_g s2 38 4)]) dX4_expectSign_27 (jt_X4_fail G (1 : Int) (jl_g s2 38 4) (jl_nlit rfl) (jl_n3_to _) s2) jv_X4_fail ⟨rfl, rfl, rfl⟩ jw_618 jk_38 (by decide) (by decide) rfl ⟨Nat.le_of_ble_eq_true rfl, Nat.le_of_ble_eq_true rfl⟩ rfl (Nat.le_of_ble_eq_true rfl) (fun r4 s5 hr4 => ?_)
    refine jr_sub [] rfl ?_
    exact jj_X4_expectSign_B30 G s5
def jf_X10_byteAt_B22 (k0 : Int) (s0 : jl_Mm) : jl_O :=
  some (k0, s0)
set_option maxRecDepth 20000 in
set_option maxHeartbeats 2000000 in
theorem jj_X10_byteAt_B22 (G : jl_GC) (k0 : Int) (hk0 : jl_n3 k0) (s0 : jl_Mm) : j2 G jM_X10_byteAt 22 [] [jl_vi k0] s0 (jf_X10_byteAt_B22 k0 s0) := by
  exact jr_ret_i rfl hk0 dX10_byteAt_22
def jf_X10_byteAt_B21 (s0 : jl_Mm) : jl_O :=
  jf_X10_byteAt_B22 (-1 : Int) s0
set_option maxRecDepth 20000 in
set_option maxHeartbeats 2000000 in
theorem jj_X10_byteAt_B21 (G : jl_GC) (s0 : jl_Mm) : j2 G jM_X10_byteAt 21 [] [] s0 (jf_X10_byteAt_B21 s0) := by
  refine jr_iconst dX10_byteAt_21 ?_
  exact jj_X10_byteAt_B22 G (-1 : Int) (jl_nlit rfl) s0
def jf_X10_byteAt (v1 : Int) (s0 : jl_Mm) : jl_O :=
  if v1 < (0 : Int) then (jf_X10_byteAt_B21 s0) else (if jl_g s0 1 1 ≤ v1 then (jf_X10_byteAt_B21 s0) else (if 0 ≤ v1 ∧ v1 < ((1600 : Nat) : Int) then jf_X10_byteAt_B22 (jl_g s0 2 (v1).toNat) s0 else none))
set_option maxRecDepth 20000 in
set_option maxHeartbeats 2000000 in
theorem jt_X10_byteAt (G : jl_GC) (v1 : Int) (h1 : jl_n3 v1) (s0 : jl_Mm) : jC2 G jM_X10_byteAt [jl_vr G 1, jl_vi v1] s0 (jf_X10_byteAt v1 s0) := by
  refine jl_met (plainFor_of_name rfl) (Nat.le_of_ble_eq_true rfl) ?_
  show j2 G jM_X10_byteAt 0 [(0, jl_vr G 1), (1, jl_vi v1)] [] s0 _
  refine jr_iload_n dX10_byteAt_0 1 rfl ?_
  refine jr_if_lt (t := 21) dX10_byteAt_1 (by decide) h1 (fun c1 => ?_) (fun c1 => ?_)
  · refine jr_sub [] rfl ?_
    exact jj_X10_byteAt_B21 G s0
  · refine jr_iload_n dX10_byteAt_4 1 rfl ?_
    refine jr_aload_n dX10_byteAt_5 0 rfl ?_
    refine jr_geti (i := 1) jc_10 jk_1 (by decide) (Nat.le_of_ble_eq_true rfl) jlk_1_1 jft_10_1 jw_38 dX10_byteAt_6 ?_
    refine jr_icmp_ge (t := 21) dX10_byteAt_9 (by decide) h1 (jl_n3_to _) (fun c2 => ?_) (fun c2 => ?_)
    · refine jr_sub [] rfl ?_
      exact jj_X10_byteAt_B21 G s0
    · refine jr_aload_n dX10_byteAt_12 0 rfl ?_
      refine jr_getk (i := 0) jc_10 jk_1 (by decide) (Nat.le_of_ble_eq_true rfl) jlk_1_0 jw_35 dX10_byteAt_13 ?_
      refine jr_iload_n dX10_byteAt_16 1 rfl ?_
      refine jr_grd (fun g3 => ?_)
      refine jr_iaload jk_2 (by decide) h1 g3 dX10_byteAt_17 ?_
      refine jr_goto (t := 22) dX10_byteAt_18 (by decide) ?_
      refine jr_sub [] rfl ?_
      exact jj_X10_byteAt_B22 G (jl_g s0 2 (v1).toNat) (jl_n3_to _) s0
def jf_X4_isInWord_B29 (k0 : Int) (s0 : jl_Mm) : jl_O :=
  jl_zb k0 s0
set_option maxRecDepth 20000 in
set_option maxHeartbeats 2000000 in
theorem jj_X4_isInWord_B29 (G : jl_GC) (k0 : Int) (hk0 : jl_n3 k0) (s0 : jl_Mm) : j2 G jM_X4_isInWord 29 [] [jl_vi k0] s0 (jf_X4_isInWord_B29 k0 s0) := by
  exact jr_ret_z rfl dX4_isInWord_29
def jf_X4_isInWord_B28 (s0 : jl_Mm) : jl_O :=
  jf_X4_isInWord_B29 (0 : Int) s0
set_option maxRecDepth 20000 in
set_option maxHeartbeats 2000000 in
theorem jj_X4_isInWord_B28 (G : jl_GC) (s0 : jl_Mm) : j2 G jM_X4_isInWord 28 [] [] s0 (jf_X4_isInWord_B28 s0) := by
  refine jr_iconst dX4_isInWord_28 ?_
  exact jj_X4_isInWord_B29 G (0 : Int) (jl_nlit rfl) s0
def jf_X4_isInWord_B24 (s0 : jl_Mm) : jl_O :=
  jf_X4_isInWord_B29 (1 : Int) s0
set_option maxRecDepth 20000 in
set_option maxHeartbeats 2000000 in
theorem jj_X4_isInWord_B24 (G : jl_GC) (s0 : jl_Mm) : j2 G jM_X4_isInWord 24 [] [] s0 (jf_X4_isInWord_B24 s0) := by
  refine jr_iconst dX4_isInWord_24 ?_
  refine jr_goto (t := 29) dX4_isInWord_25 (by decide) ?_
  exact jj_X4_isInWord_B29 G (1 : Int) (jl_nlit rfl) s0
def jf_X4_isInWord_B12 (l0 : Int) (s0 : jl_Mm) : jl_O :=
  if l0 < (48 : Int) then (jf_X4_isInWord_B28 s0) else (if (57 : Int) < l0 then (jf_X4_isInWord_B28 s0) else (jf_X4_isInWord_B24 s0))
set_option maxRecDepth 20000 in
set_option maxHeartbeats 2000000 in
theorem jj_X4_isInWord_B12 (G : jl_GC) (l0 : Int) (hl0 : jl_n3 l0) (s0 : jl_Mm) : j2 G jM_X4_isInWord 12 [(0, jl_vi l0)] [] s0 (jf_X4_isInWord_B12 l0 s0) := by
  refine jr_iload_n dX4_isInWord_12 0 rfl ?_
  refine jr_bipush dX4_isInWord_13 (by decide) ?_
  refine jr_icmp_lt (t := 28) dX4_isInWord_15 (by decide) hl0 (jl_nlit rfl) (fun c2 => ?_) (fun c2 => ?_)
  · refine jr_sub [] rfl ?_
    exact jj_X4_isInWord_B28 G s0
  · refine jr_iload_n dX4_isInWord_18 0 rfl ?_
    refine jr_bipush dX4_isInWord_19 (by decide) ?_
    refine jr_icmp_gt (t := 28) dX4_isInWord_21 (by decide) hl0 (jl_nlit rfl) (fun c3 => ?_) (fun c3 => ?_)
    · refine jr_sub [] rfl ?_
      exact jj_X4_isInWord_B28 G s0
    · refine jr_sub [] rfl ?_
      exact jj_X4_isInWord_B24 G s0
def jf_X4_isInWord (v1 : Int) (s0 : jl_Mm) : jl_O :=
  if v1 < (97 : Int) then (jf_X4_isInWord_B12 v1 s0) else (if v1 ≤ (122 : Int) then (jf_X4_isInWord_B24 s0) else (jf_X4_isInWord_B12 v1 s0))
set_option maxRecDepth 20000 in
set_option maxHeartbeats 2000000 in
theorem jt_X4_isInWord (G : jl_GC) (v1 : Int) (h1 : jl_n3 v1) (s0 : jl_Mm) : jC2 G jM_X4_isInWord [jl_vi v1] s0 (jf_X4_isInWord v1 s0) := by
  refine jl_met (plainFor_of_name rfl) (Nat.le_of_ble_eq_true rfl) ?_
  show j2 G jM_X4_isInWord 0 [(0, jl_vi v1)] [] s0 _
  refine jr_iload_n dX4_isInWord_0 0 rfl ?_
  refine jr_bipush dX4_isInWord_1 (by decide) ?_
  refine jr_icmp_lt (t := 12) dX4_isInWord_3 (by decide) h1 (jl_nlit rfl) (fun c1 => ?_) (fun c1 => ?_)
  · exact jj_X4_isInWord_B12 G v1 h1 s0
  · refine jr_iload_n dX4_isInWord_6 0 rfl ?_
    refine jr_bipush dX4_isInWord_7 (by decide) ?_
    refine jr_icmp_le (t := 24) dX4_isInWord_9 (by decide) h1 (jl_nlit rfl) (fun c4 => ?_) (fun c4 => ?_)
    · refine jr_sub [] rfl ?_
      exact jj_X4_isInWord_B24 G s0
    · exact jj_X4_isInWord_B12 G v1 h1 s0
def jf_X4_isLetter_B17 (k0 : Int) (s0 : jl_Mm) : jl_O :=
  jl_zb k0 s0
set_option maxRecDepth 20000 in
set_option maxHeartbeats 2000000 in
theorem jj_X4_isLetter_B17 (G : jl_GC) (k0 : Int) (hk0 : jl_n3 k0) (s0 : jl_Mm) : j2 G jM_X4_isLetter 17 [] [jl_vi k0] s0 (jf_X4_isLetter_B17 k0 s0) := by
  exact jr_ret_z rfl dX4_isLetter_17
def jf_X4_isLetter_B16 (s0 : jl_Mm) : jl_O :=
  jf_X4_isLetter_B17 (0 : Int) s0
set_option maxRecDepth 20000 in
set_option maxHeartbeats 2000000 in
theorem jj_X4_isLetter_B16 (G : jl_GC) (s0 : jl_Mm) : j2 G jM_X4_isLetter 16 [] [] s0 (jf_X4_isLetter_B16 s0) := by
  refine jr_iconst dX4_isLetter_16 ?_
  exact jj_X4_isLetter_B17 G (0 : Int) (jl_nlit rfl) s0
def jf_X4_isLetter (v1 : Int) (s0 : jl_Mm) : jl_O :=
  if v1 < (97 : Int) then (jf_X4_isLetter_B16 s0) else (if (122 : Int) < v1 then (jf_X4_isLetter_B16 s0) else (jf_X4_isLetter_B17 (1 : Int) s0))
set_option maxRecDepth 20000 in
set_option maxHeartbeats 2000000 in
theorem jt_X4_isLetter (G : jl_GC) (v1 : Int) (h1 : jl_n3 v1) (s0 : jl_Mm) : jC2 G jM_X4_isLetter [jl_vi v1] s0 (jf_X4_isLetter v1 s0) := by
  refine jl_met (plainFor_of_name rfl) (Nat.le_of_ble_eq_true rfl) ?_
  show j2 G jM_X4_isLetter 0 [(0, jl_vi v1)] [] s0 _
  refine jr_iload_n dX4_isLetter_0 0 rfl ?_
  refine jr_bipush dX4_isLetter_1 (by decide) ?_
  refine jr_icmp_lt (t := 16) dX4_isLetter_3 (by decide) h1 (jl_nlit rfl) (fun c1 => ?_) (fun c1 => ?_)
  · refine jr_sub [] rfl ?_
    exact jj_X4_isLetter_B16 G s0
  · refine jr_iload_n dX4_isLetter_6 0 rfl ?_
    refine jr_bipush dX4_isLetter_7 (by decide) ?_
    refine jr_icmp_gt (t := 16) dX4_isLetter_9 (by decide) h1 (jl_nlit rfl) (fun c2 => ?_) (fun c2 => ?_)
    · refine jr_sub [] rfl ?_
      exact jj_X4_isLetter_B16 G s0
    · refine jr_iconst dX4_isLetter_12 ?_
      refine jr_goto (t := 17) dX4_isLetter_13 (by decide) ?_
      refine jr_sub [] rfl ?_
      exact jj_X4_isLetter_B17 G (1 : Int) (jl_nlit rfl) s0
def jf_X4_wordNumber_B100 (R12 : Int → Int → Int → Int → jl_Mm → jl_O) (l1 : Int) (l2 : Int) (l3 : Int) (l4 : Int) (s0 : jl_Mm) : jl_O :=
  R12 l1 l2 l3 (jl_add l4 1) s0
set_option maxRecDepth 20000 in
set_option maxHeartbeats 2000000 in
theorem jj_X4_wordNumber_B100 (G : jl_GC) (R12 : Int → Int → Int → Int → jl_Mm → jl_O) (hR12 : ∀ (l1 : Int) (l2 : Int) (l3 : Int) (l4 : Int) (_hl1 : jl_n3 l1) (_hl2 : jl_n3 l2) (_hl3 : jl_n3 l3) (_hl4 : jl_n3 l4) (s0 : jl_Mm), j2 G jM_X4_wordNumber 12 [(0, jl_vr G 38), (1, jl_vi l1), (2, jl_vi l2), (3, jl_vi l3), (4, jl_vi l4)] [] s0 (R12 l1 l2 l3 l4 s0)) (l1 : Int) (l2 : Int) (l3 : Int) (l4 : Int) (hl1 : jl_n3 l1) (hl2 : jl_n3 l2) (hl3 : jl_n3 l3) (hl4 : jl_n3 l4) (s0 : jl_Mm) : j2 G jM_X4_wordNumber 100 [(0, jl_vr G 38), (1, jl_vi l1), (2, jl_vi l2), (3, jl_vi l3), (4, jl_vi l4)] [] s0 (jf_X4_wordNumber_B100 R12 l1 l2 l3 l4 s0) := by
  refine jr_iinc (j := 4) (lv := [(4, jl_vi (jl_add l4 1)), (0, jl_vr G 38), (1, jl_vi l1), (2, jl_vi l2), (3, jl_vi l3)]) dX4_wordNumber_100 rfl (Nat.le_of_ble_eq_true rfl) rfl ?_
  refine jr_goto (t := 12) dX4_wordNumber_103 (by decide) ?_
  refine jr_sub [1, 2, 3, 4, 0] rfl ?_
  exact hR12 l1 l2 l3 (jl_add l4 1) hl1 hl2 hl3 (jl_n3_to _) s0
def jf_X4_wordNumber_B90 (R12 : Int → Int → Int → Int → jl_Mm → jl_O) (l1 : Int) (l4 : Int) (s0 : jl_Mm) : jl_O :=
  jl_let (jl_g s0 38 4) fun x7 => jf_X4_wordNumber_B100 (R12) (jl_add l1 1) x7 (1 : Int) l4 s0
set_option maxRecDepth 20000 in
set_option maxHeartbeats 2000000 in
theorem jj_X4_wordNumber_B90 (G : jl_GC) (R12 : Int → Int → Int → Int → jl_Mm → jl_O) (hR12 : ∀ (l1 : Int) (l2 : Int) (l3 : Int) (l4 : Int) (_hl1 : jl_n3 l1) (_hl2 : jl_n3 l2) (_hl3 : jl_n3 l3) (_hl4 : jl_n3 l4) (s0 : jl_Mm), j2 G jM_X4_wordNumber 12 [(0, jl_vr G 38), (1, jl_vi l1), (2, jl_vi l2), (3, jl_vi l3), (4, jl_vi l4)] [] s0 (R12 l1 l2 l3 l4 s0)) (l1 : Int) (l4 : Int) (hl1 : jl_n3 l1) (hl4 : jl_n3 l4) (s0 : jl_Mm) : j2 G jM_X4_wordNumber 90 [(0, jl_vr G 38), (1, jl_vi l1), (4, jl_vi l4)] [] s0 (jf_X4_wordNumber_B90 R12 l1 l4 s0) := by
  refine jr_iinc (j := 1) (lv := [(1, jl_vi (jl_add l1 1)), (0, jl_vr G 38), (4, jl_vi l4)]) dX4_wordNumber_90 rfl (Nat.le_of_ble_eq_true rfl) rfl ?_
  refine jr_aload_n dX4_wordNumber_93 1 rfl ?_
  refine jr_geti (i := 4) jc_4 jk_38 (by decide) (Nat.le_of_ble_eq_true rfl) jlk_38_4 jft_4_4 jw_189 dX4_wordNumber_94 ?_
  refine jr_let (jl_n3_to _) (fun x7 hx7 => ?_)
  refine jr_istore_n (lv := [(2, jl_vi x7), (1, jl_vi (jl_add l1 1)), (0, jl_vr G 38), (4, jl_vi l4)]) dX4_wordNumber_97 rfl (Nat.le_of_ble_eq_true rfl) rfl ?_
  refine jr_iconst dX4_wordNumber_98 ?_
  refine jr_istore_n (lv := [(3, jl_vi (1 : Int)), (2, jl_vi x7), (1, jl_vi (jl_add l1 1)), (0, jl_vr G 38), (4, jl_vi l4)]) dX4_wordNumber_99 rfl (Nat.le_of_ble_eq_true rfl) rfl ?_
  refine jr_sub [3, 2, 1, 0, 4] rfl ?_
  exact jj_X4_wordNumber_B100 G (R12) (hR12) (jl_add l1 1) x7 (1 : Int) l4 (jl_n3_to _) hx7 (jl_nlit rfl) hl4 s0
def jf_X4_wordNumber_B69 (R12 : Int → Int → Int → Int → jl_Mm → jl_O) (l1 : Int) (l2 : Int) (l4 : Int) (k0 : Int) (s0 : jl_Mm) : jl_O :=
  jf_X4_wordNumber_B100 (R12) l1 (jl_add l2 1) k0 l4 s0
set_option maxRecDepth 20000 in
set_option maxHeartbeats 2000000 in
theorem jj_X4_wordNumber_B69 (G : jl_GC) (R12 : Int → Int → Int → Int → jl_Mm → jl_O) (hR12 : ∀ (l1 : Int) (l2 : Int) (l3 : Int) (l4 : Int) (_hl1 : jl_n3 l1) (_hl2 : jl_n3 l2) (_hl3 : jl_n3 l3) (_hl4 : jl_n3 l4) (s0 : jl_Mm), j2 G jM_X4_wordNumber 12 [(0, jl_vr G 38), (1, jl_vi l1), (2, jl_vi l2), (3, jl_vi l3), (4, jl_vi l4)] [] s0 (R12 l1 l2 l3 l4 s0)) (l1 : Int) (l2 : Int) (l4 : Int) (k0 : Int) (hl1 : jl_n3 l1) (hl2 : jl_n3 l2) (hl4 : jl_n3 l4) (hk0 : jl_n3 k0) (s0 : jl_Mm) : j2 G jM_X4_wordNumber 69 [(0, jl_vr G 38), (1, jl_vi l1), (2, jl_vi l2), (4, jl_vi l4)] [jl_vi k0] s0 (jf_X4_wordNumber_B69 R12 l1 l2 l4 k0 s0) := by
  refine jr_istore_n (lv := [(3, jl_vi k0), (0, jl_vr G 38), (1, jl_vi l1), (2, jl_vi l2), (4, jl_vi l4)]) dX4_wordNumber_69 rfl (Nat.le_of_ble_eq_true rfl) rfl ?_
  refine jr_iinc (j := 3) (lv := [(2, jl_vi (jl_add l2 1)), (3, jl_vi k0), (0, jl_vr G 38), (1, jl_vi l1), (4, jl_vi l4)]) dX4_wordNumber_70 rfl (Nat.le_of_ble_eq_true rfl) rfl ?_
  refine jr_goto (t := 100) dX4_wordNumber_73 (by decide) ?_
  refine jr_sub [2, 3, 0, 1, 4] rfl ?_
  exact jj_X4_wordNumber_B100 G (R12) (hR12) l1 (jl_add l2 1) k0 l4 hl1 (jl_n3_to _) hk0 hl4 s0
def jf_X4_wordNumber_B68 (R12 : Int → Int → Int → Int → jl_Mm → jl_O) (l1 : Int) (l2 : Int) (l4 : Int) (s0 : jl_Mm) : jl_O :=
  jf_X4_wordNumber_B69 (R12) l1 l2 l4 (0 : Int) s0
set_option maxRecDepth 20000 in
set_option maxHeartbeats 2000000 in
theorem jj_X4_wordNumber_B68 (G : jl_GC) (R12 : Int → Int → Int → Int → jl_Mm → jl_O) (hR12 : ∀ (l1 : Int) (l2 : Int) (l3 : Int) (l4 : Int) (_hl1 : jl_n3 l1) (_hl2 : jl_n3 l2) (_hl3 : jl_n3 l3) (_hl4 : jl_n3 l4) (s0 : jl_Mm), j2 G jM_X4_wordNumber 12 [(0, jl_vr G 38), (1, jl_vi l1), (2, jl_vi l2), (3, jl_vi l3), (4, jl_vi l4)] [] s0 (R12 l1 l2 l3 l4 s0)) (l1 : Int) (l2 : Int) (l4 : Int) (hl1 : jl_n3 l1) (hl2 : jl_n3 l2) (hl4 : jl_n3 l4) (s0 : jl_Mm) : j2 G jM_X4_wordNumber 68 [(0, jl_vr G 38), (1, jl_vi l1), (2, jl_vi l2), (4, jl_vi l4)] [] s0 (jf_X4_wordNumber_B68 R12 l1 l2 l4 s0) := by
  refine jr_iconst dX4_wordNumber_68 ?_
  exact jj_X4_wordNumber_B69 G (R12) (hR12) l1 l2 l4 (0 : Int) hl1 hl2 hl4 (jl_nlit rfl) s0
def jf_X4_wordNumber_L12 : Nat → Int → Int → Int → Int → jl_Mm → jl_O
  | 0, _, _, _, _, _ => none
  | n + 1, l1, l2, l3, l4, s0 =>
    if (199 : Int) ≤ l4 then (some ((-1 : Int), s0)) else (if 0 ≤ l4 ∧ l4 < 199 then jl_let (jl_ch l4) fun x4 => if x4 = (32 : Int) then (if l3 = (0 : Int) then (jf_X4_wordNumber_B90 (jf_X4_wordNumber_L12 n) l1 l4 s0) else (if l2 = jl_g s0 38 5 then (some (l1, s0)) else (jf_X4_wordNumber_B90 (jf_X4_wordNumber_L12 n) l1 l4 s0))) else (if l3 = (0 : Int) then (jf_X4_wordNumber_B68 (jf_X4_wordNumber_L12 n) l1 l2 l4 s0) else (if jl_g s0 38 5 ≤ l2 then (jf_X4_wordNumber_B68 (jf_X4_wordNumber_L12 n) l1 l2 l4 s0) else (if 0 ≤ l2 ∧ l2 < ((1600 : Nat) : Int) then if jl_g s0 2 (l2).toNat = x4 then (jf_X4_wordNumber_B69 (jf_X4_wordNumber_L12 n) l1 l2 l4 (1 : Int) s0) else (jf_X4_wordNumber_B68 (jf_X4_wordNumber_L12 n) l1 l2 l4 s0) else none))) else none)
set_option maxRecDepth 20000 in
set_option maxHeartbeats 2000000 in
theorem jj_X4_wordNumber_L12 (G : jl_GC) : ∀ (n : Nat) (l1 : Int) (l2 : Int) (l3 : Int) (l4 : Int) (hl1 : jl_n3 l1) (hl2 : jl_n3 l2) (hl3 : jl_n3 l3) (hl4 : jl_n3 l4) (s0 : jl_Mm), j2 G jM_X4_wordNumber 12 [(0, jl_vr G 38), (1, jl_vi l1), (2, jl_vi l2), (3, jl_vi l3), (4, jl_vi l4)] [] s0 (jf_X4_wordNumber_L12 n l1 l2 l3 l4 s0) := by
  intro n
  induction n with
  | zero =>
    intros
    exact jr_none
  | succ n ih =>
    intro l1 l2 l3 l4 hl1 hl2 hl3 hl4 s0
    refine jr_iload dX4_wordNumber_12 4 rfl ?_
    refine jr_ldcs dX4_wordNumber_14 rfl ?_
    refine jr_slen dX4_wordNumber_16 jw_547 (Nat.le_of_ble_eq_true rfl) (Nat.le_of_ble_eq_true rfl) (Nat.le_of_ble_eq_true rfl) ?_
    refine jr_icmp_ge (t := 106) dX4_wordNumber_19 (by decide) hl4 (jl_nlit rfl) (fun c2 => ?_) (fun c2 => ?_)
    · refine jr_iconst dX4_wordNumber_106 ?_
      exact jr_ret_i rfl (jl_nlit rfl) dX4_wordNumber_107
    · refine jr_ldcs dX4_wordNumber_22 rfl ?_
      refine jr_iload dX4_wordNumber_24 4 rfl ?_
      refine jr_grd (fun g3 => ?_)
      refine jr_sat dX4_wordNumber_26 hl4 g3 jw_557 (Nat.le_of_ble_eq_true rfl) (Nat.le_of_ble_eq_true rfl) (Nat.le_of_ble_eq_true rfl) ?_
      refine jr_let (jl_ch_n _) (fun x4 hx4 => ?_)
      refine jr_istore (lv := [(5, jl_vi x4), (0, jl_vr G 38), (1, jl_vi l1), (2, jl_vi l2), (3, jl_vi l3), (4, jl_vi l4)]) dX4_wordNumber_29 (Nat.le_of_ble_eq_true rfl) rfl ?_
      refine jr_iload dX4_wordNumber_31 0 rfl ?_
      refine jr_bipush dX4_wordNumber_33 (by decide) ?_
      refine jr_icmp_eq (t := 76) dX4_wordNumber_35 (by decide) hx4 (jl_nlit rfl) (fun c5 => ?_) (fun c5 => ?_)
      · refine jr_iload_n dX4_wordNumber_76 4 rfl ?_
        refine jr_if_eq (t := 90) dX4_wordNumber_77 (by decide) hl3 (fun c6 => ?_) (fun c6 => ?_)
        · refine jr_sub [1, 2, 5] rfl ?_
          exact jj_X4_wordNumber_B90 G (jf_X4_wordNumber_L12 n) (ih) l1 l4 hl1 hl4 s0
        · refine jr_iload_n dX4_wordNumber_80 3 rfl ?_
          refine jr_aload_n dX4_wordNumber_81 1 rfl ?_
          refine jr_geti (i := 5) jc_4 jk_38 (by decide) (Nat.le_of_ble_eq_true rfl) jlk_38_5 jft_4_5 jw_191 dX4_wordNumber_82 ?_
          refine jr_icmp_ne (t := 90) dX4_wordNumber_85 (by decide) hl2 (jl_n3_to _) (fun c8 => ?_) (fun c8 => ?_)
          · refine jr_iload_n dX4_wordNumber_88 2 rfl ?_
            exact jr_ret_i rfl hl1 dX4_wordNumber_89
          · refine jr_sub [1, 2, 5] rfl ?_
            exact jj_X4_wordNumber_B90 G (jf_X4_wordNumber_L12 n) (ih) l1 l4 hl1 hl4 s0
      · refine jr_iload_n dX4_wordNumber_38 4 rfl ?_
        refine jr_if_eq (t := 68) dX4_wordNumber_39 (by decide) hl3 (fun c9 => ?_) (fun c9 => ?_)
        · refine jr_sub [1, 2, 3, 5] rfl ?_
          exact jj_X4_wordNumber_B68 G (jf_X4_wordNumber_L12 n) (ih) l1 l2 l4 hl1 hl2 hl4 s0
        · refine jr_iload_n dX4_wordNumber_42 3 rfl ?_
          refine jr_aload_n dX4_wordNumber_43 1 rfl ?_
          refine jr_geti (i := 5) jc_4 jk_38 (by decide) (Nat.le_of_ble_eq_true rfl) jlk_38_5 jft_4_5 jw_191 dX4_wordNumber_44 ?_
          refine jr_icmp_ge (t := 68) dX4_wordNumber_47 (by decide) hl2 (jl_n3_to _) (fun c10 => ?_) (fun c10 => ?_)
          · refine jr_sub [1, 2, 3, 5] rfl ?_
            exact jj_X4_wordNumber_B68 G (jf_X4_wordNumber_L12 n) (ih) l1 l2 l4 hl1 hl2 hl4 s0
          · refine jr_aload_n dX4_wordNumber_50 1 rfl ?_
            refine jr_getk (i := 0) jc_4 jk_38 (by decide) (Nat.le_of_ble_eq_true rfl) jlk_38_0 jw_185 dX4_wordNumber_51 ?_
            refine jr_getkN (i := 0) jc_10 jk_1 (by decide) (Nat.le_of_ble_eq_true rfl) jlk_1_0 jw_37 dX4_wordNumber_54 ?_
            refine jr_iload_n dX4_wordNumber_57 3 rfl ?_
            refine jr_grd (fun g11 => ?_)
            refine jr_iaload jk_2 (by decide) hl2 g11 dX4_wordNumber_58 ?_
            refine jr_iload dX4_wordNumber_59 0 rfl ?_
            refine jr_icmp_ne (t := 68) dX4_wordNumber_61 (by decide) (jl_n3_to _) hx4 (fun c12 => ?_) (fun c12 => ?_)
            · refine jr_iconst dX4_wordNumber_64 ?_
              refine jr_goto (t := 69) dX4_wordNumber_65 (by decide) ?_
              refine jr_sub [1, 2, 3, 5] rfl ?_
              exact jj_X4_wordNumber_B69 G (jf_X4_wordNumber_L12 n) (ih) l1 l2 l4 (1 : Int) hl1 hl2 hl4 (jl_nlit rfl) s0
            · refine jr_sub [1, 2, 3, 5] rfl ?_
              exact jj_X4_wordNumber_B68 G (jf_X4_wordNumber_L12 n) (ih) l1 l2 l4 hl1 hl2 hl4 s0
def jf_X4_wordNumber (s0 : jl_Mm) : jl_O :=
  jl_let (jl_g s0 38 4) fun x1 => jf_X4_wordNumber_L12 jl_fu (0 : Int) x1 (1 : Int) (0 : Int) s0
set_option maxRecDepth 20000 in
set_option maxHeartbeats 2000000 in
theorem jt_X4_wordNumber (G : jl_GC) (s0 : jl_Mm) : jC2 G jM_X4_wordNumber [jl_vr G 38] s0 (jf_X4_wordNumber s0) := by
  refine jl_met (plainFor_of_name rfl) (Nat.le_of_ble_eq_true rfl) ?_
  show j2 G jM_X4_wordNumber 0 [(0, jl_vr G 38)] [] s0 _
  refine jr_iconst dX4_wordNumber_0 ?_
  refine jr_istore_n (lv := [(1, jl_vi (0 : Int)), (0, jl_vr G 38)]) dX4_wordNumber_1 rfl (Nat.le_of_ble_eq_true rfl) rfl ?_
  refine jr_aload_n dX4_wordNumber_2 1 rfl ?_
  refine jr_geti (i := 4) jc_4 jk_38 (by decide) (Nat.le_of_ble_eq_true rfl) jlk_38_4 jft_4_4 jw_189 dX4_wordNumber_3 ?_
  refine jr_let (jl_n3_to _) (fun x1 hx1 => ?_)
  refine jr_istore_n (lv := [(2, jl_vi x1), (1, jl_vi (0 : Int)), (0, jl_vr G 38)]) dX4_wordNumber_6 rfl (Nat.le_of_ble_eq_true rfl) rfl ?_
  refine jr_iconst dX4_wordNumber_7 ?_
  refine jr_istore_n (lv := [(3, jl_vi (1 : Int)), (2, jl_vi x1), (1, jl_vi (0 : Int)), (0, jl_vr G 38)]) dX4_wordNumber_8 rfl (Nat.le_of_ble_eq_true rfl) rfl ?_
  refine jr_iconst dX4_wordNumber_9 ?_
  refine jr_istore (lv := [(4, jl_vi (0 : Int)), (3, jl_vi (1 : Int)), (2, jl_vi x1), (1, jl_vi (0 : Int)), (0, jl_vr G 38)]) dX4_wordNumber_10 (Nat.le_of_ble_eq_true rfl) rfl ?_
  refine jr_sub [4, 3, 2, 1, 0] rfl ?_
  exact jj_X4_wordNumber_L12 G jl_fu (0 : Int) x1 (1 : Int) (0 : Int) (jl_nlit rfl) hx1 (jl_nlit rfl) (jl_nlit rfl) s0
def jf_X4_peekWord_B104 (k0 : Int) (s0 : jl_Mm) : jl_O :=
  some (k0, s0)
set_option maxRecDepth 20000 in
set_option maxHeartbeats 2000000 in
theorem jj_X4_peekWord_B104 (G : jl_GC) (k0 : Int) (hk0 : jl_n3 k0) (s0 : jl_Mm) : j2 G jM_X4_peekWord 104 [] [jl_vi k0] s0 (jf_X4_peekWord_B104 k0 s0) := by
  exact jr_ret_i rfl hk0 dX4_peekWord_104
def jf_X4_peekWord_B92 (l1 : Int) (s0 : jl_Mm) : jl_O :=
  if l1 = (0 : Int) then (jf_X4_peekWord_B104 (-1 : Int) s0) else (jl_bd (jf_X4_wordNumber s0) fun r9 s10 => jf_X4_peekWord_B104 r9 s10)
set_option maxRecDepth 20000 in
set_option maxHeartbeats 2000000 in
theorem jj_X4_peekWord_B92 (G : jl_GC) (l1 : Int) (hl1 : jl_n3 l1) (s0 : jl_Mm) : j2 G jM_X4_peekWord 92 [(0, jl_vr G 38), (1, jl_vi l1)] [] s0 (jf_X4_peekWord_B92 l1 s0) := by
  refine jr_iload_n dX4_peekWord_92 1 rfl ?_
  refine jr_if_eq (t := 103) dX4_peekWord_93 (by decide) hl1 (fun c8 => ?_) (fun c8 => ?_)
  · refine jr_iconst dX4_peekWord_103 ?_
    refine jr_sub [] rfl ?_
    exact jj_X4_peekWord_B104 G (-1 : Int) (jl_nlit rfl) s0
  · refine jr_aload_n dX4_peekWord_96 0 rfl ?_
    refine j2_callVi (As := []) dX4_peekWord_97 (jt_X4_wordNumber G s0) jv_X4_wordNumber ⟨rfl, rfl, rfl⟩ jw_542 jk_38 (by decide) (by decide) rfl ⟨Nat.le_of_ble_eq_true rfl, Nat.le_of_ble_eq_true rfl⟩ rfl (Nat.le_of_ble_eq_true rfl) (fun r9 s10 hr9 => ?_)
    refine jr_goto (t := 104) dX4_peekWord_100 (by decide) ?_
    refine jr_sub [] rfl ?_
    exact jj_X4_peekWord_B104 G r9 hr9 s10
def jf_X4_peekWord_L43 : Nat → Int → jl_Mm → jl_O
  | 0, _, _ => none
  | n + 1, l1, s0 =>
    if l1 = (0 : Int) then (jf_X4_peekWord_B92 l1 s0) else (if jl_g s0 1 1 ≤ jl_g s0 38 5 then (jf_X4_peekWord_B92 l1 s0) else (if 0 ≤ jl_g s0 38 5 ∧ jl_g s0 38 5 < ((1600 : Nat) : Int) then jl_bd (jf_X4_isLetter (jl_g s0 2 (jl_g s0 38 5).toNat) s0) fun r13 s14 => if r13 = (0 : Int) then (jf_X4_peekWord_B92 l1 s14) else (jl_lm (jl_up s14 38 5 (jl_add (jl_g s14 38 5) (1 : Int))) fun s16 => jf_X4_peekWord_L43 n l1 s16) else none))
set_option maxRecDepth 20000 in
set_option maxHeartbeats 2000000 in
theorem jj_X4_peekWord_L43 (G : jl_GC) : ∀ (n : Nat) (l1 : Int) (hl1 : jl_n3 l1) (s0 : jl_Mm), j2 G jM_X4_peekWord 43 [(0, jl_vr G 38), (1, jl_vi l1)] [] s0 (jf_X4_peekWord_L43 n l1 s0) := by
  intro n
  induction n with
  | zero =>
    intros
    exact jr_none
  | succ n ih =>
    intro l1 hl1 s0
    refine jr_iload_n dX4_peekWord_43 1 rfl ?_
    refine jr_if_eq (t := 92) dX4_peekWord_44 (by decide) hl1 (fun c7 => ?_) (fun c7 => ?_)
    · exact jj_X4_peekWord_B92 G l1 hl1 s0
    · refine jr_aload_n dX4_peekWord_47 0 rfl ?_
      refine jr_geti (i := 5) jc_4 jk_38 (by decide) (Nat.le_of_ble_eq_true rfl) jlk_38_5 jft_4_5 jw_191 dX4_peekWord_48 ?_
      refine jr_aload_n dX4_peekWord_51 0 rfl ?_
      refine jr_getk (i := 0) jc_4 jk_38 (by decide) (Nat.le_of_ble_eq_true rfl) jlk_38_0 jw_185 dX4_peekWord_52 ?_
      refine jr_getiN (i := 1) jc_10 jk_1 (by decide) (Nat.le_of_ble_eq_true rfl) jlk_1_1 jft_10_1 jw_41 dX4_peekWord_55 ?_
      refine jr_icmp_ge (t := 92) dX4_peekWord_58 (by decide) (jl_n3_to _) (jl_n3_to _) (fun c11 => ?_) (fun c11 => ?_)
      · exact jj_X4_peekWord_B92 G l1 hl1 s0
      · refine jr_aload_n dX4_peekWord_61 0 rfl ?_
        refine jr_getk (i := 0) jc_4 jk_38 (by decide) (Nat.le_of_ble_eq_true rfl) jlk_38_0 jw_185 dX4_peekWord_62 ?_
        refine jr_getkN (i := 0) jc_10 jk_1 (by decide) (Nat.le_of_ble_eq_true rfl) jlk_1_0 jw_37 dX4_peekWord_65 ?_
        refine jr_aload_n dX4_peekWord_68 0 rfl ?_
        refine jr_geti (i := 5) jc_4 jk_38 (by decide) (Nat.le_of_ble_eq_true rfl) jlk_38_5 jft_4_5 jw_191 dX4_peekWord_69 ?_
        refine jr_grd (fun g12 => ?_)
        refine jr_iaload jk_2 (by decide) (jl_n3_to _) g12 dX4_peekWord_72 ?_
        refine j2_callSz (As := [jl_vi (jl_g s0 2 (jl_g s0 38 5).toNat)]) dX4_peekWord_73 (jt_X4_isLetter G (jl_g s0 2 (jl_g s0 38 5).toNat) (jl_n3_to _) s0) jv_X4_isLetter ⟨rfl, rfl, rfl⟩ jw_532 ⟨Nat.le_of_ble_eq_true rfl, Nat.le_of_ble_eq_true rfl⟩ rfl (Nat.le_of_ble_eq_true rfl) (fun r13 s14 hr13 => ?_)
        refine jr_if_eq (t := 92) dX4_peekWord_76 (by decide) (jl_nz hr13) (fun c15 => ?_) (fun c15 => ?_)
        · exact jj_X4_peekWord_B92 G l1 hl1 s14
        · refine jr_aload_n dX4_peekWord_79 0 rfl ?_
          refine jr_dup dX4_peekWord_80 rfl ?_
          refine jr_geti (i := 5) jc_4 jk_38 (by decide) (Nat.le_of_ble_eq_true rfl) jlk_38_5 jft_4_5 jw_191 dX4_peekWord_81 ?_
          refine jr_iconst dX4_peekWord_84 ?_
          refine jr_iadd dX4_peekWord_85 ?_
          refine jr_puti (i := 5) jc_4 jk_38 (by decide) (Nat.le_of_ble_eq_true rfl) jlk_38_5 jft_4_5 rfl jw_191 rfl dX4_peekWord_86 ?_
          refine jr_lm (fun s16 => ?_)
          refine jr_goto (t := 43) dX4_peekWord_89 (by decide) ?_
          exact ih l1 hl1 s16
def jf_X4_peekWord_B34 (k0 : Int) (s0 : jl_Mm) : jl_O :=
  jl_lm (jl_up s0 38 5 (jl_g s0 38 4)) fun s6 => jf_X4_peekWord_L43 jl_fu k0 s6
set_option maxRecDepth 20000 in
set_option maxHeartbeats 2000000 in
theorem jj_X4_peekWord_B34 (G : jl_GC) (k0 : Int) (hk0 : jl_n3 k0) (s0 : jl_Mm) : j2 G jM_X4_peekWord 34 [(0, jl_vr G 38)] [jl_vi k0] s0 (jf_X4_peekWord_B34 k0 s0) := by
  refine jr_istore_n (lv := [(1, jl_vi k0), (0, jl_vr G 38)]) dX4_peekWord_34 rfl (Nat.le_of_ble_eq_true rfl) rfl ?_
  refine jr_aload_n dX4_peekWord_35 1 rfl ?_
  refine jr_aload_n dX4_peekWord_36 1 rfl ?_
  refine jr_geti (i := 4) jc_4 jk_38 (by decide) (Nat.le_of_ble_eq_true rfl) jlk_38_4 jft_4_4 jw_189 dX4_peekWord_37 ?_
  refine jr_puti (i := 5) jc_4 jk_38 (by decide) (Nat.le_of_ble_eq_true rfl) jlk_38_5 jft_4_5 rfl jw_191 rfl dX4_peekWord_40 ?_
  refine jr_lm (fun s6 => ?_)
  refine jr_sub [1, 0] rfl ?_
  exact jj_X4_peekWord_L43 G jl_fu k0 hk0 s6
def jf_X4_peekWord_B33 (s0 : jl_Mm) : jl_O :=
  jf_X4_peekWord_B34 (0 : Int) s0
set_option maxRecDepth 20000 in
set_option maxHeartbeats 2000000 in
theorem jj_X4_peekWord_B33 (G : jl_GC) (s0 : jl_Mm) : j2 G jM_X4_peekWord 33 [(0, jl_vr G 38)] [] s0 (jf_X4_peekWord_B33 s0) := by
  refine jr_iconst dX4_peekWord_33 ?_
  exact jj_X4_peekWord_B34 G (0 : Int) (jl_nlit rfl) s0
def jf_X4_peekWord (s0 : jl_Mm) : jl_O :=
  jl_bd (jf_X4_peek s0) fun r1 s2 => jl_bd (jf_X4_isLetter r1 s2) fun r3 s4 => if r3 = (0 : Int) then (jf_X4_peekWord_B33 s4) else (jl_bd (jf_X10_byteAt (jl_sub (jl_g s4 38 4) (1 : Int)) s4) fun r17 s18 => jl_bd (jf_X4_isInWord r17 s18) fun r19 s20 => if r19 = (0 : Int) then (jf_X4_peekWord_B34 (1 : Int) s20) else (jf_X4_peekWord_B33 s20))
set_option maxRecDepth 20000 in
set_option maxHeartbeats 2000000 in
theorem jt_X4_peekWord (G : jl_GC) (s0 : jl_Mm) : jC2 G jM_X4_peekWord [jl_vr G 38] s0 (jf_X4_peekWord s0) := by
  refine jl_met (plainFor_of_name rfl) (Nat.le_of_ble_eq_true rfl) ?_
  show j2 G jM_X4_peekWord 0 [(0, jl_vr G 38)] [] s0 _
  refine jr_aload_n dX4_peekWord_0 0 rfl ?_
  refine j2_callVi (As := []) dX4_peekWord_1 (jt_X4_peek G s0) jv_X4_peek ⟨rfl, rfl, rfl⟩ jw_531 jk_38 (by decide) (by decide) rfl ⟨Nat.le_of_ble_eq_true rfl, Nat.le_of_ble_eq_true rfl⟩ rfl (Nat.le_of_ble_eq_true rfl) (fun r1 s2 hr1 => ?_)
  refine j2_callSz (As := [jl_vi r1]) dX4_peekWord_4 (jt_X4_isLetter G r1 hr1 s2) jv_X4_isLetter ⟨rfl, rfl, rfl⟩ jw_532 ⟨Nat.le_of_ble_eq_true rfl, Nat.le_of_ble_eq_true rfl⟩ rfl (Nat.le_of_ble_eq_true rfl) (fun r3 s4 hr3 => ?_)
  refine jr_if_eq (t := 33) dX4_peekWord_7 (by decide) (jl_nz hr3) (fun c5 => ?_) (fun c5 => ?_)
  · exact jj_X4_peekWord_B33 G s4
  · refine jr_aload_n dX4_peekWord_10 0 rfl ?_
    refine jr_getk (i := 0) jc_4 jk_38 (by decide) (Nat.le_of_ble_eq_true rfl) jlk_38_0 jw_185 dX4_peekWord_11 ?_
    refine jr_aload_n dX4_peekWord_14 0 rfl ?_
    refine jr_geti (i := 4) jc_4 jk_38 (by decide) (Nat.le_of_ble_eq_true rfl) jlk_38_4 jft_4_4 jw_189 dX4_peekWord_15 ?_
    refine jr_iconst dX4_peekWord_18 ?_
    refine jr_isub dX4_peekWord_19 ?_
    refine j2_callVi (As := [jl_vi (jl_sub (jl_g s4 38 4) (1 : Int))]) dX4_peekWord_20 (jt_X10_byteAt G (jl_sub (jl_g s4 38 4) (1 : Int)) (jl_n3_to _) s4) jv_X10_byteAt ⟨rfl, rfl, rfl⟩ jw_535 jk_1 (by decide) (by decide) rfl ⟨Nat.le_of_ble_eq_true rfl, Nat.le_of_ble_eq_true rfl⟩ rfl (Nat.le_of_ble_eq_true rfl) (fun r17 s18 hr17 => ?_)
    refine j2_callSz (As := [jl_vi r17]) dX4_peekWord_23 (jt_X4_isInWord G r17 hr17 s18) jv_X4_isInWord ⟨rfl, rfl, rfl⟩ jw_539 ⟨Nat.le_of_ble_eq_true rfl, Nat.le_of_ble_eq_true rfl⟩ rfl (Nat.le_of_ble_eq_true rfl) (fun r19 s20 hr19 => ?_)
    refine jr_if_ne (t := 33) dX4_peekWord_26 (by decide) (jl_nz hr19) (fun c21 => ?_) (fun c21 => ?_)
    · refine jr_iconst dX4_peekWord_29 ?_
      refine jr_goto (t := 34) dX4_peekWord_30 (by decide) ?_
      exact jj_X4_peekWord_B34 G (1 : Int) (jl_nlit rfl) s20
    · exact jj_X4_peekWord_B33 G s20
def jf_X0_clear_L7 : Nat → Nat → Int → jl_Mm → jl_O
  | 0, _, _, _ => none
  | n + 1, l0, l1, s0 =>
    if (3 : Int) ≤ l1 then (some (0, s0)) else (if 0 ≤ l1 ∧ l1 < ((3 : Nat) : Int) then jl_lm (jl_up s0 (l0 + 2) (l1).toNat (0 : Int)) fun s4 => if 0 ≤ l1 ∧ l1 < ((3 : Nat) : Int) then jl_lm (jl_up s4 (l0 + 3) (l1).toNat (0 : Int)) fun s6 => if 0 ≤ l1 ∧ l1 < ((3 : Nat) : Int) then jl_lm (jl_up s6 (l0 + 4) (l1).toNat (0 : Int)) fun s8 => jf_X0_clear_L7 n l0 (jl_add l1 1) s8 else none else none else none)
set_option maxRecDepth 20000 in
set_option maxHeartbeats 2000000 in
theorem jj_X0_clear_L7 (G : jl_GC) : ∀ (n : Nat) (l0 : Nat) (l1 : Int) (hl0 : (jl_kd l0).1 = 0) (hl1 : jl_n3 l1) (s0 : jl_Mm), j2 G jM_X0_clear 7 [(0, jl_vr G l0), (1, jl_vi l1)] [] s0 (jf_X0_clear_L7 n l0 l1 s0) := by
  intro n
  induction n with
  | zero =>
    intros
    exact jr_none
  | succ n ih =>
    intro l0 l1 hl0 hl1 s0
    refine jr_iload_n dX0_clear_7 1 rfl ?_
    refine jr_iconst dX0_clear_8 ?_
    refine jr_icmp_ge (t := 39) dX0_clear_9 (by decide) hl1 (jl_nlit rfl) (fun c2 => ?_) (fun c2 => ?_)
    · exact jr_ret_v rfl dX0_clear_39
    · refine jr_aload_n dX0_clear_12 0 rfl ?_
      refine jr_getk (i := 1) jc_0 (jl_kd1 hl0) (jl_kdlt hl0 (by decide)) (Nat.le_of_ble_eq_true rfl) (js0_1 hl0) jw_56 dX0_clear_13 ?_
      refine jr_iload_n dX0_clear_16 1 rfl ?_
      refine jr_iconst dX0_clear_17 ?_
      refine jr_grd (fun g3 => ?_)
      refine jr_iastore (js0k_1 hl0) (jl_kdl (js0k_1 hl0) (by decide)) hl1 g3 dX0_clear_18 ?_
      refine jr_lm (fun s4 => ?_)
      refine jr_aload_n dX0_clear_19 0 rfl ?_
      refine jr_getk (i := 2) jc_0 (jl_kd1 hl0) (jl_kdlt hl0 (by decide)) (Nat.le_of_ble_eq_true rfl) (js0_2 hl0) jw_58 dX0_clear_20 ?_
      refine jr_iload_n dX0_clear_23 1 rfl ?_
      refine jr_iconst dX0_clear_24 ?_
      refine jr_grd (fun g5 => ?_)
      refine jr_iastore (js0k_2 hl0) (jl_kdl (js0k_2 hl0) (by decide)) hl1 g5 dX0_clear_25 ?_
      refine jr_lm (fun s6 => ?_)
      refine jr_aload_n dX0_clear_26 0 rfl ?_
      refine jr_getk (i := 3) jc_0 (jl_kd1 hl0) (jl_kdlt hl0 (by decide)) (Nat.le_of_ble_eq_true rfl) (js0_3 hl0) jw_60 dX0_clear_27 ?_
      refine jr_iload_n dX0_clear_30 1 rfl ?_
      refine jr_iconst dX0_clear_31 ?_
      refine jr_grd (fun g7 => ?_)
      refine jr_iastore (js0k_3 hl0) (jl_kdl (js0k_3 hl0) (by decide)) hl1 g7 dX0_clear_32 ?_
      refine jr_lm (fun s8 => ?_)
      refine jr_iinc (j := 1) (lv := [(1, jl_vi (jl_add l1 1)), (0, jl_vr G l0)]) dX0_clear_33 rfl (Nat.le_of_ble_eq_true rfl) rfl ?_
      refine jr_goto (t := 7) dX0_clear_36 (by decide) ?_
      refine jr_sub [1, 0] rfl ?_
      exact ih l0 (jl_add l1 1) hl0 (jl_n3_to _) s8
def jf_X0_clear (q0 : Nat) (s0 : jl_Mm) : jl_O :=
  if (jl_kd q0).1 = 0 then jl_lm (jl_up s0 q0 4 (0 : Int)) fun s1 => jf_X0_clear_L7 jl_fu q0 (0 : Int) s1 else none
set_option maxRecDepth 20000 in
set_option maxHeartbeats 2000000 in
theorem jt_X0_clear (G : jl_GC) (q0 : Nat) (s0 : jl_Mm) : jC2 G jM_X0_clear [jl_vr G q0] s0 (jf_X0_clear q0 s0) := by
  refine jl_met (plainFor_of_name rfl) (Nat.le_of_ble_eq_true rfl) ?_
  show j2 G jM_X0_clear 0 [(0, jl_vr G q0)] [] s0 _
  refine jr_grd (fun gp0 => ?_)
  refine jr_aload_n dX0_clear_0 0 rfl ?_
  refine jr_iconst dX0_clear_1 ?_
  refine jr_puti (i := 4) jc_0 (jl_kd1 gp0) (jl_kdlt gp0 (by decide)) (Nat.le_of_ble_eq_true rfl) (js0n_4 gp0) jft_0_4 rfl jw_62 rfl dX0_clear_2 ?_
  refine jr_lm (fun s1 => ?_)
  refine jr_iconst dX0_clear_5 ?_
  refine jr_istore_n (lv := [(1, jl_vi (0 : Int)), (0, jl_vr G q0)]) dX0_clear_6 rfl (Nat.le_of_ble_eq_true rfl) rfl ?_
  refine jr_sub [1, 0] rfl ?_
  exact jj_X0_clear_L7 G jl_fu q0 (0 : Int) gp0 (jl_nlit rfl) s1
def jf_X4_start (q1 : Nat) (s0 : jl_Mm) : jl_O :=
  if (jl_kd q1).1 = 0 then jl_lm (jl_up s0 38 1 ((q1 : Nat) : Int)) fun s1 => jl_bd (jf_X0_clear q1 s1) fun r2 s3 => jl_lm (jl_up s3 38 3 (0 : Int)) fun s4 => jl_lm (jl_up s4 38 4 (0 : Int)) fun s5 => jl_lm (jl_up s5 38 7 (0 : Int)) fun s6 => jl_lm (jl_up s6 38 8 (-1 : Int)) fun s7 => some (0, s7) else none
set_option maxRecDepth 20000 in
set_option maxHeartbeats 2000000 in
theorem jt_X4_start (G : jl_GC) (q1 : Nat) (s0 : jl_Mm) : jC2 G jM_X4_start [jl_vr G 38, jl_vr G q1] s0 (jf_X4_start q1 s0) := by
  refine jl_met (plainFor_of_name rfl) (Nat.le_of_ble_eq_true rfl) ?_
  show j2 G jM_X4_start 0 [(0, jl_vr G 38), (1, jl_vr G q1)] [] s0 _
  refine jr_grd (fun gp1 => ?_)
  refine jr_aload_n dX4_start_0 0 rfl ?_
  refine jr_aload_n dX4_start_1 1 rfl ?_
  refine jr_putr (y := q1) (i := 1) jc_4 jk_38 (by decide) (Nat.le_of_ble_eq_true rfl) jlk_38_1 jft_4_1 (Int.ofNat_lt.mpr (jl_kdlt gp1 (by decide))) rfl jw_186 rfl dX4_start_2 ?_
  refine jr_lm (fun s1 => ?_)
  refine jr_aload_n dX4_start_5 1 rfl ?_
  refine j2_callVv (As := []) dX4_start_6 (jt_X0_clear G q1 s1) jv_X0_clear ⟨rfl, rfl, rfl⟩ jw_515 (jl_kd1 gp1) (by decide) (jl_kdlt gp1 (by decide)) rfl ⟨Nat.le_of_ble_eq_true rfl, Nat.le_of_ble_eq_true rfl⟩ rfl (Nat.le_of_ble_eq_true rfl) (fun r2 s3 hr2 => ?_)
  refine jr_aload_n dX4_start_9 0 rfl ?_
  refine jr_iconst dX4_start_10 ?_
  refine jr_puti (i := 3) jc_4 jk_38 (by decide) (Nat.le_of_ble_eq_true rfl) jlk_38_3 jft_4_3 rfl jw_188 rfl dX4_start_11 ?_
  refine jr_lm (fun s4 => ?_)
  refine jr_aload_n dX4_start_14 0 rfl ?_
  refine jr_iconst dX4_start_15 ?_
  refine jr_puti (i := 4) jc_4 jk_38 (by decide) (Nat.le_of_ble_eq_true rfl) jlk_38_4 jft_4_4 rfl jw_189 rfl dX4_start_16 ?_
  refine jr_lm (fun s5 => ?_)
  refine jr_aload_n dX4_start_19 0 rfl ?_
  refine jr_iconst dX4_start_20 ?_
  refine jr_puti (i := 7) jc_4 jk_38 (by decide) (Nat.le_of_ble_eq_true rfl) jlk_38_7 jft_4_7 rfl jw_195 rfl dX4_start_21 ?_
  refine jr_lm (fun s6 => ?_)
  refine jr_aload_n dX4_start_24 0 rfl ?_
  refine jr_iconst dX4_start_25 ?_
  refine jr_puti (i := 8) jc_4 jk_38 (by decide) (Nat.le_of_ble_eq_true rfl) jlk_38_8 jft_4_8 rfl jw_197 rfl dX4_start_26 ?_
  refine jr_lm (fun s7 => ?_)
  exact jr_ret_v rfl dX4_start_29
def jf_X8_clear (q0 : Nat) (s0 : jl_Mm) : jl_O :=
  if (jl_kd q0).1 = 8 then jl_lm (jl_up s0 q0 0 (0 : Int)) fun s1 => jl_lm (jl_up s1 q0 1 (0 : Int)) fun s2 => jl_lm (jl_up s2 q0 2 (0 : Int)) fun s3 => jl_lm (jl_up s3 q0 3 (0 : Int)) fun s4 => jl_lm (jl_up s4 q0 4 (0 : Int)) fun s5 => jl_lm (jl_up s5 q0 5 (100 : Int)) fun s6 => jl_lm (jl_up s6 q0 6 (0 : Int)) fun s7 => some (0, s7) else none
set_option maxRecDepth 20000 in
set_option maxHeartbeats 2000000 in
theorem jt_X8_clear (G : jl_GC) (q0 : Nat) (s0 : jl_Mm) : jC2 G jM_X8_clear [jl_vr G q0] s0 (jf_X8_clear q0 s0) := by
  refine jl_met (plainFor_of_name rfl) (Nat.le_of_ble_eq_true rfl) ?_
  show j2 G jM_X8_clear 0 [(0, jl_vr G q0)] [] s0 _
  refine jr_grd (fun gp0 => ?_)
  refine jr_aload_n dX8_clear_0 0 rfl ?_
  refine jr_iconst dX8_clear_1 ?_
  refine jr_puti (i := 0) jc_8 (jl_kd1 gp0) (jl_kdlt gp0 (by decide)) (Nat.le_of_ble_eq_true rfl) (js8n_0 gp0) jft_8_0 rfl jw_85 rfl dX8_clear_2 ?_
  refine jr_lm (fun s1 => ?_)
  refine jr_aload_n dX8_clear_5 0 rfl ?_
  refine jr_iconst dX8_clear_6 ?_
  refine jr_puti (i := 1) jc_8 (jl_kd1 gp0) (jl_kdlt gp0 (by decide)) (Nat.le_of_ble_eq_true rfl) (js8n_1 gp0) jft_8_1 rfl jw_88 rfl dX8_clear_7 ?_
  refine jr_lm (fun s2 => ?_)
  refine jr_aload_n dX8_clear_10 0 rfl ?_
  refine jr_iconst dX8_clear_11 ?_
  refine jr_puti (i := 2) jc_8 (jl_kd1 gp0) (jl_kdlt gp0 (by decide)) (Nat.le_of_ble_eq_true rfl) (js8n_2 gp0) jft_8_2 rfl jw_94 rfl dX8_clear_12 ?_
  refine jr_lm (fun s3 => ?_)
  refine jr_aload_n dX8_clear_15 0 rfl ?_
  refine jr_iconst dX8_clear_16 ?_
  refine jr_puti (i := 3) jc_8 (jl_kd1 gp0) (jl_kdlt gp0 (by decide)) (Nat.le_of_ble_eq_true rfl) (js8n_3 gp0) jft_8_3 rfl jw_100 rfl dX8_clear_17 ?_
  refine jr_lm (fun s4 => ?_)
  refine jr_aload_n dX8_clear_20 0 rfl ?_
  refine jr_iconst dX8_clear_21 ?_
  refine jr_puti (i := 4) jc_8 (jl_kd1 gp0) (jl_kdlt gp0 (by decide)) (Nat.le_of_ble_eq_true rfl) (js8n_4 gp0) jft_8_4 rfl jw_105 rfl dX8_clear_22 ?_
  refine jr_lm (fun s5 => ?_)
  refine jr_aload_n dX8_clear_25 0 rfl ?_
  refine jr_bipush dX8_clear_26 (by decide) ?_
  refine jr_puti (i := 5) jc_8 (jl_kd1 gp0) (jl_kdlt gp0 (by decide)) (Nat.le_of_ble_eq_true rfl) (js8n_5 gp0) jft_8_5 rfl jw_109 rfl dX8_clear_28 ?_
  refine jr_lm (fun s6 => ?_)
  refine jr_aload_n dX8_clear_31 0 rfl ?_
  refine jr_iconst dX8_clear_32 ?_
  refine jr_puti (i := 6) jc_8 (jl_kd1 gp0) (jl_kdlt gp0 (by decide)) (Nat.le_of_ble_eq_true rfl) (js8n_6 gp0) jft_8_6 rfl jw_112 rfl dX8_clear_33 ?_
  refine jr_lm (fun s7 => ?_)
  exact jr_ret_v rfl dX8_clear_36
def jf_X9_isTooMany_B85 (k0 : Int) (s0 : jl_Mm) : jl_O :=
  jl_zb k0 s0
set_option maxRecDepth 20000 in
set_option maxHeartbeats 2000000 in
theorem jj_X9_isTooMany_B85 (G : jl_GC) (k0 : Int) (hk0 : jl_n3 k0) (s0 : jl_Mm) : j2 G jM_X9_isTooMany 85 [] [jl_vi k0] s0 (jf_X9_isTooMany_B85 k0 s0) := by
  exact jr_ret_z rfl dX9_isTooMany_85
def jf_X9_isTooMany_B103 (k0 : Int) (s0 : jl_Mm) : jl_O :=
  jl_zb k0 s0
set_option maxRecDepth 20000 in
set_option maxHeartbeats 2000000 in
theorem jj_X9_isTooMany_B103 (G : jl_GC) (k0 : Int) (hk0 : jl_n3 k0) (s0 : jl_Mm) : j2 G jM_X9_isTooMany 103 [] [jl_vi k0] s0 (jf_X9_isTooMany_B103 k0 s0) := by
  exact jr_ret_z rfl dX9_isTooMany_103
def jf_X9_isTooMany_B121 (k0 : Int) (s0 : jl_Mm) : jl_O :=
  jl_zb k0 s0
set_option maxRecDepth 20000 in
set_option maxHeartbeats 2000000 in
theorem jj_X9_isTooMany_B121 (G : jl_GC) (k0 : Int) (hk0 : jl_n3 k0) (s0 : jl_Mm) : j2 G jM_X9_isTooMany 121 [] [jl_vi k0] s0 (jf_X9_isTooMany_B121 k0 s0) := by
  exact jr_ret_z rfl dX9_isTooMany_121
def jf_X9_isTooMany (v1 : Int) (s0 : jl_Mm) : jl_O :=
  if v1 = 1 then (if 0 ≤ s0 39 1 ∧ (jl_kd (jl_gr s0 39 1)).1 = 8 then if jl_g s0 (jl_gr s0 39 1) 2 < (6 : Int) then (jf_X9_isTooMany_B85 (0 : Int) s0) else (jf_X9_isTooMany_B85 (1 : Int) s0) else none) else if v1 = 4 then (if 0 ≤ s0 39 1 ∧ (jl_kd (jl_gr s0 39 1)).1 = 8 then if jl_g s0 (jl_gr s0 39 1) 3 < (8 : Int) then (jf_X9_isTooMany_B103 (0 : Int) s0) else (jf_X9_isTooMany_B103 (1 : Int) s0) else none) else if v1 = 8 then (if 0 ≤ s0 39 1 ∧ (jl_kd (jl_gr s0 39 1)).1 = 8 then if jl_g s0 (jl_gr s0 39 1) 4 < (16 : Int) then (jf_X9_isTooMany_B121 (0 : Int) s0) else (jf_X9_isTooMany_B121 (1 : Int) s0) else none) else if v1 = 11 then (if 0 ≤ s0 39 1 ∧ (jl_kd (jl_gr s0 39 1)).1 = 8 then jl_bd (jf_X0_isTold ((jl_gr s0 39 1) + 10) (0 : Int) s0) fun r12 s13 => jl_zb r12 s13 else none) else if v1 = 12 then (if 0 ≤ s0 39 1 ∧ (jl_kd (jl_gr s0 39 1)).1 = 8 then jl_bd (jf_X0_isTold ((jl_gr s0 39 1) + 10) (1 : Int) s0) fun r16 s17 => jl_zb r16 s17 else none) else if v1 = 13 then (if 0 ≤ s0 39 1 ∧ (jl_kd (jl_gr s0 39 1)).1 = 8 then jl_bd (jf_X0_isTold ((jl_gr s0 39 1) + 10) (2 : Int) s0) fun r20 s21 => jl_zb r20 s21 else none) else (jl_zb (0 : Int) s0)
set_option maxRecDepth 20000 in
set_option maxHeartbeats 2000000 in
theorem jt_X9_isTooMany (G : jl_GC) (v1 : Int) (h1 : jl_n3 v1) (s0 : jl_Mm) : jC2 G jM_X9_isTooMany [jl_vr G 39, jl_vi v1] s0 (jf_X9_isTooMany v1 s0) := by
  refine jl_met (plainFor_of_name rfl) (Nat.le_of_ble_eq_true rfl) ?_
  show j2 G jM_X9_isTooMany 0 [(0, jl_vr G 39), (1, jl_vi v1)] [] s0 _
  refine jr_iload_n dX9_isTooMany_0 1 rfl ?_
  refine jr_ite (fun c1 => ?_) (fun c1 => ?_)
  · refine jr_tabIn (t := 68) dX9_isTooMany_1 h1 (by omega) (by omega) (by rw [c1]; rfl) (by decide) ?_
    refine jr_aload_n dX9_isTooMany_68 0 rfl ?_
    refine jr_grd (fun g2 => ?_)
    refine jr_getr (i := 1) jc_9 jk_39 (by decide) (Nat.le_of_ble_eq_true rfl) jlk_39_1 jft_9_1 g2.1 jw_225 dX9_isTooMany_69 ?_
    refine jr_getiN (i := 2) jc_8 (jl_kd1 g2.2) (jl_kdlt g2.2 (by decide)) (Nat.le_of_ble_eq_true rfl) (js8n_2 g2.2) jft_8_2 jw_96 dX9_isTooMany_72 ?_
    refine jr_bipush dX9_isTooMany_75 (by decide) ?_
    refine jr_icmp_lt (t := 84) dX9_isTooMany_77 (by decide) (jl_n3_to _) (jl_nlit rfl) (fun c3 => ?_) (fun c3 => ?_)
    · refine jr_iconst dX9_isTooMany_84 ?_
      refine jr_sub [] rfl ?_
      exact jj_X9_isTooMany_B85 G (0 : Int) (jl_nlit rfl) s0
    · refine jr_iconst dX9_isTooMany_80 ?_
      refine jr_goto (t := 85) dX9_isTooMany_81 (by decide) ?_
      refine jr_sub [] rfl ?_
      exact jj_X9_isTooMany_B85 G (1 : Int) (jl_nlit rfl) s0
  · skip
    refine jr_ite (fun c4 => ?_) (fun c4 => ?_)
    · refine jr_tabIn (t := 86) dX9_isTooMany_1 h1 (by omega) (by omega) (by rw [c4]; rfl) (by decide) ?_
      refine jr_aload_n dX9_isTooMany_86 0 rfl ?_
      refine jr_grd (fun g5 => ?_)
      refine jr_getr (i := 1) jc_9 jk_39 (by decide) (Nat.le_of_ble_eq_true rfl) jlk_39_1 jft_9_1 g5.1 jw_225 dX9_isTooMany_87 ?_
      refine jr_getiN (i := 3) jc_8 (jl_kd1 g5.2) (jl_kdlt g5.2 (by decide)) (Nat.le_of_ble_eq_true rfl) (js8n_3 g5.2) jft_8_3 jw_103 dX9_isTooMany_90 ?_
      refine jr_bipush dX9_isTooMany_93 (by decide) ?_
      refine jr_icmp_lt (t := 102) dX9_isTooMany_95 (by decide) (jl_n3_to _) (jl_nlit rfl) (fun c6 => ?_) (fun c6 => ?_)
      · refine jr_iconst dX9_isTooMany_102 ?_
        refine jr_sub [] rfl ?_
        exact jj_X9_isTooMany_B103 G (0 : Int) (jl_nlit rfl) s0
      · refine jr_iconst dX9_isTooMany_98 ?_
        refine jr_goto (t := 103) dX9_isTooMany_99 (by decide) ?_
        refine jr_sub [] rfl ?_
        exact jj_X9_isTooMany_B103 G (1 : Int) (jl_nlit rfl) s0
    · skip
      refine jr_ite (fun c7 => ?_) (fun c7 => ?_)
      · refine jr_tabIn (t := 104) dX9_isTooMany_1 h1 (by omega) (by omega) (by rw [c7]; rfl) (by decide) ?_
        refine jr_aload_n dX9_isTooMany_104 0 rfl ?_
        refine jr_grd (fun g8 => ?_)
        refine jr_getr (i := 1) jc_9 jk_39 (by decide) (Nat.le_of_ble_eq_true rfl) jlk_39_1 jft_9_1 g8.1 jw_225 dX9_isTooMany_105 ?_
        refine jr_getiN (i := 4) jc_8 (jl_kd1 g8.2) (jl_kdlt g8.2 (by decide)) (Nat.le_of_ble_eq_true rfl) (js8n_4 g8.2) jft_8_4 jw_106 dX9_isTooMany_108 ?_
        refine jr_bipush dX9_isTooMany_111 (by decide) ?_
        refine jr_icmp_lt (t := 120) dX9_isTooMany_113 (by decide) (jl_n3_to _) (jl_nlit rfl) (fun c9 => ?_) (fun c9 => ?_)
        · refine jr_iconst dX9_isTooMany_120 ?_
          refine jr_sub [] rfl ?_
          exact jj_X9_isTooMany_B121 G (0 : Int) (jl_nlit rfl) s0
        · refine jr_iconst dX9_isTooMany_116 ?_
          refine jr_goto (t := 121) dX9_isTooMany_117 (by decide) ?_
          refine jr_sub [] rfl ?_
          exact jj_X9_isTooMany_B121 G (1 : Int) (jl_nlit rfl) s0
      · skip
        refine jr_ite (fun c10 => ?_) (fun c10 => ?_)
        · refine jr_tabIn (t := 122) dX9_isTooMany_1 h1 (by omega) (by omega) (by rw [c10]; rfl) (by decide) ?_
          refine jr_aload_n dX9_isTooMany_122 0 rfl ?_
          refine jr_grd (fun g11 => ?_)
          refine jr_getr (i := 1) jc_9 jk_39 (by decide) (Nat.le_of_ble_eq_true rfl) jlk_39_1 jft_9_1 g11.1 jw_225 dX9_isTooMany_123 ?_
          refine jr_getkN (i := 16) jc_8 (jl_kd1 g11.2) (jl_kdlt g11.2 (by decide)) (Nat.le_of_ble_eq_true rfl) (js8_16 g11.2) jw_142 dX9_isTooMany_126 ?_
          refine jr_iconst dX9_isTooMany_129 ?_
          refine j2_callVz (As := [jl_vi (0 : Int)]) dX9_isTooMany_130 (jt_X0_isTold G ((jl_gr s0 39 1) + 10) (0 : Int) (jl_nlit rfl) s0) jv_X0_isTold ⟨rfl, rfl, rfl⟩ jw_603 (jl_kd1 (js8k_16 g11.2)) (by decide) (jl_kdlt (js8k_16 g11.2) (by decide)) rfl ⟨Nat.le_of_ble_eq_true rfl, Nat.le_of_ble_eq_true rfl⟩ rfl (Nat.le_of_ble_eq_true rfl) (fun r12 s13 hr12 => ?_)
          exact jr_ret_z rfl dX9_isTooMany_133
        · skip
          refine jr_ite (fun c14 => ?_) (fun c14 => ?_)
          · refine jr_tabIn (t := 134) dX9_isTooMany_1 h1 (by omega) (by omega) (by rw [c14]; rfl) (by decide) ?_
            refine jr_aload_n dX9_isTooMany_134 0 rfl ?_
            refine jr_grd (fun g15 => ?_)
            refine jr_getr (i := 1) jc_9 jk_39 (by decide) (Nat.le_of_ble_eq_true rfl) jlk_39_1 jft_9_1 g15.1 jw_225 dX9_isTooMany_135 ?_
            refine jr_getkN (i := 16) jc_8 (jl_kd1 g15.2) (jl_kdlt g15.2 (by decide)) (Nat.le_of_ble_eq_true rfl) (js8_16 g15.2) jw_142 dX9_isTooMany_138 ?_
            refine jr_iconst dX9_isTooMany_141 ?_
            refine j2_callVz (As := [jl_vi (1 : Int)]) dX9_isTooMany_142 (jt_X0_isTold G ((jl_gr s0 39 1) + 10) (1 : Int) (jl_nlit rfl) s0) jv_X0_isTold ⟨rfl, rfl, rfl⟩ jw_603 (jl_kd1 (js8k_16 g15.2)) (by decide) (jl_kdlt (js8k_16 g15.2) (by decide)) rfl ⟨Nat.le_of_ble_eq_true rfl, Nat.le_of_ble_eq_true rfl⟩ rfl (Nat.le_of_ble_eq_true rfl) (fun r16 s17 hr16 => ?_)
            exact jr_ret_z rfl dX9_isTooMany_145
          · skip
            refine jr_ite (fun c18 => ?_) (fun c18 => ?_)
            · refine jr_tabIn (t := 146) dX9_isTooMany_1 h1 (by omega) (by omega) (by rw [c18]; rfl) (by decide) ?_
              refine jr_aload_n dX9_isTooMany_146 0 rfl ?_
              refine jr_grd (fun g19 => ?_)
              refine jr_getr (i := 1) jc_9 jk_39 (by decide) (Nat.le_of_ble_eq_true rfl) jlk_39_1 jft_9_1 g19.1 jw_225 dX9_isTooMany_147 ?_
              refine jr_getkN (i := 16) jc_8 (jl_kd1 g19.2) (jl_kdlt g19.2 (by decide)) (Nat.le_of_ble_eq_true rfl) (js8_16 g19.2) jw_142 dX9_isTooMany_150 ?_
              refine jr_iconst dX9_isTooMany_153 ?_
              refine j2_callVz (As := [jl_vi (2 : Int)]) dX9_isTooMany_154 (jt_X0_isTold G ((jl_gr s0 39 1) + 10) (2 : Int) (jl_nlit rfl) s0) jv_X0_isTold ⟨rfl, rfl, rfl⟩ jw_603 (jl_kd1 (js8k_16 g19.2)) (by decide) (jl_kdlt (js8k_16 g19.2) (by decide)) rfl ⟨Nat.le_of_ble_eq_true rfl, Nat.le_of_ble_eq_true rfl⟩ rfl (Nat.le_of_ble_eq_true rfl) (fun r20 s21 hr20 => ?_)
              exact jr_ret_z rfl dX9_isTooMany_157
            · skip
              rcases Decidable.em (v1 = 2) with c22 | c22
              · refine jr_tabIn (t := 158) dX9_isTooMany_1 h1 (by omega) (by omega) (by rw [c22]; rfl) (by decide) ?_
                refine jr_iconst dX9_isTooMany_158 ?_
                exact jr_ret_z rfl dX9_isTooMany_159
              rcases Decidable.em (v1 = 3) with c23 | c23
              · refine jr_tabIn (t := 158) dX9_isTooMany_1 h1 (by omega) (by omega) (by rw [c23]; rfl) (by decide) ?_
                refine jr_iconst dX9_isTooMany_158 ?_
                exact jr_ret_z rfl dX9_isTooMany_159
              rcases Decidable.em (v1 = 5) with c24 | c24
              · refine jr_tabIn (t := 158) dX9_isTooMany_1 h1 (by omega) (by omega) (by rw [c24]; rfl) (by decide) ?_
                refine jr_iconst dX9_isTooMany_158 ?_
                exact jr_ret_z rfl dX9_isTooMany_159
              rcases Decidable.em (v1 = 6) with c25 | c25
              · refine jr_tabIn (t := 158) dX9_isTooMany_1 h1 (by omega) (by omega) (by rw [c25]; rfl) (by decide) ?_
                refine jr_iconst dX9_isTooMany_158 ?_
                exact jr_ret_z rfl dX9_isTooMany_159
              rcases Decidable.em (v1 = 7) with c26 | c26
              · refine jr_tabIn (t := 158) dX9_isTooMany_1 h1 (by omega) (by omega) (by rw [c26]; rfl) (by decide) ?_
                refine jr_iconst dX9_isTooMany_158 ?_
                exact jr_ret_z rfl dX9_isTooMany_159
              rcases Decidable.em (v1 = 9) with c27 | c27
              · refine jr_tabIn (t := 158) dX9_isTooMany_1 h1 (by omega) (by omega) (by rw [c27]; rfl) (by decide) ?_
                refine jr_iconst dX9_isTooMany_158 ?_
                exact jr_ret_z rfl dX9_isTooMany_159
              rcases Decidable.em (v1 = 10) with c28 | c28
              · refine jr_tabIn (t := 158) dX9_isTooMany_1 h1 (by omega) (by omega) (by rw [c28]; rfl) (by decide) ?_
                refine jr_iconst dX9_isTooMany_158 ?_
                exact jr_ret_z rfl dX9_isTooMany_159
              refine jr_tabOut (t := 158) dX9_isTooMany_1 h1 (by omega) (by decide) ?_
              refine jr_iconst dX9_isTooMany_158 ?_
              exact jr_ret_z rfl dX9_isTooMany_159
def jf_X9_faultOf_B14 (s0 : jl_Mm) : jl_O :=
  some ((5 : Int), s0)
set_option maxRecDepth 20000 in
set_option maxHeartbeats 2000000 in
theorem jj_X9_faultOf_B14 (G : jl_GC) (s0 : jl_Mm) : j2 G jM_X9_faultOf 14 [] [] s0 (jf_X9_faultOf_B14 s0) := by
  refine jr_iconst dX9_faultOf_14 ?_
  exact jr_ret_i rfl (jl_nlit rfl) dX9_faultOf_15
def jf_X9_faultOf_B42 (k0 : Int) (s0 : jl_Mm) : jl_O :=
  some (k0, s0)
set_option maxRecDepth 20000 in
set_option maxHeartbeats 2000000 in
theorem jj_X9_faultOf_B42 (G : jl_GC) (k0 : Int) (hk0 : jl_n3 k0) (s0 : jl_Mm) : j2 G jM_X9_faultOf 42 [] [jl_vi k0] s0 (jf_X9_faultOf_B42 k0 s0) := by
  exact jr_ret_i rfl hk0 dX9_faultOf_42
def jf_X9_faultOf_B34 (k0 : Int) (k1 : Int) (s0 : jl_Mm) : jl_O :=
  if k0 = k1 then (jf_X9_faultOf_B42 (0 : Int) s0) else (jf_X9_faultOf_B42 (1 : Int) s0)
set_option maxRecDepth 20000 in
set_option maxHeartbeats 2000000 in
theorem jj_X9_faultOf_B34 (G : jl_GC) (k0 : Int) (k1 : Int) (hk0 : jl_n3 k0) (hk1 : jl_n3 k1) (s0 : jl_Mm) : j2 G jM_X9_faultOf 34 [] [jl_vi k1, jl_vi k0] s0 (jf_X9_faultOf_B34 k0 k1 s0) := by
  refine jr_icmp_eq (t := 41) dX9_faultOf_34 (by decide) hk0 hk1 (fun c7 => ?_) (fun c7 => ?_)
  · refine jr_iconst dX9_faultOf_41 ?_
    exact jj_X9_faultOf_B42 G (0 : Int) (jl_nlit rfl) s0
  · refine jr_iconst dX9_faultOf_37 ?_
    refine jr_goto (t := 42) dX9_faultOf_38 (by decide) ?_
    exact jj_X9_faultOf_B42 G (1 : Int) (jl_nlit rfl) s0
def jf_X9_faultOf_B25 (l2 : Int) (k0 : Int) (s0 : jl_Mm) : jl_O :=
  if l2 = (0 : Int) then (jf_X9_faultOf_B34 k0 (1 : Int) s0) else (jf_X9_faultOf_B34 k0 (0 : Int) s0)
set_option maxRecDepth 20000 in
set_option maxHeartbeats 2000000 in
theorem jj_X9_faultOf_B25 (G : jl_GC) (l2 : Int) (k0 : Int) (hl2 : jl_n3 l2) (hk0 : jl_n3 k0) (s0 : jl_Mm) : j2 G jM_X9_faultOf 25 [(2, jl_vi l2)] [jl_vi k0] s0 (jf_X9_faultOf_B25 l2 k0 s0) := by
  refine jr_iload_n dX9_faultOf_25 0 rfl ?_
  refine jr_if_ne (t := 33) dX9_faultOf_26 (by decide) hl2 (fun c6 => ?_) (fun c6 => ?_)
  · refine jr_iconst dX9_faultOf_29 ?_
    refine jr_goto (t := 34) dX9_faultOf_30 (by decide) ?_
    refine jr_sub [] rfl ?_
    exact jj_X9_faultOf_B34 G k0 (1 : Int) hk0 (jl_nlit rfl) s0
  · refine jr_iconst dX9_faultOf_33 ?_
    refine jr_sub [] rfl ?_
    exact jj_X9_faultOf_B34 G k0 (0 : Int) hk0 (jl_nlit rfl) s0
def jf_X9_faultOf (v1 : Int) (v2 : Int) (s0 : jl_Mm) : jl_O :=
  if (60 : Int) ≤ v2 then (jf_X9_faultOf_B14 s0) else (jl_bd (jf_X9_isTooMany v1 s0) fun r2 s3 => if r2 = (0 : Int) then (if v1 = (0 : Int) then (jf_X9_faultOf_B25 v2 (1 : Int) s3) else (jf_X9_faultOf_B25 v2 (0 : Int) s3)) else (jf_X9_faultOf_B14 s3))
set_option maxRecDepth 20000 in
set_option maxHeartbeats 2000000 in
theorem jt_X9_faultOf (G : jl_GC) (v1 : Int) (v2 : Int) (h1 : jl_n3 v1) (h2 : jl_n3 v2) (s0 : jl_Mm) : jC2 G jM_X9_faultOf [jl_vr G 39, jl_vi v1, jl_vi v2] s0 (jf_X9_faultOf v1 v2 s0) := by
  refine jl_met (plainFor_of_name rfl) (Nat.le_of_ble_eq_true rfl) ?_
  show j2 G jM_X9_faultOf 0 [(0, jl_vr G 39), (1, jl_vi v1), (2, jl_vi v2)] [] s0 _
  refine jr_iload_n dX9_faultOf_0 2 rfl ?_
  refine jr_bipush dX9_faultOf_1 (by decide) ?_
  refine jr_icmp_ge (t := 14) dX9_faultOf_3 (by decide) h2 (jl_nlit rfl) (fun c1 => ?_) (fun c1 => ?_)
  · refine jr_sub [] rfl ?_
    exact jj_X9_faultOf_B14 G s0
  · refine jr_aload_n dX9_faultOf_6 0 rfl ?_
    refine jr_iload_n dX9_faultOf_7 1 rfl ?_
    refine j2_callVz (As := [jl_vi v1]) dX9_faultOf_8 (jt_X9_isTooMany G v1 h1 s0) jv_X9_isTooMany ⟨rfl, rfl, rfl⟩ jw_599 jk_39 (by decide) (by decide) rfl ⟨Nat.le_of_ble_eq_true rfl, Nat.le_of_ble_eq_true rfl⟩ rfl (Nat.le_of_ble_eq_true rfl) (fun r2 s3 hr2 => ?_)
    refine jr_if_eq (t := 16) dX9_faultOf_11 (by decide) (jl_nz hr2) (fun c4 => ?_) (fun c4 => ?_)
    · refine jr_iload_n dX9_faultOf_16 1 rfl ?_
      refine jr_if_ne (t := 24) dX9_faultOf_17 (by decide) h1 (fun c5 => ?_) (fun c5 => ?_)
      · refine jr_iconst dX9_faultOf_20 ?_
        refine jr_goto (t := 25) dX9_faultOf_21 (by decide) ?_
        refine jr_sub [2] rfl ?_
        exact jj_X9_faultOf_B25 G v2 (1 : Int) h2 (jl_nlit rfl) s3
      · refine jr_iconst dX9_faultOf_24 ?_
        refine jr_sub [2] rfl ?_
        exact jj_X9_faultOf_B25 G v2 (0 : Int) h2 (jl_nlit rfl) s3
    · refine jr_sub [] rfl ?_
      exact jj_X9_faultOf_B14 G s3
def jf_X4_allow (v1 : Int) (v2 : Int) (s0 : jl_Mm) : jl_O :=
  if 0 ≤ s0 38 1 ∧ (jl_kd (jl_gr s0 38 1)).1 = 0 then jl_bd (jf_X0_start (jl_gr s0 38 1) v1 s0) fun r2 s3 => jl_lm (jl_up s3 38 2 v2) fun s4 => some (0, s4) else none
set_option maxRecDepth 20000 in
set_option maxHeartbeats 2000000 in
theorem jt_X4_allow (G : jl_GC) (v1 : Int) (v2 : Int) (h1 : jl_n3 v1) (h2 : jl_n3 v2) (s0 : jl_Mm) : jC2 G jM_X4_allow [jl_vr G 38, jl_vi v1, jl_vi v2] s0 (jf_X4_allow v1 v2 s0) := by
  refine jl_met (plainFor_of_name rfl) (Nat.le_of_ble_eq_true rfl) ?_
  show j2 G jM_X4_allow 0 [(0, jl_vr G 38), (1, jl_vi v1), (2, jl_vi v2)] [] s0 _
  refine jr_aload_n dX4_allow_0 0 rfl ?_
  refine jr_grd (fun g1 => ?_)
  refine jr_getr (i := 1) jc_4 jk_38 (by decide) (Nat.le_of_ble_eq_true rfl) jlk_38_1 jft_4_1 g1.1 jw_186 dX4_allow_1 ?_
  refine jr_iload_n dX4_allow_4 1 rfl ?_
  refine j2_callVv (As := [jl_vi v1]) dX4_allow_5 (jt_X0_start G (jl_gr s0 38 1) v1 h1 s0) jv_X0_start ⟨rfl, rfl, rfl⟩ jw_677 (jl_kd1 g1.2) (by decide) (jl_kdlt g1.2 (by decide)) rfl ⟨Nat.le_of_ble_eq_true rfl, Nat.le_of_ble_eq_true rfl⟩ rfl (Nat.le_of_ble_eq_true rfl) (fun r2 s3 hr2 => ?_)
  refine jr_aload_n dX4_allow_8 0 rfl ?_
  refine jr_iload_n dX4_allow_9 2 rfl ?_
  refine jr_puti (i := 2) jc_4 jk_38 (by decide) (Nat.le_of_ble_eq_true rfl) jlk_38_2 jft_4_2 rfl jw_187 rfl dX4_allow_10 ?_
  refine jr_lm (fun s4 => ?_)
  exact jr_ret_v rfl dX4_allow_13
def jf_X4_takeWord (v1 : Int) (s0 : jl_Mm) : jl_O :=
  jl_bd (jf_X4_peekWord s0) fun r1 s2 => if r1 = v1 then (jl_lm (jl_up s2 38 4 (jl_g s2 38 5)) fun s4 => jl_zb (1 : Int) s4) else (jl_zb (0 : Int) s2)
set_option maxRecDepth 20000 in
set_option maxHeartbeats 2000000 in
theorem jt_X4_takeWord (G : jl_GC) (v1 : Int) (h1 : jl_n3 v1) (s0 : jl_Mm) : jC2 G jM_X4_takeWord [jl_vr G 38, jl_vi v1] s0 (jf_X4_takeWord v1 s0) := by
  refine jl_met (plainFor_of_name rfl) (Nat.le_of_ble_eq_true rfl) ?_
  show j2 G jM_X4_takeWord 0 [(0, jl_vr G 38), (1, jl_vi v1)] [] s0 _
  refine jr_aload_n dX4_takeWord_0 0 rfl ?_
  refine j2_callVi (As := []) dX4_takeWord_1 (jt_X4_peekWord G s0) jv_X4_peekWord ⟨rfl, rfl, rfl⟩ jw_627 jk_38 (by decide) (by decide) rfl ⟨Nat.le_of_ble_eq_true rfl, Nat.le_of_ble_eq_true rfl⟩ rfl (Nat.le_of_ble_eq_true rfl) (fun r1 s2 hr1 => ?_)
  refine jr_iload_n dX4_takeWord_4 1 rfl ?_
  refine jr_icmp_eq (t := 10) dX4_takeWord_5 (by decide) hr1 h1 (fun c3 => ?_) (fun c3 => ?_)
  · refine jr_aload_n dX4_takeWord_10 0 rfl ?_
    refine jr_aload_n dX4_takeWord_11 0 rfl ?_
    refine jr_geti (i := 5) jc_4 jk_38 (by decide) (Nat.le_of_ble_eq_true rfl) jlk_38_5 jft_4_5 jw_191 dX4_takeWord_12 ?_
    refine jr_puti (i := 4) jc_4 jk_38 (by decide) (Nat.le_of_ble_eq_true rfl) jlk_38_4 jft_4_4 rfl jw_189 rfl dX4_takeWord_15 ?_
    refine jr_lm (fun s4 => ?_)
    refine jr_iconst dX4_takeWord_18 ?_
    exact jr_ret_z rfl dX4_takeWord_19
  · refine jr_iconst dX4_takeWord_8 ?_
    exact jr_ret_z rfl dX4_takeWord_9
def jf_X4_open (v1 : Int) (s0 : jl_Mm) : jl_O :=
  if jl_g s0 38 3 < (6 : Int) then (jl_lm (jl_up s0 38 3 (jl_add (jl_g s0 38 3) (1 : Int))) fun s2 => jl_lm (jl_up s2 38 4 v1) fun s3 => jl_zb (1 : Int) s3) else (jl_bd (jf_X4_fail (4 : Int) (jl_g s0 38 4) s0) fun r4 s5 => jl_zb (0 : Int) s5)
set_option maxRecDepth 20000 in
set_option maxHeartbeats 2000000 in
theorem jt_X4_open (G : jl_GC) (v1 : Int) (h1 : jl_n3 v1) (s0 : jl_Mm) : jC2 G jM_X4_open [jl_vr G 38, jl_vi v1] s0 (jf_X4_open v1 s0) := by
  refine jl_met (plainFor_of_name rfl) (Nat.le_of_ble_eq_true rfl) ?_
  show j2 G jM_X4_open 0 [(0, jl_vr G 38), (1, jl_vi v1)] [] s0 _
  refine jr_aload_n dX4_open_0 0 rfl ?_
  refine jr_geti (i := 3) jc_4 jk_38 (by decide) (Nat.le_of_ble_eq_true rfl) jlk_38_3 jft_4_3 jw_188 dX4_open_1 ?_
  refine jr_bipush dX4_open_4 (by decide) ?_
  refine jr_icmp_lt (t := 20) dX4_open_6 (by decide) (jl_n3_to _) (jl_nlit rfl) (fun c1 => ?_) (fun c1 => ?_)
  · refine jr_aload_n dX4_open_20 0 rfl ?_
    refine jr_dup dX4_open_21 rfl ?_
    refine jr_geti (i := 3) jc_4 jk_38 (by decide) (Nat.le_of_ble_eq_true rfl) jlk_38_3 jft_4_3 jw_188 dX4_open_22 ?_
    refine jr_iconst dX4_open_25 ?_
    refine jr_iadd dX4_open_26 ?_
    refine jr_puti (i := 3) jc_4 jk_38 (by decide) (Nat.le_of_ble_eq_true rfl) jlk_38_3 jft_4_3 rfl jw_188 rfl dX4_open_27 ?_
    refine jr_lm (fun s2 => ?_)
    refine jr_aload_n dX4_open_30 0 rfl ?_
    refine jr_iload_n dX4_open_31 1 rfl ?_
    refine jr_puti (i := 4) jc_4 jk_38 (by decide) (Nat.le_of_ble_eq_true rfl) jlk_38_4 jft_4_4 rfl jw_189 rfl dX4_open_32 ?_
    refine jr_lm (fun s3 => ?_)
    refine jr_iconst dX4_open_35 ?_
    exact jr_ret_z rfl dX4_open_36
  · refine jr_aload_n dX4_open_9 0 rfl ?_
    refine jr_iconst dX4_open_10 ?_
    refine jr_aload_n dX4_open_11 0 rfl ?_
    refine jr_geti (i := 4) jc_4 jk_38 (by decide) (Nat.le_of_ble_eq_true rfl) jlk_38_4 jft_4_4 jw_189 dX4_open_12 ?_
    refine j2_callVv (As := [jl_vi (4 : Int), jl_vi (jl_g s0 38 4)]) dX4_open_15 (jt_X4_fail G (4 : Int) (jl_g s0 38 4) (jl_nlit rfl) (jl_n3_to _) s0) jv_X4_fail ⟨rfl, rfl, rfl⟩ jw_618 jk_38 (by decide) (by decide) rfl ⟨Nat.le_of_ble_eq_true rfl, Nat.le_of_ble_eq_true rfl⟩ rfl (Nat.le_of_ble_eq_true rfl) (fun r4 s5 hr4 => ?_)
    refine jr_iconst dX4_open_18 ?_
    exact jr_ret_z rfl dX4_open_19
def jf_X4_isDigit_B17 (k0 : Int) (s0 : jl_Mm) : jl_O :=
  jl_zb k0 s0
set_option maxRecDepth 20000 in
set_option maxHeartbeats 2000000 in
theorem jj_X4_isDigit_B17 (G : jl_GC) (k0 : Int) (hk0 : jl_n3 k0) (s0 : jl_Mm) : j2 G jM_X4_isDigit 17 [] [jl_vi k0] s0 (jf_X4_isDigit_B17 k0 s0) := by
  exact jr_ret_z rfl dX4_isDigit_17
def jf_X4_isDigit_B16 (s0 : jl_Mm) : jl_O :=
  jf_X4_isDigit_B17 (0 : Int) s0
set_option maxRecDepth 20000 in
set_option maxHeartbeats 2000000 in
theorem jj_X4_isDigit_B16 (G : jl_GC) (s0 : jl_Mm) : j2 G jM_X4_isDigit 16 [] [] s0 (jf_X4_isDigit_B16 s0) := by
  refine jr_iconst dX4_isDigit_16 ?_
  exact jj_X4_isDigit_B17 G (0 : Int) (jl_nlit rfl) s0
def jf_X4_isDigit (v1 : Int) (s0 : jl_Mm) : jl_O :=
  if v1 < (48 : Int) then (jf_X4_isDigit_B16 s0) else (if (57 : Int) < v1 then (jf_X4_isDigit_B16 s0) else (jf_X4_isDigit_B17 (1 : Int) s0))
set_option maxRecDepth 20000 in
set_option maxHeartbeats 2000000 in
theorem jt_X4_isDigit (G : jl_GC) (v1 : Int) (h1 : jl_n3 v1) (s0 : jl_Mm) : jC2 G jM_X4_isDigit [jl_vi v1] s0 (jf_X4_isDigit v1 s0) := by
  refine jl_met (plainFor_of_name rfl) (Nat.le_of_ble_eq_true rfl) ?_
  show j2 G jM_X4_isDigit 0 [(0, jl_vi v1)] [] s0 _
  refine jr_iload_n dX4_isDigit_0 0 rfl ?_
  refine jr_bipush dX4_isDigit_1 (by decide) ?_
  refine jr_icmp_lt (t := 16) dX4_isDigit_3 (by decide) h1 (jl_nlit rfl) (fun c1 => ?_) (fun c1 => ?_)
  · refine jr_sub [] rfl ?_
    exact jj_X4_isDigit_B16 G s0
  · refine jr_iload_n dX4_isDigit_6 0 rfl ?_
    refine jr_bipush dX4_isDigit_7 (by decide) ?_
    refine jr_icmp_gt (t := 16) dX4_isDigit_9 (by decide) h1 (jl_nlit rfl) (fun c2 => ?_) (fun c2 => ?_)
    · refine jr_sub [] rfl ?_
      exact jj_X4_isDigit_B16 G s0
    · refine jr_iconst dX4_isDigit_12 ?_
      refine jr_goto (t := 17) dX4_isDigit_13 (by decide) ?_
      refine jr_sub [] rfl ?_
      exact jj_X4_isDigit_B17 G (1 : Int) (jl_nlit rfl) s0
def jf_X4_takeNumber_B29 (l1 : Int) (s0 : jl_Mm) : jl_O :=
  jl_bd (jf_X4_fail (1 : Int) (jl_g s0 38 4) s0) fun r6 s7 => some (l1, s7)
set_option maxRecDepth 20000 in
set_option maxHeartbeats 2000000 in
theorem jj_X4_takeNumber_B29 (G : jl_GC) (l1 : Int) (hl1 : jl_n3 l1) (s0 : jl_Mm) : j2 G jM_X4_takeNumber 29 [(0, jl_vr G 38), (1, jl_vi l1)] [] s0 (jf_X4_takeNumber_B29 l1 s0) := by
  refine jr_aload_n dX4_takeNumber_29 0 rfl ?_
  refine jr_iconst dX4_takeNumber_30 ?_
  refine jr_aload_n dX4_takeNumber_31 0 rfl ?_
  refine jr_geti (i := 4) jc_4 jk_38 (by decide) (Nat.le_of_ble_eq_true rfl) jlk_38_4 jft_4_4 jw_189 dX4_takeNumber_32 ?_
  refine j2_callVv (As := [jl_vi (1 : Int), jl_vi (jl_g s0 38 4)]) dX4_takeNumber_35 (jt_X4_fail G (1 : Int) (jl_g s0 38 4) (jl_nlit rfl) (jl_n3_to _) s0) jv_X4_fail ⟨rfl, rfl, rfl⟩ jw_618 jk_38 (by decide) (by decide) rfl ⟨Nat.le_of_ble_eq_true rfl, Nat.le_of_ble_eq_true rfl⟩ rfl (Nat.le_of_ble_eq_true rfl) (fun r6 s7 hr6 => ?_)
  refine jr_iload_n dX4_takeNumber_38 1 rfl ?_
  exact jr_ret_i rfl hl1 dX4_takeNumber_39
def jf_X4_takeNumber_B152 (l1 : Int) (l3 : Int) (s0 : jl_Mm) : jl_O :=
  jl_bd (jf_X4_fail (2 : Int) l3 s0) fun r21 s22 => some (l1, s22)
set_option maxRecDepth 20000 in
set_option maxHeartbeats 2000000 in
theorem jj_X4_takeNumber_B152 (G : jl_GC) (l1 : Int) (l3 : Int) (hl1 : jl_n3 l1) (hl3 : jl_n3 l3) (s0 : jl_Mm) : j2 G jM_X4_takeNumber 152 [(0, jl_vr G 38), (1, jl_vi l1), (3, jl_vi l3)] [] s0 (jf_X4_takeNumber_B152 l1 l3 s0) := by
  refine jr_aload_n dX4_takeNumber_152 0 rfl ?_
  refine jr_iconst dX4_takeNumber_153 ?_
  refine jr_iload_n dX4_takeNumber_154 2 rfl ?_
  refine j2_callVv (As := [jl_vi (2 : Int), jl_vi l3]) dX4_takeNumber_155 (jt_X4_fail G (2 : Int) l3 (jl_nlit rfl) hl3 s0) jv_X4_fail ⟨rfl, rfl, rfl⟩ jw_618 jk_38 (by decide) (by decide) rfl ⟨Nat.le_of_ble_eq_true rfl, Nat.le_of_ble_eq_true rfl⟩ rfl (Nat.le_of_ble_eq_true rfl) (fun r21 s22 hr21 => ?_)
  refine jr_iload_n dX4_takeNumber_158 1 rfl ?_
  exact jr_ret_i rfl hl1 dX4_takeNumber_159
def jf_X4_takeNumber_B112 (l1 : Int) (l2 : Int) (l3 : Int) (l4 : Int) (s0 : jl_Mm) : jl_O :=
  jl_bd (jf_X10_byteAt (jl_g s0 38 4) s0) fun r15 s16 => jl_bd (jf_X4_isDigit r15 s16) fun r17 s18 => if r17 = (0 : Int) then (if l4 < l1 then (jf_X4_takeNumber_B152 l1 l3 s18) else (if l4 ≤ l2 then (some (l4, s18)) else (jf_X4_takeNumber_B152 l1 l3 s18))) else (jl_bd (jf_X4_fail (1 : Int) (jl_g s18 38 4) s18) fun r24 s25 => some (l1, s25))
set_option maxRecDepth 20000 in
set_option maxHeartbeats 2000000 in
theorem jj_X4_takeNumber_B112 (G : jl_GC) (l1 : Int) (l2 : Int) (l3 : Int) (l4 : Int) (hl1 : jl_n3 l1) (hl2 : jl_n3 l2) (hl3 : jl_n3 l3) (hl4 : jl_n3 l4) (s0 : jl_Mm) : j2 G jM_X4_takeNumber 112 [(0, jl_vr G 38), (1, jl_vi l1), (2, jl_vi l2), (3, jl_vi l3), (4, jl_vi l4)] [] s0 (jf_X4_takeNumber_B112 l1 l2 l3 l4 s0) := by
  refine jr_aload_n dX4_takeNumber_112 0 rfl ?_
  refine jr_getk (i := 0) jc_4 jk_38 (by decide) (Nat.le_of_ble_eq_true rfl) jlk_38_0 jw_185 dX4_takeNumber_113 ?_
  refine jr_aload_n dX4_takeNumber_116 0 rfl ?_
  refine jr_geti (i := 4) jc_4 jk_38 (by decide) (Nat.le_of_ble_eq_true rfl) jlk_38_4 jft_4_4 jw_189 dX4_takeNumber_117 ?_
  refine j2_callVi (As := [jl_vi (jl_g s0 38 4)]) dX4_takeNumber_120 (jt_X10_byteAt G (jl_g s0 38 4) (jl_n3_to _) s0) jv_X10_byteAt ⟨rfl, rfl, rfl⟩ jw_535 jk_1 (by decide) (by decide) rfl ⟨Nat.le_of_ble_eq_true rfl, Nat.le_of_ble_eq_true rfl⟩ rfl (Nat.le_of_ble_eq_true rfl) (fun r15 s16 hr15 => ?_)
  refine j2_callSz (As := [jl_vi r15]) dX4_takeNumber_123 (jt_X4_isDigit G r15 hr15 s16) jv_X4_isDigit ⟨rfl, rfl, rfl⟩ jw_615 ⟨Nat.le_of_ble_eq_true rfl, Nat.le_of_ble_eq_true rfl⟩ rfl (Nat.le_of_ble_eq_true rfl) (fun r17 s18 hr17 => ?_)
  refine jr_if_eq (t := 140) dX4_takeNumber_126 (by decide) (jl_nz hr17) (fun c19 => ?_) (fun c19 => ?_)
  · refine jr_iload dX4_takeNumber_140 4 rfl ?_
    refine jr_iload_n dX4_takeNumber_142 1 rfl ?_
    refine jr_icmp_lt (t := 152) dX4_takeNumber_143 (by decide) hl4 hl1 (fun c20 => ?_) (fun c20 => ?_)
    · refine jr_sub [0, 1, 3] rfl ?_
      exact jj_X4_takeNumber_B152 G l1 l3 hl1 hl3 s18
    · refine jr_iload dX4_takeNumber_146 4 rfl ?_
      refine jr_iload_n dX4_takeNumber_148 2 rfl ?_
      refine jr_icmp_le (t := 160) dX4_takeNumber_149 (by decide) hl4 hl2 (fun c23 => ?_) (fun c23 => ?_)
      · refine jr_iload dX4_takeNumber_160 4 rfl ?_
        exact jr_ret_i rfl hl4 dX4_takeNumber_162
      · refine jr_sub [0, 1, 3] rfl ?_
        exact jj_X4_takeNumber_B152 G l1 l3 hl1 hl3 s18
  · refine jr_aload_n dX4_takeNumber_129 0 rfl ?_
    refine jr_iconst dX4_takeNumber_130 ?_
    refine jr_aload_n dX4_takeNumber_131 0 rfl ?_
    refine jr_geti (i := 4) jc_4 jk_38 (by decide) (Nat.le_of_ble_eq_true rfl) jlk_38_4 jft_4_4 jw_189 dX4_takeNumber_132 ?_
    refine j2_callVv (As := [jl_vi (1 : Int), jl_vi (jl_g s18 38 4)]) dX4_takeNumber_135 (jt_X4_fail G (1 : Int) (jl_g s18 38 4) (jl_nlit rfl) (jl_n3_to _) s18) jv_X4_fail ⟨rfl, rfl, rfl⟩ jw_618 jk_38 (by decide) (by decide) rfl ⟨Nat.le_of_ble_eq_true rfl, Nat.le_of_ble_eq_true rfl⟩ rfl (Nat.le_of_ble_eq_true rfl) (fun r24 s25 hr24 => ?_)
    refine jr_iload_n dX4_takeNumber_138 1 rfl ?_
    exact jr_ret_i rfl hl1 dX4_takeNumber_139
def jf_X4_takeNumber_L51 : Nat → Int → Int → Int → Int → Int → jl_Mm → jl_O
  | 0, _, _, _, _, _, _ => none
  | n + 1, l1, l2, l3, l4, l5, s0 =>
    if (4 : Int) ≤ l5 then (jf_X4_takeNumber_B112 l1 l2 l3 l4 s0) else (jl_bd (jf_X10_byteAt (jl_g s0 38 4) s0) fun r26 s27 => jl_bd (jf_X4_isDigit r26 s27) fun r28 s29 => if r28 = (0 : Int) then (jf_X4_takeNumber_B112 l1 l2 l3 l4 s29) else (jl_bd (jf_X10_byteAt (jl_g s29 38 4) s29) fun r31 s32 => jl_let (jl_sub (jl_add (jl_mul (10 : Int) l4) r31) (48 : Int)) fun x33 => jl_lm (jl_up s32 38 4 (jl_add (jl_g s32 38 4) (1 : Int))) fun s34 => jf_X4_takeNumber_L51 n l1 l2 l3 x33 (jl_add l5 1) s34))
set_option maxRecDepth 20000 in
set_option maxHeartbeats 2000000 in
theorem jj_X4_takeNumber_L51 (G : jl_GC) : ∀ (n : Nat) (l1 : Int) (l2 : Int) (l3 : Int) (l4 : Int) (l5 : Int) (hl1 : jl_n3 l1) (hl2 : jl_n3 l2) (hl3 : jl_n3 l3) (hl4 : jl_n3 l4) (hl5 : jl_n3 l5) (s0 : jl_Mm), j2 G jM_X4_takeNumber 51 [(0, jl_vr G 38), (1, jl_vi l1), (2, jl_vi l2), (3, jl_vi l3), (4, jl_vi l4), (5, jl_vi l5)] [] s0 (jf_X4_takeNumber_L51 n l1 l2 l3 l4 l5 s0) := by
  intro n
  induction n with
  | zero =>
    intros
    exact jr_none
  | succ n ih =>
    intro l1 l2 l3 l4 l5 hl1 hl2 hl3 hl4 hl5 s0
    refine jr_iload dX4_takeNumber_51 5 rfl ?_
    refine jr_iconst dX4_takeNumber_53 ?_
    refine jr_icmp_ge (t := 112) dX4_takeNumber_54 (by decide) hl5 (jl_nlit rfl) (fun c14 => ?_) (fun c14 => ?_)
    · refine jr_sub [0, 1, 2, 3, 4] rfl ?_
      exact jj_X4_takeNumber_B112 G l1 l2 l3 l4 hl1 hl2 hl3 hl4 s0
    · refine jr_aload_n dX4_takeNumber_57 0 rfl ?_
      refine jr_getk (i := 0) jc_4 jk_38 (by decide) (Nat.le_of_ble_eq_true rfl) jlk_38_0 jw_185 dX4_takeNumber_58 ?_
      refine jr_aload_n dX4_takeNumber_61 0 rfl ?_
      refine jr_geti (i := 4) jc_4 jk_38 (by decide) (Nat.le_of_ble_eq_true rfl) jlk_38_4 jft_4_4 jw_189 dX4_takeNumber_62 ?_
      refine j2_callVi (As := [jl_vi (jl_g s0 38 4)]) dX4_takeNumber_65 (jt_X10_byteAt G (jl_g s0 38 4) (jl_n3_to _) s0) jv_X10_byteAt ⟨rfl, rfl, rfl⟩ jw_535 jk_1 (by decide) (by decide) rfl ⟨Nat.le_of_ble_eq_true rfl, Nat.le_of_ble_eq_true rfl⟩ rfl (Nat.le_of_ble_eq_true rfl) (fun r26 s27 hr26 => ?_)
      refine j2_callSz (As := [jl_vi r26]) dX4_takeNumber_68 (jt_X4_isDigit G r26 hr26 s27) jv_X4_isDigit ⟨rfl, rfl, rfl⟩ jw_615 ⟨Nat.le_of_ble_eq_true rfl, Nat.le_of_ble_eq_true rfl⟩ rfl (Nat.le_of_ble_eq_true rfl) (fun r28 s29 hr28 => ?_)
      refine jr_if_eq (t := 112) dX4_takeNumber_71 (by decide) (jl_nz hr28) (fun c30 => ?_) (fun c30 => ?_)
      · refine jr_sub [0, 1, 2, 3, 4] rfl ?_
        exact jj_X4_takeNumber_B112 G l1 l2 l3 l4 hl1 hl2 hl3 hl4 s29
      · refine jr_bipush dX4_takeNumber_74 (by decide) ?_
        refine jr_iload dX4_takeNumber_76 4 rfl ?_
        refine jr_imul dX4_takeNumber_78 ?_
        refine jr_aload_n dX4_takeNumber_79 0 rfl ?_
        refine jr_getk (i := 0) jc_4 jk_38 (by decide) (Nat.le_of_ble_eq_true rfl) jlk_38_0 jw_185 dX4_takeNumber_80 ?_
        refine jr_aload_n dX4_takeNumber_83 0 rfl ?_
        refine jr_geti (i := 4) jc_4 jk_38 (by decide) (Nat.le_of_ble_eq_true rfl) jlk_38_4 jft_4_4 jw_189 dX4_takeNumber_84 ?_
        refine j2_callVi (As := [jl_vi (jl_g s29 38 4)]) dX4_takeNumber_87 (jt_X10_byteAt G (jl_g s29 38 4) (jl_n3_to _) s29) jv_X10_byteAt ⟨rfl, rfl, rfl⟩ jw_535 jk_1 (by decide) (by decide) rfl ⟨Nat.le_of_ble_eq_true rfl, Nat.le_of_ble_eq_true rfl⟩ rfl (Nat.le_of_ble_eq_true rfl) (fun r31 s32 hr31 => ?_)
        refine jr_iadd dX4_takeNumber_90 ?_
        refine jr_bipush dX4_takeNumber_91 (by decide) ?_
        refine jr_isub dX4_takeNumber_93 ?_
        refine jr_let (jl_n3_to _) (fun x33 hx33 => ?_)
        refine jr_istore (lv := [(4, jl_vi x33), (0, jl_vr G 38), (1, jl_vi l1), (2, jl_vi l2), (3, jl_vi l3), (5, jl_vi l5)]) dX4_takeNumber_94 (Nat.le_of_ble_eq_true rfl) rfl ?_
        refine jr_aload_n dX4_takeNumber_96 1 rfl ?_
        refine jr_dup dX4_takeNumber_97 rfl ?_
        refine jr_geti (i := 4) jc_4 jk_38 (by decide) (Nat.le_of_ble_eq_true rfl) jlk_38_4 jft_4_4 jw_189 dX4_takeNumber_98 ?_
        refine jr_iconst dX4_takeNumber_101 ?_
        refine jr_iadd dX4_takeNumber_102 ?_
        refine jr_puti (i := 4) jc_4 jk_38 (by decide) (Nat.le_of_ble_eq_true rfl) jlk_38_4 jft_4_4 rfl jw_189 rfl dX4_takeNumber_103 ?_
        refine jr_lm (fun s34 => ?_)
        refine jr_iinc (j := 5) (lv := [(5, jl_vi (jl_add l5 1)), (4, jl_vi x33), (0, jl_vr G 38), (1, jl_vi l1), (2, jl_vi l2), (3, jl_vi l3)]) dX4_takeNumber_106 rfl (Nat.le_of_ble_eq_true rfl) rfl ?_
        refine jr_goto (t := 51) dX4_takeNumber_109 (by decide) ?_
        refine jr_sub [2, 3, 4, 5, 1, 0] rfl ?_
        exact ih l1 l2 l3 x33 (jl_add l5 1) hl1 hl2 hl3 hx33 (jl_n3_to _) s34
def jf_X4_takeNumber (v1 : Int) (v2 : Int) (s0 : jl_Mm) : jl_O :=
  jl_bd (jf_X4_peek s0) fun r1 s2 => jl_bd (jf_X4_isDigit r1 s2) fun r3 s4 => if r3 = (0 : Int) then (jf_X4_takeNumber_B29 v1 s4) else (jl_bd (jf_X10_byteAt (jl_sub (jl_g s4 38 4) (1 : Int)) s4) fun r8 s9 => jl_bd (jf_X4_isInWord r8 s9) fun r10 s11 => if r10 = (0 : Int) then (jl_let (jl_g s11 38 4) fun x13 => jf_X4_takeNumber_L51 jl_fu v1 v2 x13 (0 : Int) (0 : Int) s11) else (jf_X4_takeNumber_B29 v1 s11))
set_option maxRecDepth 20000 in
set_option maxHeartbeats 2000000 in
theorem jt_X4_takeNumber (G : jl_GC) (v1 : Int) (v2 : Int) (h1 : jl_n3 v1) (h2 : jl_n3 v2) (s0 : jl_Mm) : jC2 G jM_X4_takeNumber [jl_vr G 38, jl_vi v1, jl_vi v2] s0 (jf_X4_takeNumber v1 v2 s0) := by
  refine jl_met (plainFor_of_name rfl) (Nat.le_of_ble_eq_true rfl) ?_
  show j2 G jM_X4_takeNumber 0 [(0, jl_vr G 38), (1, jl_vi v1), (2, jl_vi v2)] [] s0 _
  refine jr_aload_n dX4_takeNumber_0 0 rfl ?_
  refine j2_callVi (As := []) dX4_takeNumber_1 (jt_X4_peek G s0) jv_X4_peek ⟨rfl, rfl, rfl⟩ jw_531 jk_38 (by decide) (by decide) rfl ⟨Nat.le_of_ble_eq_true rfl, Nat.le_of_ble_eq_true rfl⟩ rfl (Nat.le_of_ble_eq_true rfl) (fun r1 s2 hr1 => ?_)
  refine j2_callSz (As := [jl_vi r1]) dX4_takeNumber_4 (jt_X4_isDigit G r1 hr1 s2) jv_X4_isDigit ⟨rfl, rfl, rfl⟩ jw_615 ⟨Nat.le_of_ble_eq_true rfl, Nat.le_of_ble_eq_true rfl⟩ rfl (Nat.le_of_ble_eq_true rfl) (fun r3 s4 hr3 => ?_)
  refine jr_if_eq (t := 29) dX4_takeNumber_7 (by decide) (jl_nz hr3) (fun c5 => ?_) (fun c5 => ?_)
  · refine jr_sub [0, 1] rfl ?_
    exact jj_X4_takeNumber_B29 G v1 h1 s4
  · refine jr_aload_n dX4_takeNumber_10 0 rfl ?_
    refine jr_getk (i := 0) jc_4 jk_38 (by decide) (Nat.le_of_ble_eq_true rfl) jlk_38_0 jw_185 dX4_takeNumber_11 ?_
    refine jr_aload_n dX4_takeNumber_14 0 rfl ?_
    refine jr_geti (i := 4) jc_4 jk_38 (by decide) (Nat.le_of_ble_eq_true rfl) jlk_38_4 jft_4_4 jw_189 dX4_takeNumber_15 ?_
    refine jr_iconst dX4_takeNumber_18 ?_
    refine jr_isub dX4_takeNumber_19 ?_
    refine j2_callVi (As := [jl_vi (jl_sub (jl_g s4 38 4) (1 : Int))]) dX4_takeNumber_20 (jt_X10_byteAt G (jl_sub (jl_g s4 38 4) (1 : Int)) (jl_n3_to _) s4) jv_X10_byteAt ⟨rfl, rfl, rfl⟩ jw_535 jk_1 (by decide) (by decide) rfl ⟨Nat.le_of_ble_eq_true rfl, Nat.le_of_ble_eq_true rfl⟩ rfl (Nat.le_of_ble_eq_true rfl) (fun r8 s9 hr8 => ?_)
    refine j2_callSz (As := [jl_vi r8]) dX4_takeNumber_23 (jt_X4_isInWord G r8 hr8 s9) jv_X4_isInWord ⟨rfl, rfl, rfl⟩ jw_539 ⟨Nat.le_of_ble_eq_true rfl, Nat.le_of_ble_eq_true rfl⟩ rfl (Nat.le_of_ble_eq_true rfl) (fun r10 s11 hr10 => ?_)
    refine jr_if_eq (t := 40) dX4_takeNumber_26 (by decide) (jl_nz hr10) (fun c12 => ?_) (fun c12 => ?_)
    · refine jr_aload_n dX4_takeNumber_40 0 rfl ?_
      refine jr_geti (i := 4) jc_4 jk_38 (by decide) (Nat.le_of_ble_eq_true rfl) jlk_38_4 jft_4_4 jw_189 dX4_takeNumber_41 ?_
      refine jr_let (jl_n3_to _) (fun x13 hx13 => ?_)
      refine jr_istore_n (lv := [(3, jl_vi x13), (0, jl_vr G 38), (1, jl_vi v1), (2, jl_vi v2)]) dX4_takeNumber_44 rfl (Nat.le_of_ble_eq_true rfl) rfl ?_
      refine jr_iconst dX4_takeNumber_45 ?_
      refine jr_istore (lv := [(4, jl_vi (0 : Int)), (3, jl_vi x13), (0, jl_vr G 38), (1, jl_vi v1), (2, jl_vi v2)]) dX4_takeNumber_46 (Nat.le_of_ble_eq_true rfl) rfl ?_
      refine jr_iconst dX4_takeNumber_48 ?_
      refine jr_istore (lv := [(5, jl_vi (0 : Int)), (4, jl_vi (0 : Int)), (3, jl_vi x13), (0, jl_vr G 38), (1, jl_vi v1), (2, jl_vi v2)]) dX4_takeNumber_49 (Nat.le_of_ble_eq_true rfl) rfl ?_
      refine jr_sub [3, 4, 5, 2, 1, 0] rfl ?_
      exact jj_X4_takeNumber_L51 G jl_fu v1 v2 x13 (0 : Int) (0 : Int) h1 h2 hx13 (jl_nlit rfl) (jl_nlit rfl) s11
    · refine jr_sub [0, 1] rfl ?_
      exact jj_X4_takeNumber_B29 G v1 h1 s11
def jf_X4_test_B41 (rc : Nat → Int → jl_Mm → jl_O) (s0 : jl_Mm) : jl_O :=
  some (0, s0)
set_option maxRecDepth 20000 in
set_option maxHeartbeats 2000000 in
theorem jj_X4_test_B41 (G : jl_GC) (d : Nat) (rc : Nat → Int → jl_Mm → jl_O) (hrc : jl_grp G d rc) (s0 : jl_Mm) : j2 G (jM_X4_test (d + 1)) 41 [] [] s0 (jf_X4_test_B41 rc s0) := by
  exact jr_ret_v rfl dX4_test_41
def jf_X4_test_L6 (rc : Nat → Int → jl_Mm → jl_O) : Nat → Int → jl_Mm → jl_O
  | 0, _, _ => none
  | n + 1, l1, s0 =>
    if (1600 : Int) ≤ l1 then (jf_X4_test_B41 rc s0) else (jl_bd (jf_X4_takeWord (26 : Int) s0) fun r4 s5 => if r4 = (0 : Int) then (jf_X4_test_B41 rc s5) else (jl_bd (rc 1 0 s5) fun r7 s8 => if 0 ≤ s8 38 1 ∧ (jl_kd (jl_gr s8 38 1)).1 = 0 then jl_bd (jf_X0_putWord (jl_gr s8 38 1) (26 : Int) s8) fun r10 s11 => jf_X4_test_L6 rc n (jl_add l1 1) s11 else none))
set_option maxRecDepth 20000 in
set_option maxHeartbeats 2000000 in
theorem jj_X4_test_L6 (G : jl_GC) (d : Nat) (rc : Nat → Int → jl_Mm → jl_O) (hrc : jl_grp G d rc) : ∀ (n : Nat) (l1 : Int) (hl1 : jl_n3 l1) (s0 : jl_Mm), j2 G (jM_X4_test (d + 1)) 6 [(0, jl_vr G 38), (1, jl_vi l1)] [] s0 (jf_X4_test_L6 rc n l1 s0) := by
  intro n
  induction n with
  | zero =>
    intros
    exact jr_none
  | succ n ih =>
    intro l1 hl1 s0
    refine jr_iload_n dX4_test_6 1 rfl ?_
    refine jr_sipush dX4_test_7 (by decide) ?_
    refine jr_icmp_ge (t := 41) dX4_test_10 (by decide) hl1 (jl_nlit rfl) (fun c3 => ?_) (fun c3 => ?_)
    · refine jr_sub [] rfl ?_
      exact jj_X4_test_B41 G d rc hrc s0
    · refine jr_aload_n dX4_test_13 0 rfl ?_
      refine jr_bipush dX4_test_14 (by decide) ?_
      refine j2_callVz (As := [jl_vi (26 : Int)]) dX4_test_16 (jt_X4_takeWord G (26 : Int) (jl_nlit rfl) s0) jv_X4_takeWord ⟨rfl, rfl, rfl⟩ jw_735 jk_38 (by decide) (by decide) rfl ⟨by simp only [jM_X4_test, jM_X4_takeWord]; omega, by simp only [jM_X4_test, jM_X4_takeWord]; omega⟩ rfl (Nat.le_of_ble_eq_true rfl) (fun r4 s5 hr4 => ?_)
      refine jr_if_eq (t := 41) dX4_test_19 (by decide) (jl_nz hr4) (fun c6 => ?_) (fun c6 => ?_)
      · refine jr_sub [] rfl ?_
        exact jj_X4_test_B41 G d rc hrc s5
      · refine jr_aload_n dX4_test_22 0 rfl ?_
        refine j2_callVv (As := []) dX4_test_23 (hrc.2.1 s5) (jv_X4_both d) ⟨rfl, rfl, rfl⟩ jw_726 jk_38 (by decide) (by decide) rfl ⟨by simp only [jM_X4_test, jM_X4_both]; omega, by simp only [jM_X4_test, jM_X4_both]; omega⟩ rfl (Nat.le_of_ble_eq_true rfl) (fun r7 s8 hr7 => ?_)
        refine jr_aload_n dX4_test_26 0 rfl ?_
        refine jr_grd (fun g9 => ?_)
        refine jr_getr (i := 1) jc_4 jk_38 (by decide) (Nat.le_of_ble_eq_true rfl) jlk_38_1 jft_4_1 g9.1 jw_186 dX4_test_27 ?_
        refine jr_bipush dX4_test_30 (by decide) ?_
        refine j2_callVv (As := [jl_vi (26 : Int)]) dX4_test_32 (jt_X0_putWord G (jl_gr s8 38 1) (26 : Int) (jl_nlit rfl) s8) jv_X0_putWord ⟨rfl, rfl, rfl⟩ jw_715 (jl_kd1 g9.2) (by decide) (jl_kdlt g9.2 (by decide)) rfl ⟨by simp only [jM_X4_test, jM_X0_putWord]; omega, by simp only [jM_X4_test, jM_X0_putWord]; omega⟩ rfl (Nat.le_of_ble_eq_true rfl) (fun r10 s11 hr10 => ?_)
        refine jr_iinc (j := 1) (lv := [(1, jl_vi (jl_add l1 1)), (0, jl_vr G 38)]) dX4_test_35 rfl (Nat.le_of_ble_eq_true rfl) rfl ?_
        refine jr_goto (t := 6) dX4_test_38 (by decide) ?_
        refine jr_sub [1, 0] rfl ?_
        exact ih (jl_add l1 1) (jl_n3_to _) s11
def jf_X4_test (rc : Nat → Int → jl_Mm → jl_O) (s0 : jl_Mm) : jl_O :=
  jl_bd (rc 1 0 s0) fun r1 s2 => jf_X4_test_L6 rc jl_fu (0 : Int) s2
set_option maxRecDepth 20000 in
set_option maxHeartbeats 2000000 in
theorem jt_X4_test (G : jl_GC) (d : Nat) (rc : Nat → Int → jl_Mm → jl_O) (hrc : jl_grp G d rc) (s0 : jl_Mm) : jC2 G (jM_X4_test (d + 1)) [jl_vr G 38] s0 (jf_X4_test rc s0) := by
  refine jl_met (plainFor_of_name rfl) (Nat.le_of_ble_eq_true rfl) ?_
  show j2 G (jM_X4_test (d + 1)) 0 [(0, jl_vr G 38)] [] s0 _
  refine jr_aload_n dX4_test_0 0 rfl ?_
  refine j2_callVv (As := []) dX4_test_1 (hrc.2.1 s0) (jv_X4_both d) ⟨rfl, rfl, rfl⟩ jw_726 jk_38 (by decide) (by decide) rfl ⟨by simp only [jM_X4_test, jM_X4_both]; omega, by simp only [jM_X4_test, jM_X4_both]; omega⟩ rfl (Nat.le_of_ble_eq_true rfl) (fun r1 s2 hr1 => ?_)
  refine jr_iconst dX4_test_4 ?_
  refine jr_istore_n (lv := [(1, jl_vi (0 : Int)), (0, jl_vr G 38)]) dX4_test_5 rfl (Nat.le_of_ble_eq_true rfl) rfl ?_
  refine jr_sub [1, 0] rfl ?_
  exact jj_X4_test_L6 G d rc hrc jl_fu (0 : Int) (jl_nlit rfl) s2
def jf_X4_both_B41 (rc : Nat → Int → jl_Mm → jl_O) (s0 : jl_Mm) : jl_O :=
  some (0, s0)
set_option maxRecDepth 20000 in
set_option maxHeartbeats 2000000 in
theorem jj_X4_both_B41 (G : jl_GC) (d : Nat) (rc : Nat → Int → jl_Mm → jl_O) (hrc : jl_grp G d rc) (s0 : jl_Mm) : j2 G (jM_X4_both (d + 1)) 41 [] [] s0 (jf_X4_both_B41 rc s0) := by
  exact jr_ret_v rfl dX4_both_41
def jf_X4_both_L6 (rc : Nat → Int → jl_Mm → jl_O) : Nat → Int → jl_Mm → jl_O
  | 0, _, _ => none
  | n + 1, l1, s0 =>
    if (1600 : Int) ≤ l1 then (jf_X4_both_B41 rc s0) else (jl_bd (jf_X4_takeWord (27 : Int) s0) fun r4 s5 => if r4 = (0 : Int) then (jf_X4_both_B41 rc s5) else (jl_bd (rc 2 0 s5) fun r7 s8 => if 0 ≤ s8 38 1 ∧ (jl_kd (jl_gr s8 38 1)).1 = 0 then jl_bd (jf_X0_putWord (jl_gr s8 38 1) (27 : Int) s8) fun r10 s11 => jf_X4_both_L6 rc n (jl_add l1 1) s11 else none))
set_option maxRecDepth 20000 in
set_option maxHeartbeats 2000000 in
theorem jj_X4_both_L6 (G : jl_GC) (d : Nat) (rc : Nat → Int → jl_Mm → jl_O) (hrc : jl_grp G d rc) : ∀ (n : Nat) (l1 : Int) (hl1 : jl_n3 l1) (s0 : jl_Mm), j2 G (jM_X4_both (d + 1)) 6 [(0, jl_vr G 38), (1, jl_vi l1)] [] s0 (jf_X4_both_L6 rc n l1 s0) := by
  intro n
  induction n with
  | zero =>
    intros
    exact jr_none
  | succ n ih =>
    intro l1 hl1 s0
    refine jr_iload_n dX4_both_6 1 rfl ?_
    refine jr_sipush dX4_both_7 (by decide) ?_
    refine jr_icmp_ge (t := 41) dX4_both_10 (by decide) hl1 (jl_nlit rfl) (fun c3 => ?_) (fun c3 => ?_)
    · refine jr_sub [] rfl ?_
      exact jj_X4_both_B41 G d rc hrc s0
    · refine jr_aload_n dX4_both_13 0 rfl ?_
      refine jr_bipush dX4_both_14 (by decide) ?_
      refine j2_callVz (As := [jl_vi (27 : Int)]) dX4_both_16 (jt_X4_takeWord G (27 : Int) (jl_nlit rfl) s0) jv_X4_takeWord ⟨rfl, rfl, rfl⟩ jw_735 jk_38 (by decide) (by decide) rfl ⟨by simp only [jM_X4_both, jM_X4_takeWord]; omega, by simp only [jM_X4_both, jM_X4_takeWord]; omega⟩ rfl (Nat.le_of_ble_eq_true rfl) (fun r4 s5 hr4 => ?_)
      refine jr_if_eq (t := 41) dX4_both_19 (by decide) (jl_nz hr4) (fun c6 => ?_) (fun c6 => ?_)
      · refine jr_sub [] rfl ?_
        exact jj_X4_both_B41 G d rc hrc s5
      · refine jr_aload_n dX4_both_22 0 rfl ?_
        refine j2_callVv (As := []) dX4_both_23 (hrc.2.2.1 s5) (jv_X4_fact d) ⟨rfl, rfl, rfl⟩ jw_730 jk_38 (by decide) (by decide) rfl ⟨by simp only [jM_X4_both, jM_X4_fact]; omega, by simp only [jM_X4_both, jM_X4_fact]; omega⟩ rfl (Nat.le_of_ble_eq_true rfl) (fun r7 s8 hr7 => ?_)
        refine jr_aload_n dX4_both_26 0 rfl ?_
        refine jr_grd (fun g9 => ?_)
        refine jr_getr (i := 1) jc_4 jk_38 (by decide) (Nat.le_of_ble_eq_true rfl) jlk_38_1 jft_4_1 g9.1 jw_186 dX4_both_27 ?_
        refine jr_bipush dX4_both_30 (by decide) ?_
        refine j2_callVv (As := [jl_vi (27 : Int)]) dX4_both_32 (jt_X0_putWord G (jl_gr s8 38 1) (27 : Int) (jl_nlit rfl) s8) jv_X0_putWord ⟨rfl, rfl, rfl⟩ jw_715 (jl_kd1 g9.2) (by decide) (jl_kdlt g9.2 (by decide)) rfl ⟨by simp only [jM_X4_both, jM_X0_putWord]; omega, by simp only [jM_X4_both, jM_X0_putWord]; omega⟩ rfl (Nat.le_of_ble_eq_true rfl) (fun r10 s11 hr10 => ?_)
        refine jr_iinc (j := 1) (lv := [(1, jl_vi (jl_add l1 1)), (0, jl_vr G 38)]) dX4_both_35 rfl (Nat.le_of_ble_eq_true rfl) rfl ?_
        refine jr_goto (t := 6) dX4_both_38 (by decide) ?_
        refine jr_sub [1, 0] rfl ?_
        exact ih (jl_add l1 1) (jl_n3_to _) s11
def jf_X4_both (rc : Nat → Int → jl_Mm → jl_O) (s0 : jl_Mm) : jl_O :=
  jl_bd (rc 2 0 s0) fun r1 s2 => jf_X4_both_L6 rc jl_fu (0 : Int) s2
set_option maxRecDepth 20000 in
set_option maxHeartbeats 2000000 in
theorem jt_X4_both (G : jl_GC) (d : Nat) (rc : Nat → Int → jl_Mm → jl_O) (hrc : jl_grp G d rc) (s0 : jl_Mm) : jC2 G (jM_X4_both (d + 1)) [jl_vr G 38] s0 (jf_X4_both rc s0) := by
  refine jl_met (plainFor_of_name rfl) (Nat.le_of_ble_eq_true rfl) ?_
  show j2 G (jM_X4_both (d + 1)) 0 [(0, jl_vr G 38)] [] s0 _
  refine jr_aload_n dX4_both_0 0 rfl ?_
  refine j2_callVv (As := []) dX4_both_1 (hrc.2.2.1 s0) (jv_X4_fact d) ⟨rfl, rfl, rfl⟩ jw_730 jk_38 (by decide) (by decide) rfl ⟨by simp only [jM_X4_both, jM_X4_fact]; omega, by simp only [jM_X4_both, jM_X4_fact]; omega⟩ rfl (Nat.le_of_ble_eq_true rfl) (fun r1 s2 hr1 => ?_)
  refine jr_iconst dX4_both_4 ?_
  refine jr_istore_n (lv := [(1, jl_vi (0 : Int)), (0, jl_vr G 38)]) dX4_both_5 rfl (Nat.le_of_ble_eq_true rfl) rfl ?_
  refine jr_sub [1, 0] rfl ?_
  exact jj_X4_both_L6 G d rc hrc jl_fu (0 : Int) (jl_nlit rfl) s2
def jf_X4_fact_B181 (rc : Nat → Int → jl_Mm → jl_O) (s0 : jl_Mm) : jl_O :=
  some (0, s0)
set_option maxRecDepth 20000 in
set_option maxHeartbeats 2000000 in
theorem jj_X4_fact_B181 (G : jl_GC) (d : Nat) (rc : Nat → Int → jl_Mm → jl_O) (hrc : jl_grp G d rc) (s0 : jl_Mm) : j2 G (jM_X4_fact (d + 1)) 181 [] [] s0 (jf_X4_fact_B181 rc s0) := by
  exact jr_ret_v rfl dX4_fact_181
def jf_X4_fact_B145 (rc : Nat → Int → jl_Mm → jl_O) (l2 : Int) (s0 : jl_Mm) : jl_O :=
  jl_lm (jl_up s0 38 4 (jl_add (jl_g s0 38 4) (1 : Int))) fun s13 => jl_bd (rc 3 0 s13) fun r14 s15 => if 0 ≤ s15 38 1 ∧ (jl_kd (jl_gr s15 38 1)).1 = 0 then jl_bd (jf_X0_put (jl_gr s15 38 1) (jl_xor l2 (-1 : Int)) s15) fun r17 s18 => jf_X4_fact_B181 rc s18 else none
set_option maxRecDepth 20000 in
set_option maxHeartbeats 2000000 in
theorem jj_X4_fact_B145 (G : jl_GC) (d : Nat) (rc : Nat → Int → jl_Mm → jl_O) (hrc : jl_grp G d rc) (l2 : Int) (hl2 : jl_n3 l2) (s0 : jl_Mm) : j2 G (jM_X4_fact (d + 1)) 145 [(0, jl_vr G 38), (2, jl_vi l2)] [] s0 (jf_X4_fact_B145 rc l2 s0) := by
  refine jr_aload_n dX4_fact_145 0 rfl ?_
  refine jr_dup dX4_fact_146 rfl ?_
  refine jr_geti (i := 4) jc_4 jk_38 (by decide) (Nat.le_of_ble_eq_true rfl) jlk_38_4 jft_4_4 jw_189 dX4_fact_147 ?_
  refine jr_iconst dX4_fact_150 ?_
  refine jr_iadd dX4_fact_151 ?_
  refine jr_puti (i := 4) jc_4 jk_38 (by decide) (Nat.le_of_ble_eq_true rfl) jlk_38_4 jft_4_4 rfl jw_189 rfl dX4_fact_152 ?_
  refine jr_lm (fun s13 => ?_)
  refine jr_aload_n dX4_fact_155 0 rfl ?_
  refine j2_callVv (As := []) dX4_fact_156 (hrc.2.2.2.1 s13) (jv_X4_sum d) ⟨rfl, rfl, rfl⟩ jw_702 jk_38 (by decide) (by decide) rfl ⟨by simp only [jM_X4_fact, jM_X4_sum]; omega, by simp only [jM_X4_fact, jM_X4_sum]; omega⟩ rfl (Nat.le_of_ble_eq_true rfl) (fun r14 s15 hr14 => ?_)
  refine jr_aload_n dX4_fact_159 0 rfl ?_
  refine jr_grd (fun g16 => ?_)
  refine jr_getr (i := 1) jc_4 jk_38 (by decide) (Nat.le_of_ble_eq_true rfl) jlk_38_1 jft_4_1 g16.1 jw_186 dX4_fact_160 ?_
  refine jr_iload_n dX4_fact_163 1 rfl ?_
  refine jr_iconst dX4_fact_164 ?_
  refine jr_ixor dX4_fact_165 ?_
  refine j2_callVv (As := [jl_vi (jl_xor l2 (-1 : Int))]) dX4_fact_166 (jt_X0_put G (jl_gr s15 38 1) (jl_xor l2 (-1 : Int)) (jl_n3_to _) s15) jv_X0_put ⟨rfl, rfl, rfl⟩ jw_694 (jl_kd1 g16.2) (by decide) (jl_kdlt g16.2 (by decide)) rfl ⟨by simp only [jM_X4_fact, jM_X0_put]; omega, by simp only [jM_X4_fact, jM_X0_put]; omega⟩ rfl (Nat.le_of_ble_eq_true rfl) (fun r17 s18 hr17 => ?_)
  refine jr_goto (t := 181) dX4_fact_169 (by decide) ?_
  refine jr_sub [] rfl ?_
  exact jj_X4_fact_B181 G d rc hrc s18
def jf_X4_fact (rc : Nat → Int → jl_Mm → jl_O) (s0 : jl_Mm) : jl_O :=
  jl_bd (jf_X4_peekWord s0) fun r1 s2 => if r1 = (28 : Int) then (jl_bd (jf_X4_open (jl_g s2 38 5) s2) fun r35 s36 => if r35 = (0 : Int) then (jf_X4_fact_B181 rc s36) else (jl_bd (rc 2 0 s36) fun r38 s39 => if 0 ≤ s39 38 1 ∧ (jl_kd (jl_gr s39 38 1)).1 = 0 then jl_bd (jf_X0_putWord (jl_gr s39 38 1) (28 : Int) s39) fun r41 s42 => jl_lm (jl_up s42 38 3 (jl_sub (jl_g s42 38 3) (1 : Int))) fun s43 => jf_X4_fact_B181 rc s43 else none)) else (if r1 = (29 : Int) then (jl_lm (jl_up s2 38 4 (jl_g s2 38 5)) fun s31 => if 0 ≤ s31 38 1 ∧ (jl_kd (jl_gr s31 38 1)).1 = 0 then jl_bd (jf_X0_put (jl_gr s31 38 1) (1 : Int) s31) fun r33 s34 => jf_X4_fact_B181 rc s34 else none) else (jl_bd (jf_X4_peek s2) fun r5 s6 => if r5 = (91 : Int) then (jl_bd (jf_X4_open (jl_add (jl_g s6 38 4) (1 : Int)) s6) fun r23 s24 => if r23 = (0 : Int) then (jf_X4_fact_B181 rc s24) else (jl_bd (rc 0 0 s24) fun r26 s27 => jl_bd (jf_X4_expectSign (93 : Int) s27) fun r28 s29 => jl_lm (jl_up s29 38 3 (jl_sub (jl_g s29 38 3) (1 : Int))) fun s30 => jf_X4_fact_B181 rc s30)) else (jl_bd (rc 3 0 s6) fun r8 s9 => jl_bd (jf_X4_peek s9) fun r10 s11 => if r10 = (60 : Int) then (jf_X4_fact_B145 rc r10 s11) else (if r10 = (62 : Int) then (jf_X4_fact_B145 rc r10 s11) else (if r10 = (61 : Int) then (jf_X4_fact_B145 rc r10 s11) else (jl_bd (jf_X4_fail (1 : Int) (jl_g s11 38 4) s11) fun r21 s22 => jf_X4_fact_B181 rc s22))))))
set_option maxRecDepth 20000 in
set_option maxHeartbeats 2000000 in
theorem jt_X4_fact (G : jl_GC) (d : Nat) (rc : Nat → Int → jl_Mm → jl_O) (hrc : jl_grp G d rc) (s0 : jl_Mm) : jC2 G (jM_X4_fact (d + 1)) [jl_vr G 38] s0 (jf_X4_fact rc s0) := by
  refine jl_met (plainFor_of_name rfl) (Nat.le_of_ble_eq_true rfl) ?_
  show j2 G (jM_X4_fact (d + 1)) 0 [(0, jl_vr G 38)] [] s0 _
  refine jr_aload_n dX4_fact_0 0 rfl ?_
  refine j2_callVi (As := []) dX4_fact_1 (jt_X4_peekWord G s0) jv_X4_peekWord ⟨rfl, rfl, rfl⟩ jw_627 jk_38 (by decide) (by decide) rfl ⟨by simp only [jM_X4_fact, jM_X4_peekWord]; omega, by simp only [jM_X4_fact, jM_X4_peekWord]; omega⟩ rfl (Nat.le_of_ble_eq_true rfl) (fun r1 s2 hr1 => ?_)
  refine jr_istore_n (lv := [(1, jl_vi r1), (0, jl_vr G 38)]) dX4_fact_4 rfl (Nat.le_of_ble_eq_true rfl) rfl ?_
  refine jr_iload_n dX4_fact_5 0 rfl ?_
  refine jr_bipush dX4_fact_6 (by decide) ?_
  refine jr_icmp_ne (t := 48) dX4_fact_8 (by decide) hr1 (jl_nlit rfl) (fun c3 => ?_) (fun c3 => ?_)
  · refine jr_aload_n dX4_fact_11 1 rfl ?_
    refine jr_aload_n dX4_fact_12 1 rfl ?_
    refine jr_geti (i := 5) jc_4 jk_38 (by decide) (Nat.le_of_ble_eq_true rfl) jlk_38_5 jft_4_5 jw_191 dX4_fact_13 ?_
    refine j2_callVz (As := [jl_vi (jl_g s2 38 5)]) dX4_fact_16 (jt_X4_open G (jl_g s2 38 5) (jl_n3_to _) s2) jv_X4_open ⟨rfl, rfl, rfl⟩ jw_698 jk_38 (by decide) (by decide) rfl ⟨by simp only [jM_X4_fact, jM_X4_open]; omega, by simp only [jM_X4_fact, jM_X4_open]; omega⟩ rfl (Nat.le_of_ble_eq_true rfl) (fun r35 s36 hr35 => ?_)
    refine jr_if_eq (t := 181) dX4_fact_19 (by decide) (jl_nz hr35) (fun c37 => ?_) (fun c37 => ?_)
    · refine jr_sub [] rfl ?_
      exact jj_X4_fact_B181 G d rc hrc s36
    · refine jr_aload_n dX4_fact_22 1 rfl ?_
      refine j2_callVv (As := []) dX4_fact_23 (hrc.2.2.1 s36) (jv_X4_fact d) ⟨rfl, rfl, rfl⟩ jw_730 jk_38 (by decide) (by decide) rfl ⟨by simp only [jM_X4_fact, jM_X4_fact]; omega, by simp only [jM_X4_fact, jM_X4_fact]; omega⟩ rfl (Nat.le_of_ble_eq_true rfl) (fun r38 s39 hr38 => ?_)
      refine jr_aload_n dX4_fact_26 1 rfl ?_
      refine jr_grd (fun g40 => ?_)
      refine jr_getr (i := 1) jc_4 jk_38 (by decide) (Nat.le_of_ble_eq_true rfl) jlk_38_1 jft_4_1 g40.1 jw_186 dX4_fact_27 ?_
      refine jr_bipush dX4_fact_30 (by decide) ?_
      refine j2_callVv (As := [jl_vi (28 : Int)]) dX4_fact_32 (jt_X0_putWord G (jl_gr s39 38 1) (28 : Int) (jl_nlit rfl) s39) jv_X0_putWord ⟨rfl, rfl, rfl⟩ jw_715 (jl_kd1 g40.2) (by decide) (jl_kdlt g40.2 (by decide)) rfl ⟨by simp only [jM_X4_fact, jM_X0_putWord]; omega, by simp only [jM_X4_fact, jM_X0_putWord]; omega⟩ rfl (Nat.le_of_ble_eq_true rfl) (fun r41 s42 hr41 => ?_)
      refine jr_aload_n dX4_fact_35 1 rfl ?_
      refine jr_dup dX4_fact_36 rfl ?_
      refine jr_geti (i := 3) jc_4 jk_38 (by decide) (Nat.le_of_ble_eq_true rfl) jlk_38_3 jft_4_3 jw_188 dX4_fact_37 ?_
      refine jr_iconst dX4_fact_40 ?_
      refine jr_isub dX4_fact_41 ?_
      refine jr_puti (i := 3) jc_4 jk_38 (by decide) (Nat.le_of_ble_eq_true rfl) jlk_38_3 jft_4_3 rfl jw_188 rfl dX4_fact_42 ?_
      refine jr_lm (fun s43 => ?_)
      refine jr_goto (t := 181) dX4_fact_45 (by decide) ?_
      refine jr_sub [] rfl ?_
      exact jj_X4_fact_B181 G d rc hrc s43
  · refine jr_iload_n dX4_fact_48 0 rfl ?_
    refine jr_bipush dX4_fact_49 (by decide) ?_
    refine jr_icmp_ne (t := 73) dX4_fact_51 (by decide) hr1 (jl_nlit rfl) (fun c4 => ?_) (fun c4 => ?_)
    · refine jr_aload_n dX4_fact_54 1 rfl ?_
      refine jr_aload_n dX4_fact_55 1 rfl ?_
      refine jr_geti (i := 5) jc_4 jk_38 (by decide) (Nat.le_of_ble_eq_true rfl) jlk_38_5 jft_4_5 jw_191 dX4_fact_56 ?_
      refine jr_puti (i := 4) jc_4 jk_38 (by decide) (Nat.le_of_ble_eq_true rfl) jlk_38_4 jft_4_4 rfl jw_189 rfl dX4_fact_59 ?_
      refine jr_lm (fun s31 => ?_)
      refine jr_aload_n dX4_fact_62 1 rfl ?_
      refine jr_grd (fun g32 => ?_)
      refine jr_getr (i := 1) jc_4 jk_38 (by decide) (Nat.le_of_ble_eq_true rfl) jlk_38_1 jft_4_1 g32.1 jw_186 dX4_fact_63 ?_
      refine jr_iconst dX4_fact_66 ?_
      refine j2_callVv (As := [jl_vi (1 : Int)]) dX4_fact_67 (jt_X0_put G (jl_gr s31 38 1) (1 : Int) (jl_nlit rfl) s31) jv_X0_put ⟨rfl, rfl, rfl⟩ jw_694 (jl_kd1 g32.2) (by decide) (jl_kdlt g32.2 (by decide)) rfl ⟨by simp only [jM_X4_fact, jM_X0_put]; omega, by simp only [jM_X4_fact, jM_X0_put]; omega⟩ rfl (Nat.le_of_ble_eq_true rfl) (fun r33 s34 hr33 => ?_)
      refine jr_goto (t := 181) dX4_fact_70 (by decide) ?_
      refine jr_sub [] rfl ?_
      exact jj_X4_fact_B181 G d rc hrc s34
    · refine jr_aload_n dX4_fact_73 1 rfl ?_
      refine j2_callVi (As := []) dX4_fact_74 (jt_X4_peek G s2) jv_X4_peek ⟨rfl, rfl, rfl⟩ jw_531 jk_38 (by decide) (by decide) rfl ⟨by simp only [jM_X4_fact, jM_X4_peek]; omega, by simp only [jM_X4_fact, jM_X4_peek]; omega⟩ rfl (Nat.le_of_ble_eq_true rfl) (fun r5 s6 hr5 => ?_)
      refine jr_bipush dX4_fact_77 (by decide) ?_
      refine jr_icmp_ne (t := 118) dX4_fact_79 (by decide) hr5 (jl_nlit rfl) (fun c7 => ?_) (fun c7 => ?_)
      · refine jr_aload_n dX4_fact_82 1 rfl ?_
        refine jr_aload_n dX4_fact_83 1 rfl ?_
        refine jr_geti (i := 4) jc_4 jk_38 (by decide) (Nat.le_of_ble_eq_true rfl) jlk_38_4 jft_4_4 jw_189 dX4_fact_84 ?_
        refine jr_iconst dX4_fact_87 ?_
        refine jr_iadd dX4_fact_88 ?_
        refine j2_callVz (As := [jl_vi (jl_add (jl_g s6 38 4) (1 : Int))]) dX4_fact_89 (jt_X4_open G (jl_add (jl_g s6 38 4) (1 : Int)) (jl_n3_to _) s6) jv_X4_open ⟨rfl, rfl, rfl⟩ jw_698 jk_38 (by decide) (by decide) rfl ⟨by simp only [jM_X4_fact, jM_X4_open]; omega, by simp only [jM_X4_fact, jM_X4_open]; omega⟩ rfl (Nat.le_of_ble_eq_true rfl) (fun r23 s24 hr23 => ?_)
        refine jr_if_eq (t := 181) dX4_fact_92 (by decide) (jl_nz hr23) (fun c25 => ?_) (fun c25 => ?_)
        · refine jr_sub [] rfl ?_
          exact jj_X4_fact_B181 G d rc hrc s24
        · refine jr_aload_n dX4_fact_95 1 rfl ?_
          refine j2_callVv (As := []) dX4_fact_96 (hrc.1 s24) (jv_X4_test d) ⟨rfl, rfl, rfl⟩ jw_734 jk_38 (by decide) (by decide) rfl ⟨by simp only [jM_X4_fact, jM_X4_test]; omega, by simp only [jM_X4_fact, jM_X4_test]; omega⟩ rfl (Nat.le_of_ble_eq_true rfl) (fun r26 s27 hr26 => ?_)
          refine jr_aload_n dX4_fact_99 1 rfl ?_
          refine jr_bipush dX4_fact_100 (by decide) ?_
          refine j2_callVv (As := [jl_vi (93 : Int)]) dX4_fact_102 (jt_X4_expectSign G (93 : Int) (jl_nlit rfl) s27) jv_X4_expectSign ⟨rfl, rfl, rfl⟩ jw_703 jk_38 (by decide) (by decide) rfl ⟨by simp only [jM_X4_fact, jM_X4_expectSign]; omega, by simp only [jM_X4_fact, jM_X4_expectSign]; omega⟩ rfl (Nat.le_of_ble_eq_true rfl) (fun r28 s29 hr28 => ?_)
          refine jr_aload_n dX4_fact_105 1 rfl ?_
          refine jr_dup dX4_fact_106 rfl ?_
          refine jr_geti (i := 3) jc_4 jk_38 (by decide) (Nat.le_of_ble_eq_true rfl) jlk_38_3 jft_4_3 jw_188 dX4_fact_107 ?_
          refine jr_iconst dX4_fact_110 ?_
          refine jr_isub dX4_fact_111 ?_
          refine jr_puti (i := 3) jc_4 jk_38 (by decide) (Nat.le_of_ble_eq_true rfl) jlk_38_3 jft_4_3 rfl jw_188 rfl dX4_fact_112 ?_
          refine jr_lm (fun s30 => ?_)
          refine jr_goto (t := 181) dX4_fact_115 (by decide) ?_
          refine jr_sub [] rfl ?_
          exact jj_X4_fact_B181 G d rc hrc s30
      · refine jr_aload_n dX4_fact_118 1 rfl ?_
        refine j2_callVv (As := []) dX4_fact_119 (hrc.2.2.2.1 s6) (jv_X4_sum d) ⟨rfl, rfl, rfl⟩ jw_702 jk_38 (by decide) (by decide) rfl ⟨by simp only [jM_X4_fact, jM_X4_sum]; omega, by simp only [jM_X4_fact, jM_X4_sum]; omega⟩ rfl (Nat.le_of_ble_eq_true rfl) (fun r8 s9 hr8 => ?_)
        refine jr_aload_n dX4_fact_122 1 rfl ?_
        refine j2_callVi (As := []) dX4_fact_123 (jt_X4_peek G s9) jv_X4_peek ⟨rfl, rfl, rfl⟩ jw_531 jk_38 (by decide) (by decide) rfl ⟨by simp only [jM_X4_fact, jM_X4_peek]; omega, by simp only [jM_X4_fact, jM_X4_peek]; omega⟩ rfl (Nat.le_of_ble_eq_true rfl) (fun r10 s11 hr10 => ?_)
        refine jr_istore_n (lv := [(2, jl_vi r10), (1, jl_vi r1), (0, jl_vr G 38)]) dX4_fact_126 rfl (Nat.le_of_ble_eq_true rfl) rfl ?_
        refine jr_iload_n dX4_fact_127 0 rfl ?_
        refine jr_bipush dX4_fact_128 (by decide) ?_
        refine jr_icmp_eq (t := 145) dX4_fact_130 (by decide) hr10 (jl_nlit rfl) (fun c12 => ?_) (fun c12 => ?_)
        · refine jr_sub [2, 0] rfl ?_
          exact jj_X4_fact_B145 G d rc hrc r10 hr10 s11
        · refine jr_iload_n dX4_fact_133 0 rfl ?_
          refine jr_bipush dX4_fact_134 (by decide) ?_
          refine jr_icmp_eq (t := 145) dX4_fact_136 (by decide) hr10 (jl_nlit rfl) (fun c19 => ?_) (fun c19 => ?_)
          · refine jr_sub [2, 0] rfl ?_
            exact jj_X4_fact_B145 G d rc hrc r10 hr10 s11
          · refine jr_iload_n dX4_fact_139 0 rfl ?_
            refine jr_bipush dX4_fact_140 (by decide) ?_
            refine jr_icmp_ne (t := 172) dX4_fact_142 (by decide) hr10 (jl_nlit rfl) (fun c20 => ?_) (fun c20 => ?_)
            · refine jr_sub [2, 0] rfl ?_
              exact jj_X4_fact_B145 G d rc hrc r10 hr10 s11
            · refine jr_aload_n dX4_fact_172 2 rfl ?_
              refine jr_iconst dX4_fact_173 ?_
              refine jr_aload_n dX4_fact_174 2 rfl ?_
              refine jr_geti (i := 4) jc_4 jk_38 (by decide) (Nat.le_of_ble_eq_true rfl) jlk_38_4 jft_4_4 jw_189 dX4_fact_175 ?_
              refine j2_callVv (As := [jl_vi (1 : Int), jl_vi (jl_g s11 38 4)]) dX4_fact_178 (jt_X4_fail G (1 : Int) (jl_g s11 38 4) (jl_nlit rfl) (jl_n3_to _) s11) jv_X4_fail ⟨rfl, rfl, rfl⟩ jw_618 jk_38 (by decide) (by decide) rfl ⟨by simp only [jM_X4_fact, jM_X4_fail]; omega, by simp only [jM_X4_fact, jM_X4_fail]; omega⟩ rfl (Nat.le_of_ble_eq_true rfl) (fun r21 s22 hr21 => ?_)
              refine jr_sub [] rfl ?_
              exact jj_X4_fact_B181 G d rc hrc s22
def jf_X4_sum_B65 (rc : Nat → Int → jl_Mm → jl_O) (s0 : jl_Mm) : jl_O :=
  some (0, s0)
set_option maxRecDepth 20000 in
set_option maxHeartbeats 2000000 in
theorem jj_X4_sum_B65 (G : jl_GC) (d : Nat) (rc : Nat → Int → jl_Mm → jl_O) (hrc : jl_grp G d rc) (s0 : jl_Mm) : j2 G (jM_X4_sum (d + 1)) 65 [] [] s0 (jf_X4_sum_B65 rc s0) := by
  exact jr_ret_v rfl dX4_sum_65
def jf_X4_sum_B30 (rc : Nat → Int → jl_Mm → jl_O) (R11 : Int → Int → jl_Mm → jl_O) (l1 : Int) (l2 : Int) (s0 : jl_Mm) : jl_O :=
  jl_lm (jl_up s0 38 4 (jl_add (jl_g s0 38 4) (1 : Int))) fun s7 => jl_bd (rc 4 0 s7) fun r8 s9 => if 0 ≤ s9 38 1 ∧ (jl_kd (jl_gr s9 38 1)).1 = 0 then jl_bd (jf_X0_put (jl_gr s9 38 1) (jl_xor l1 (-1 : Int)) s9) fun r11 s12 => jl_bd (jf_X4_peek s12) fun r13 s14 => R11 r13 (jl_add l2 1) s14 else none
set_option maxRecDepth 20000 in
set_option maxHeartbeats 2000000 in
theorem jj_X4_sum_B30 (G : jl_GC) (d : Nat) (rc : Nat → Int → jl_Mm → jl_O) (R11 : Int → Int → jl_Mm → jl_O) (hrc : jl_grp G d rc) (hR11 : ∀ (l1 : Int) (l2 : Int) (_hl1 : jl_n3 l1) (_hl2 : jl_n3 l2) (s0 : jl_Mm), j2 G (jM_X4_sum (d + 1)) 11 [(0, jl_vr G 38), (1, jl_vi l1), (2, jl_vi l2)] [] s0 (R11 l1 l2 s0)) (l1 : Int) (l2 : Int) (hl1 : jl_n3 l1) (hl2 : jl_n3 l2) (s0 : jl_Mm) : j2 G (jM_X4_sum (d + 1)) 30 [(0, jl_vr G 38), (1, jl_vi l1), (2, jl_vi l2)] [] s0 (jf_X4_sum_B30 rc R11 l1 l2 s0) := by
  refine jr_aload_n dX4_sum_30 0 rfl ?_
  refine jr_dup dX4_sum_31 rfl ?_
  refine jr_geti (i := 4) jc_4 jk_38 (by decide) (Nat.le_of_ble_eq_true rfl) jlk_38_4 jft_4_4 jw_189 dX4_sum_32 ?_
  refine jr_iconst dX4_sum_35 ?_
  refine jr_iadd dX4_sum_36 ?_
  refine jr_puti (i := 4) jc_4 jk_38 (by decide) (Nat.le_of_ble_eq_true rfl) jlk_38_4 jft_4_4 rfl jw_189 rfl dX4_sum_37 ?_
  refine jr_lm (fun s7 => ?_)
  refine jr_aload_n dX4_sum_40 0 rfl ?_
  refine j2_callVv (As := []) dX4_sum_41 (hrc.2.2.2.2.1 s7) (jv_X4_product d) ⟨rfl, rfl, rfl⟩ jw_685 jk_38 (by decide) (by decide) rfl ⟨by simp only [jM_X4_sum, jM_X4_product]; omega, by simp only [jM_X4_sum, jM_X4_product]; omega⟩ rfl (Nat.le_of_ble_eq_true rfl) (fun r8 s9 hr8 => ?_)
  refine jr_aload_n dX4_sum_44 0 rfl ?_
  refine jr_grd (fun g10 => ?_)
  refine jr_getr (i := 1) jc_4 jk_38 (by decide) (Nat.le_of_ble_eq_true rfl) jlk_38_1 jft_4_1 g10.1 jw_186 dX4_sum_45 ?_
  refine jr_iload_n dX4_sum_48 1 rfl ?_
  refine jr_iconst dX4_sum_49 ?_
  refine jr_ixor dX4_sum_50 ?_
  refine j2_callVv (As := [jl_vi (jl_xor l1 (-1 : Int))]) dX4_sum_51 (jt_X0_put G (jl_gr s9 38 1) (jl_xor l1 (-1 : Int)) (jl_n3_to _) s9) jv_X0_put ⟨rfl, rfl, rfl⟩ jw_694 (jl_kd1 g10.2) (by decide) (jl_kdlt g10.2 (by decide)) rfl ⟨by simp only [jM_X4_sum, jM_X0_put]; omega, by simp only [jM_X4_sum, jM_X0_put]; omega⟩ rfl (Nat.le_of_ble_eq_true rfl) (fun r11 s12 hr11 => ?_)
  refine jr_aload_n dX4_sum_54 0 rfl ?_
  refine j2_callVi (As := []) dX4_sum_55 (jt_X4_peek G s12) jv_X4_peek ⟨rfl, rfl, rfl⟩ jw_531 jk_38 (by decide) (by decide) rfl ⟨by simp only [jM_X4_sum, jM_X4_peek]; omega, by simp only [jM_X4_sum, jM_X4_peek]; omega⟩ rfl (Nat.le_of_ble_eq_true rfl) (fun r13 s14 hr13 => ?_)
  refine jr_istore_n (lv := [(1, jl_vi r13), (0, jl_vr G 38), (2, jl_vi l2)]) dX4_sum_58 rfl (Nat.le_of_ble_eq_true rfl) rfl ?_
  refine jr_iinc (j := 2) (lv := [(2, jl_vi (jl_add l2 1)), (1, jl_vi r13), (0, jl_vr G 38)]) dX4_sum_59 rfl (Nat.le_of_ble_eq_true rfl) rfl ?_
  refine jr_goto (t := 11) dX4_sum_62 (by decide) ?_
  refine jr_sub [2, 1, 0] rfl ?_
  exact hR11 r13 (jl_add l2 1) hr13 (jl_n3_to _) s14
def jf_X4_sum_L11 (rc : Nat → Int → jl_Mm → jl_O) : Nat → Int → Int → jl_Mm → jl_O
  | 0, _, _, _ => none
  | n + 1, l1, l2, s0 =>
    if (1600 : Int) ≤ l2 then (jf_X4_sum_B65 rc s0) else (if l1 = (43 : Int) then (jf_X4_sum_B30 rc (jf_X4_sum_L11 rc n) l1 l2 s0) else (if l1 = (45 : Int) then (jf_X4_sum_B30 rc (jf_X4_sum_L11 rc n) l1 l2 s0) else (jf_X4_sum_B65 rc s0)))
set_option maxRecDepth 20000 in
set_option maxHeartbeats 2000000 in
theorem jj_X4_sum_L11 (G : jl_GC) (d : Nat) (rc : Nat → Int → jl_Mm → jl_O) (hrc : jl_grp G d rc) : ∀ (n : Nat) (l1 : Int) (l2 : Int) (hl1 : jl_n3 l1) (hl2 : jl_n3 l2) (s0 : jl_Mm), j2 G (jM_X4_sum (d + 1)) 11 [(0, jl_vr G 38), (1, jl_vi l1), (2, jl_vi l2)] [] s0 (jf_X4_sum_L11 rc n l1 l2 s0) := by
  intro n
  induction n with
  | zero =>
    intros
    exact jr_none
  | succ n ih =>
    intro l1 l2 hl1 hl2 s0
    refine jr_iload_n dX4_sum_11 2 rfl ?_
    refine jr_sipush dX4_sum_12 (by decide) ?_
    refine jr_icmp_ge (t := 65) dX4_sum_15 (by decide) hl2 (jl_nlit rfl) (fun c5 => ?_) (fun c5 => ?_)
    · refine jr_sub [] rfl ?_
      exact jj_X4_sum_B65 G d rc hrc s0
    · refine jr_iload_n dX4_sum_18 1 rfl ?_
      refine jr_bipush dX4_sum_19 (by decide) ?_
      refine jr_icmp_eq (t := 30) dX4_sum_21 (by decide) hl1 (jl_nlit rfl) (fun c6 => ?_) (fun c6 => ?_)
      · exact jj_X4_sum_B30 G d rc (jf_X4_sum_L11 rc n) hrc (ih) l1 l2 hl1 hl2 s0
      · refine jr_iload_n dX4_sum_24 1 rfl ?_
        refine jr_bipush dX4_sum_25 (by decide) ?_
        refine jr_icmp_ne (t := 65) dX4_sum_27 (by decide) hl1 (jl_nlit rfl) (fun c15 => ?_) (fun c15 => ?_)
        · exact jj_X4_sum_B30 G d rc (jf_X4_sum_L11 rc n) hrc (ih) l1 l2 hl1 hl2 s0
        · refine jr_sub [] rfl ?_
          exact jj_X4_sum_B65 G d rc hrc s0
def jf_X4_sum (rc : Nat → Int → jl_Mm → jl_O) (s0 : jl_Mm) : jl_O :=
  jl_bd (rc 4 0 s0) fun r1 s2 => jl_bd (jf_X4_peek s2) fun r3 s4 => jf_X4_sum_L11 rc jl_fu r3 (0 : Int) s4
set_option maxRecDepth 20000 in
set_option maxHeartbeats 2000000 in
theorem jt_X4_sum (G : jl_GC) (d : Nat) (rc : Nat → Int → jl_Mm → jl_O) (hrc : jl_grp G d rc) (s0 : jl_Mm) : jC2 G (jM_X4_sum (d + 1)) [jl_vr G 38] s0 (jf_X4_sum rc s0) := by
  refine jl_met (plainFor_of_name rfl) (Nat.le_of_ble_eq_true rfl) ?_
  show j2 G (jM_X4_sum (d + 1)) 0 [(0, jl_vr G 38)] [] s0 _
  refine jr_aload_n dX4_sum_0 0 rfl ?_
  refine j2_callVv (As := []) dX4_sum_1 (hrc.2.2.2.2.1 s0) (jv_X4_product d) ⟨rfl, rfl, rfl⟩ jw_685 jk_38 (by decide) (by decide) rfl ⟨by simp only [jM_X4_sum, jM_X4_product]; omega, by simp only [jM_X4_sum, jM_X4_product]; omega⟩ rfl (Nat.le_of_ble_eq_true rfl) (fun r1 s2 hr1 => ?_)
  refine jr_aload_n dX4_sum_4 0 rfl ?_
  refine j2_callVi (As := []) dX4_sum_5 (jt_X4_peek G s2) jv_X4_peek ⟨rfl, rfl, rfl⟩ jw_531 jk_38 (by decide) (by decide) rfl ⟨by simp only [jM_X4_sum, jM_X4_peek]; omega, by simp only [jM_X4_sum, jM_X4_peek]; omega⟩ rfl (Nat.le_of_ble_eq_true rfl) (fun r3 s4 hr3 => ?_)
  refine jr_istore_n (lv := [(1, jl_vi r3), (0, jl_vr G 38)]) dX4_sum_8 rfl (Nat.le_of_ble_eq_true rfl) rfl ?_
  refine jr_iconst dX4_sum_9 ?_
  refine jr_istore_n (lv := [(2, jl_vi (0 : Int)), (1, jl_vi r3), (0, jl_vr G 38)]) dX4_sum_10 rfl (Nat.le_of_ble_eq_true rfl) rfl ?_
  refine jr_sub [2, 1, 0] rfl ?_
  exact jj_X4_sum_L11 G d rc hrc jl_fu r3 (0 : Int) hr3 (jl_nlit rfl) s4
def jf_X4_product_B65 (rc : Nat → Int → jl_Mm → jl_O) (s0 : jl_Mm) : jl_O :=
  some (0, s0)
set_option maxRecDepth 20000 in
set_option maxHeartbeats 2000000 in
theorem jj_X4_product_B65 (G : jl_GC) (d : Nat) (rc : Nat → Int → jl_Mm → jl_O) (hrc : jl_grp G d rc) (s0 : jl_Mm) : j2 G (jM_X4_product (d + 1)) 65 [] [] s0 (jf_X4_product_B65 rc s0) := by
  exact jr_ret_v rfl dX4_product_65
def jf_X4_product_B30 (rc : Nat → Int → jl_Mm → jl_O) (R11 : Int → Int → jl_Mm → jl_O) (l1 : Int) (l2 : Int) (s0 : jl_Mm) : jl_O :=
  jl_lm (jl_up s0 38 4 (jl_add (jl_g s0 38 4) (1 : Int))) fun s7 => jl_bd (rc 5 0 s7) fun r8 s9 => if 0 ≤ s9 38 1 ∧ (jl_kd (jl_gr s9 38 1)).1 = 0 then jl_bd (jf_X0_put (jl_gr s9 38 1) (jl_xor l1 (-1 : Int)) s9) fun r11 s12 => jl_bd (jf_X4_peek s12) fun r13 s14 => R11 r13 (jl_add l2 1) s14 else none
set_option maxRecDepth 20000 in
set_option maxHeartbeats 2000000 in
theorem jj_X4_product_B30 (G : jl_GC) (d : Nat) (rc : Nat → Int → jl_Mm → jl_O) (R11 : Int → Int → jl_Mm → jl_O) (hrc : jl_grp G d rc) (hR11 : ∀ (l1 : Int) (l2 : Int) (_hl1 : jl_n3 l1) (_hl2 : jl_n3 l2) (s0 : jl_Mm), j2 G (jM_X4_product (d + 1)) 11 [(0, jl_vr G 38), (1, jl_vi l1), (2, jl_vi l2)] [] s0 (R11 l1 l2 s0)) (l1 : Int) (l2 : Int) (hl1 : jl_n3 l1) (hl2 : jl_n3 l2) (s0 : jl_Mm) : j2 G (jM_X4_product (d + 1)) 30 [(0, jl_vr G 38), (1, jl_vi l1), (2, jl_vi l2)] [] s0 (jf_X4_product_B30 rc R11 l1 l2 s0) := by
  refine jr_aload_n dX4_product_30 0 rfl ?_
  refine jr_dup dX4_product_31 rfl ?_
  refine jr_geti (i := 4) jc_4 jk_38 (by decide) (Nat.le_of_ble_eq_true rfl) jlk_38_4 jft_4_4 jw_189 dX4_product_32 ?_
  refine jr_iconst dX4_product_35 ?_
  refine jr_iadd dX4_product_36 ?_
  refine jr_puti (i := 4) jc_4 jk_38 (by decide) (Nat.le_of_ble_eq_true rfl) jlk_38_4 jft_4_4 rfl jw_189 rfl dX4_product_37 ?_
  refine jr_lm (fun s7 => ?_)
  refine jr_aload_n dX4_product_40 0 rfl ?_
  refine j2_callVv (As := []) dX4_product_41 (hrc.2.2.2.2.2.1 s7) (jv_X4_part d) ⟨rfl, rfl, rfl⟩ jw_689 jk_38 (by decide) (by decide) rfl ⟨by simp only [jM_X4_product, jM_X4_part]; omega, by simp only [jM_X4_product, jM_X4_part]; omega⟩ rfl (Nat.le_of_ble_eq_true rfl) (fun r8 s9 hr8 => ?_)
  refine jr_aload_n dX4_product_44 0 rfl ?_
  refine jr_grd (fun g10 => ?_)
  refine jr_getr (i := 1) jc_4 jk_38 (by decide) (Nat.le_of_ble_eq_true rfl) jlk_38_1 jft_4_1 g10.1 jw_186 dX4_product_45 ?_
  refine jr_iload_n dX4_product_48 1 rfl ?_
  refine jr_iconst dX4_product_49 ?_
  refine jr_ixor dX4_product_50 ?_
  refine j2_callVv (As := [jl_vi (jl_xor l1 (-1 : Int))]) dX4_product_51 (jt_X0_put G (jl_gr s9 38 1) (jl_xor l1 (-1 : Int)) (jl_n3_to _) s9) jv_X0_put ⟨rfl, rfl, rfl⟩ jw_694 (jl_kd1 g10.2) (by decide) (jl_kdlt g10.2 (by decide)) rfl ⟨by simp only [jM_X4_product, jM_X0_put]; omega, by simp only [jM_X4_product, jM_X0_put]; omega⟩ rfl (Nat.le_of_ble_eq_true rfl) (fun r11 s12 hr11 => ?_)
  refine jr_aload_n dX4_product_54 0 rfl ?_
  refine j2_callVi (As := []) dX4_product_55 (jt_X4_peek G s12) jv_X4_peek ⟨rfl, rfl, rfl⟩ jw_531 jk_38 (by decide) (by decide) rfl ⟨by simp only [jM_X4_product, jM_X4_peek]; omega, by simp only [jM_X4_product, jM_X4_peek]; omega⟩ rfl (Nat.le_of_ble_eq_true rfl) (fun r13 s14 hr13 => ?_)
  refine jr_istore_n (lv := [(1, jl_vi r13), (0, jl_vr G 38), (2, jl_vi l2)]) dX4_product_58 rfl (Nat.le_of_ble_eq_true rfl) rfl ?_
  refine jr_iinc (j := 2) (lv := [(2, jl_vi (jl_add l2 1)), (1, jl_vi r13), (0, jl_vr G 38)]) dX4_product_59 rfl (Nat.le_of_ble_eq_true rfl) rfl ?_
  refine jr_goto (t := 11) dX4_product_62 (by decide) ?_
  refine jr_sub [2, 1, 0] rfl ?_
  exact hR11 r13 (jl_add l2 1) hr13 (jl_n3_to _) s14
def jf_X4_product_L11 (rc : Nat → Int → jl_Mm → jl_O) : Nat → Int → Int → jl_Mm → jl_O
  | 0, _, _, _ => none
  | n + 1, l1, l2, s0 =>
    if (1600 : Int) ≤ l2 then (jf_X4_product_B65 rc s0) else (if l1 = (42 : Int) then (jf_X4_product_B30 rc (jf_X4_product_L11 rc n) l1 l2 s0) else (if l1 = (47 : Int) then (jf_X4_product_B30 rc (jf_X4_product_L11 rc n) l1 l2 s0) else (jf_X4_product_B65 rc s0)))
set_option maxRecDepth 20000 in
set_option maxHeartbeats 2000000 in
theorem jj_X4_product_L11 (G : jl_GC) (d : Nat) (rc : Nat → Int → jl_Mm → jl_O) (hrc : jl_grp G d rc) : ∀ (n : Nat) (l1 : Int) (l2 : Int) (hl1 : jl_n3 l1) (hl2 : jl_n3 l2) (s0 : jl_Mm), j2 G (jM_X4_product (d + 1)) 11 [(0, jl_vr G 38), (1, jl_vi l1), (2, jl_vi l2)] [] s0 (jf_X4_product_L11 rc n l1 l2 s0) := by
  intro n
  induction n with
  | zero =>
    intros
    exact jr_none
  | succ n ih =>
    intro l1 l2 hl1 hl2 s0
    refine jr_iload_n dX4_product_11 2 rfl ?_
    refine jr_sipush dX4_product_12 (by decide) ?_
    refine jr_icmp_ge (t := 65) dX4_product_15 (by decide) hl2 (jl_nlit rfl) (fun c5 => ?_) (fun c5 => ?_)
    · refine jr_sub [] rfl ?_
      exact jj_X4_product_B65 G d rc hrc s0
    · refine jr_iload_n dX4_product_18 1 rfl ?_
      refine jr_bipush dX4_product_19 (by decide) ?_
      refine jr_icmp_eq (t := 30) dX4_product_21 (by decide) hl1 (jl_nlit rfl) (fun c6 => ?_) (fun c6 => ?_)
      · exact jj_X4_product_B30 G d rc (jf_X4_product_L11 rc n) hrc (ih) l1 l2 hl1 hl2 s0
      · refine jr_iload_n dX4_product_24 1 rfl ?_
        refine jr_bipush dX4_product_25 (by decide) ?_
        refine jr_icmp_ne (t := 65) dX4_product_27 (by decide) hl1 (jl_nlit rfl) (fun c15 => ?_) (fun c15 => ?_)
        · exact jj_X4_product_B30 G d rc (jf_X4_product_L11 rc n) hrc (ih) l1 l2 hl1 hl2 s0
        · refine jr_sub [] rfl ?_
          exact jj_X4_product_B65 G d rc hrc s0
def jf_X4_product (rc : Nat → Int → jl_Mm → jl_O) (s0 : jl_Mm) : jl_O :=
  jl_bd (rc 5 0 s0) fun r1 s2 => jl_bd (jf_X4_peek s2) fun r3 s4 => jf_X4_product_L11 rc jl_fu r3 (0 : Int) s4
set_option maxRecDepth 20000 in
set_option maxHeartbeats 2000000 in
theorem jt_X4_product (G : jl_GC) (d : Nat) (rc : Nat → Int → jl_Mm → jl_O) (hrc : jl_grp G d rc) (s0 : jl_Mm) : jC2 G (jM_X4_product (d + 1)) [jl_vr G 38] s0 (jf_X4_product rc s0) := by
  refine jl_met (plainFor_of_name rfl) (Nat.le_of_ble_eq_true rfl) ?_
  show j2 G (jM_X4_product (d + 1)) 0 [(0, jl_vr G 38)] [] s0 _
  refine jr_aload_n dX4_product_0 0 rfl ?_
  refine j2_callVv (As := []) dX4_product_1 (hrc.2.2.2.2.2.1 s0) (jv_X4_part d) ⟨rfl, rfl, rfl⟩ jw_689 jk_38 (by decide) (by decide) rfl ⟨by simp only [jM_X4_product, jM_X4_part]; omega, by simp only [jM_X4_product, jM_X4_part]; omega⟩ rfl (Nat.le_of_ble_eq_true rfl) (fun r1 s2 hr1 => ?_)
  refine jr_aload_n dX4_product_4 0 rfl ?_
  refine j2_callVi (As := []) dX4_product_5 (jt_X4_peek G s2) jv_X4_peek ⟨rfl, rfl, rfl⟩ jw_531 jk_38 (by decide) (by decide) rfl ⟨by simp only [jM_X4_product, jM_X4_peek]; omega, by simp only [jM_X4_product, jM_X4_peek]; omega⟩ rfl (Nat.le_of_ble_eq_true rfl) (fun r3 s4 hr3 => ?_)
  refine jr_istore_n (lv := [(1, jl_vi r3), (0, jl_vr G 38)]) dX4_product_8 rfl (Nat.le_of_ble_eq_true rfl) rfl ?_
  refine jr_iconst dX4_product_9 ?_
  refine jr_istore_n (lv := [(2, jl_vi (0 : Int)), (1, jl_vi r3), (0, jl_vr G 38)]) dX4_product_10 rfl (Nat.le_of_ble_eq_true rfl) rfl ?_
  refine jr_sub [2, 1, 0] rfl ?_
  exact jj_X4_product_L11 G d rc hrc jl_fu r3 (0 : Int) hr3 (jl_nlit rfl) s4
def jf_X4_part_B80 (rc : Nat → Int → jl_Mm → jl_O) (s0 : jl_Mm) : jl_O :=
  some (0, s0)
set_option maxRecDepth 20000 in
set_option maxHeartbeats 2000000 in
theorem jj_X4_part_B80 (G : jl_GC) (d : Nat) (rc : Nat → Int → jl_Mm → jl_O) (hrc : jl_grp G d rc) (s0 : jl_Mm) : j2 G (jM_X4_part (d + 1)) 80 [] [] s0 (jf_X4_part_B80 rc s0) := by
  exact jr_ret_v rfl dX4_part_80
def jf_X4_part (rc : Nat → Int → jl_Mm → jl_O) (s0 : jl_Mm) : jl_O :=
  jl_bd (jf_X4_peek s0) fun r1 s2 => jl_bd (jf_X4_isDigit r1 s2) fun r3 s4 => if r3 = (0 : Int) then (if r1 = (40 : Int) then (jl_bd (jf_X4_open (jl_add (jl_g s4 38 4) (1 : Int)) s4) fun r11 s12 => if r11 = (0 : Int) then (jf_X4_part_B80 rc s12) else (jl_bd (rc 3 0 s12) fun r14 s15 => jl_bd (jf_X4_expectSign (41 : Int) s15) fun r16 s17 => jl_lm (jl_up s17 38 3 (jl_sub (jl_g s17 38 3) (1 : Int))) fun s18 => jf_X4_part_B80 rc s18)) else (jl_bd (jf_X4_peekWord s4) fun r7 s8 => jl_bd (rc 6 r7 s8) fun r9 s10 => jf_X4_part_B80 rc s10)) else (if 0 ≤ s4 38 1 ∧ (jl_kd (jl_gr s4 38 1)).1 = 0 then jl_bd (jf_X4_takeNumber (0 : Int) (9999 : Int) s4) fun r20 s21 => jl_bd (jf_X0_put (jl_gr s4 38 1) r20 s21) fun r22 s23 => jf_X4_part_B80 rc s23 else none)
set_option maxRecDepth 20000 in
set_option maxHeartbeats 2000000 in
theorem jt_X4_part (G : jl_GC) (d : Nat) (rc : Nat → Int → jl_Mm → jl_O) (hrc : jl_grp G d rc) (s0 : jl_Mm) : jC2 G (jM_X4_part (d + 1)) [jl_vr G 38] s0 (jf_X4_part rc s0) := by
  refine jl_met (plainFor_of_name rfl) (Nat.le_of_ble_eq_true rfl) ?_
  show j2 G (jM_X4_part (d + 1)) 0 [(0, jl_vr G 38)] [] s0 _
  refine jr_aload_n dX4_part_0 0 rfl ?_
  refine j2_callVi (As := []) dX4_part_1 (jt_X4_peek G s0) jv_X4_peek ⟨rfl, rfl, rfl⟩ jw_531 jk_38 (by decide) (by decide) rfl ⟨by simp only [jM_X4_part, jM_X4_peek]; omega, by simp only [jM_X4_part, jM_X4_peek]; omega⟩ rfl (Nat.le_of_ble_eq_true rfl) (fun r1 s2 hr1 => ?_)
  refine jr_istore_n (lv := [(1, jl_vi r1), (0, jl_vr G 38)]) dX4_part_4 rfl (Nat.le_of_ble_eq_true rfl) rfl ?_
  refine jr_iload_n dX4_part_5 0 rfl ?_
  refine j2_callSz (As := [jl_vi r1]) dX4_part_6 (jt_X4_isDigit G r1 hr1 s2) jv_X4_isDigit ⟨rfl, rfl, rfl⟩ jw_615 ⟨by simp only [jM_X4_part, jM_X4_isDigit]; omega, by simp only [jM_X4_part, jM_X4_isDigit]; omega⟩ rfl (Nat.le_of_ble_eq_true rfl) (fun r3 s4 hr3 => ?_)
  refine jr_if_eq (t := 30) dX4_part_9 (by decide) (jl_nz hr3) (fun c5 => ?_) (fun c5 => ?_)
  · refine jr_iload_n dX4_part_30 0 rfl ?_
    refine jr_bipush dX4_part_31 (by decide) ?_
    refine jr_icmp_ne (t := 72) dX4_part_33 (by decide) hr1 (jl_nlit rfl) (fun c6 => ?_) (fun c6 => ?_)
    · refine jr_aload_n dX4_part_36 1 rfl ?_
      refine jr_aload_n dX4_part_37 1 rfl ?_
      refine jr_geti (i := 4) jc_4 jk_38 (by decide) (Nat.le_of_ble_eq_true rfl) jlk_38_4 jft_4_4 jw_189 dX4_part_38 ?_
      refine jr_iconst dX4_part_41 ?_
      refine jr_iadd dX4_part_42 ?_
      refine j2_callVz (As := [jl_vi (jl_add (jl_g s4 38 4) (1 : Int))]) dX4_part_43 (jt_X4_open G (jl_add (jl_g s4 38 4) (1 : Int)) (jl_n3_to _) s4) jv_X4_open ⟨rfl, rfl, rfl⟩ jw_698 jk_38 (by decide) (by decide) rfl ⟨by simp only [jM_X4_part, jM_X4_open]; omega, by simp only [jM_X4_part, jM_X4_open]; omega⟩ rfl (Nat.le_of_ble_eq_true rfl) (fun r11 s12 hr11 => ?_)
      refine jr_if_eq (t := 80) dX4_part_46 (by decide) (jl_nz hr11) (fun c13 => ?_) (fun c13 => ?_)
      · refine jr_sub [] rfl ?_
        exact jj_X4_part_B80 G d rc hrc s12
      · refine jr_aload_n dX4_part_49 1 rfl ?_
        refine j2_callVv (As := []) dX4_part_50 (hrc.2.2.2.1 s12) (jv_X4_sum d) ⟨rfl, rfl, rfl⟩ jw_702 jk_38 (by decide) (by decide) rfl ⟨by simp only [jM_X4_part, jM_X4_sum]; omega, by simp only [jM_X4_part, jM_X4_sum]; omega⟩ rfl (Nat.le_of_ble_eq_true rfl) (fun r14 s15 hr14 => ?_)
        refine jr_aload_n dX4_part_53 1 rfl ?_
        refine jr_bipush dX4_part_54 (by decide) ?_
        refine j2_callVv (As := [jl_vi (41 : Int)]) dX4_part_56 (jt_X4_expectSign G (41 : Int) (jl_nlit rfl) s15) jv_X4_expectSign ⟨rfl, rfl, rfl⟩ jw_703 jk_38 (by decide) (by decide) rfl ⟨by simp only [jM_X4_part, jM_X4_expectSign]; omega, by simp only [jM_X4_part, jM_X4_expectSign]; omega⟩ rfl (Nat.le_of_ble_eq_true rfl) (fun r16 s17 hr16 => ?_)
        refine jr_aload_n dX4_part_59 1 rfl ?_
        refine jr_dup dX4_part_60 rfl ?_
        refine jr_geti (i := 3) jc_4 jk_38 (by decide) (Nat.le_of_ble_eq_true rfl) jlk_38_3 jft_4_3 jw_188 dX4_part_61 ?_
        refine jr_iconst dX4_part_64 ?_
        refine jr_isub dX4_part_65 ?_
        refine jr_puti (i := 3) jc_4 jk_38 (by decide) (Nat.le_of_ble_eq_true rfl) jlk_38_3 jft_4_3 rfl jw_188 rfl dX4_part_66 ?_
        refine jr_lm (fun s18 => ?_)
        refine jr_goto (t := 80) dX4_part_69 (by decide) ?_
        refine jr_sub [] rfl ?_
        exact jj_X4_part_B80 G d rc hrc s18
    · refine jr_aload_n dX4_part_72 1 rfl ?_
      refine jr_aload_n dX4_part_73 1 rfl ?_
      refine j2_callVi (As := []) dX4_part_74 (jt_X4_peekWord G s4) jv_X4_peekWord ⟨rfl, rfl, rfl⟩ jw_627 jk_38 (by decide) (by decide) rfl ⟨by simp only [jM_X4_part, jM_X4_peekWord]; omega, by simp only [jM_X4_part, jM_X4_peekWord]; omega⟩ rfl (Nat.le_of_ble_eq_true rfl) (fun r7 s8 hr7 => ?_)
      refine j2_callVv (As := [jl_vi r7]) dX4_part_77 (hrc.2.2.2.2.2.2.1 r7 hr7 s8) (jv_X4_wordPart d) ⟨rfl, rfl, rfl⟩ jw_707 jk_38 (by decide) (by decide) rfl ⟨by simp only [jM_X4_part, jM_X4_wordPart]; omega, by simp only [jM_X4_part, jM_X4_wordPart]; omega⟩ rfl (Nat.le_of_ble_eq_true rfl) (fun r9 s10 hr9 => ?_)
      refine jr_sub [] rfl ?_
      exact jj_X4_part_B80 G d rc hrc s10
  · refine jr_aload_n dX4_part_12 1 rfl ?_
    refine jr_grd (fun g19 => ?_)
    refine jr_getr (i := 1) jc_4 jk_38 (by decide) (Nat.le_of_ble_eq_true rfl) jlk_38_1 jft_4_1 g19.1 jw_186 dX4_part_13 ?_
    refine jr_aload_n dX4_part_16 1 rfl ?_
    refine jr_iconst dX4_part_17 ?_
    refine jr_sipush dX4_part_18 (by decide) ?_
    refine j2_callVi (As := [jl_vi (0 : Int), jl_vi (9999 : Int)]) dX4_part_21 (jt_X4_takeNumber G (0 : Int) (9999 : Int) (jl_nlit rfl) (jl_nlit rfl) s4) jv_X4_takeNumber ⟨rfl, rfl, rfl⟩ jw_693 jk_38 (by decide) (by decide) rfl ⟨by simp only [jM_X4_part, jM_X4_takeNumber]; omega, by simp only [jM_X4_part, jM_X4_takeNumber]; omega⟩ rfl (Nat.le_of_ble_eq_true rfl) (fun r20 s21 hr20 => ?_)
    refine j2_callVv (As := [jl_vi r20]) dX4_part_24 (jt_X0_put G (jl_gr s4 38 1) r20 hr20 s21) jv_X0_put ⟨rfl, rfl, rfl⟩ jw_694 (jl_kd1 g19.2) (by decide) (jl_kdlt g19.2 (by decide)) rfl ⟨by simp only [jM_X4_part, jM_X0_put]; omega, by simp only [jM_X4_part, jM_X0_put]; omega⟩ rfl (Nat.le_of_ble_eq_true rfl) (fun r22 s23 hr22 => ?_)
    refine jr_goto (t := 80) dX4_part_27 (by decide) ?_
    refine jr_sub [] rfl ?_
    exact jj_X4_part_B80 G d rc hrc s23
