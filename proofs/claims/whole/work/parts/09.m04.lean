def jf_X1_firstUnlit_L14 : Nat → Int → Int → Int → jl_Mm → jl_O
  | 0, _, _, _, _ => none
  | n + 1, l1, l2, l3, s0 =>
    if l2 < l3 then (some ((-1 : Int), s0)) else (jl_bd (jf_X5_pass 196 s0) fun r7 s8 => if 0 ≤ l1 ∧ l1 < ((8 : Nat) : Int) then if jl_g s8 198 (l1).toNat = (0 : Int) then (some (l3, s8)) else (jf_X1_firstUnlit_L14 n l1 l2 (jl_add l3 1) s8) else none)
set_option maxRecDepth 20000 in
set_option maxHeartbeats 2000000 in
theorem jj_X1_firstUnlit_L14 (G : jl_GC) : ∀ (n : Nat) (l1 : Int) (l2 : Int) (l3 : Int) (hl1 : jl_n3 l1) (hl2 : jl_n3 l2) (hl3 : jl_n3 l3) (s0 : jl_Mm), j2 G jM_X1_firstUnlit 14 [(0, jl_vr G 195), (1, jl_vi l1), (2, jl_vi l2), (3, jl_vi l3)] [] s0 (jf_X1_firstUnlit_L14 n l1 l2 l3 s0) := by
  intro n
  induction n with
  | zero =>
    intros
    exact jr_none
  | succ n ih =>
    intro l1 l2 l3 hl1 hl2 hl3 s0
    refine jr_iload_n dX1_firstUnlit_14 3 rfl ?_
    refine jr_iload_n dX1_firstUnlit_15 2 rfl ?_
    refine jr_icmp_gt (t := 51) dX1_firstUnlit_16 (by decide) hl3 hl2 (fun c6 => ?_) (fun c6 => ?_)
    · refine jr_iconst dX1_firstUnlit_51 ?_
      exact jr_ret_i rfl (jl_nlit rfl) dX1_firstUnlit_52
    · refine jr_aload_n dX1_firstUnlit_19 0 rfl ?_
      refine jr_getk (i := 0) jc_1 jk_195 (by decide) (Nat.le_of_ble_eq_true rfl) jlk_195_0 jw_346 dX1_firstUnlit_20 ?_
      refine jr_aload_n dX1_firstUnlit_23 0 rfl ?_
      refine jr_getk (i := 2) jc_1 jk_195 (by decide) (Nat.le_of_ble_eq_true rfl) jlk_195_2 jw_349 dX1_firstUnlit_24 ?_
      refine j2_callVi (As := [jl_vr G 196]) dX1_firstUnlit_27 (jt_X5_pass G 196 s0) jv_X5_pass ⟨rfl, rfl, rfl⟩ jw_934 jk_190 (by decide) (by decide) rfl ⟨Nat.le_of_ble_eq_true rfl, Nat.le_of_ble_eq_true rfl⟩ rfl (Nat.le_of_ble_eq_true rfl) (fun r7 s8 hr7 => ?_)
      refine jr_pop dX1_firstUnlit_30 rfl ?_
      refine jr_aload_n dX1_firstUnlit_31 0 rfl ?_
      refine jr_getk (i := 2) jc_1 jk_195 (by decide) (Nat.le_of_ble_eq_true rfl) jlk_195_2 jw_349 dX1_firstUnlit_32 ?_
      refine jr_getkN (i := 3) jc_7 jk_196 (by decide) (Nat.le_of_ble_eq_true rfl) jlk_196_3 jw_251 dX1_firstUnlit_35 ?_
      refine jr_iload_n dX1_firstUnlit_38 1 rfl ?_
      refine jr_grd (fun g9 => ?_)
      refine jr_iaload jk_198 (by decide) hl1 g9 dX1_firstUnlit_39 ?_
      refine jr_if_ne (t := 45) dX1_firstUnlit_40 (by decide) (jl_n3_to _) (fun c10 => ?_) (fun c10 => ?_)
      · refine jr_iload_n dX1_firstUnlit_43 3 rfl ?_
        exact jr_ret_i rfl hl3 dX1_firstUnlit_44
      · refine jr_iinc (j := 3) (lv := [(3, jl_vi (jl_add l3 1)), (0, jl_vr G 195), (1, jl_vi l1), (2, jl_vi l2)]) dX1_firstUnlit_45 rfl (Nat.le_of_ble_eq_true rfl) rfl ?_
        refine jr_goto (t := 14) dX1_firstUnlit_48 (by decide) ?_
        refine jr_sub [1, 2, 3, 0] rfl ?_
        exact ih l1 l2 (jl_add l3 1) hl1 hl2 (jl_n3_to _) s8
def jf_X1_firstUnlit (v1 : Int) (s0 : jl_Mm) : jl_O :=
  jl_bd (jf_X1_restart s0) fun r1 s2 => if (jl_kd (r1).toNat).1 = 7 then jl_bd (jf_X1_reach (60 : Int) s2) fun r4 s5 => jf_X1_firstUnlit_L14 jl_fu v1 r4 (1 : Int) s5 else none
set_option maxRecDepth 20000 in
set_option maxHeartbeats 2000000 in
theorem jt_X1_firstUnlit (G : jl_GC) (v1 : Int) (h1 : jl_n3 v1) (s0 : jl_Mm) : jC2 G jM_X1_firstUnlit [jl_vr G 195, jl_vi v1] s0 (jf_X1_firstUnlit v1 s0) := by
  refine jl_met (plainFor_of_name rfl) (Nat.le_of_ble_eq_true rfl) ?_
  show j2 G jM_X1_firstUnlit 0 [(0, jl_vr G 195), (1, jl_vi v1)] [] s0 _
  refine jr_aload_n dX1_firstUnlit_0 0 rfl ?_
  refine j2_callVa (As := []) dX1_firstUnlit_1 (jt_X1_restart G s0) jv_X1_restart ⟨rfl, rfl, rfl⟩ jw_948 jk_195 (by decide) (by decide) rfl ⟨Nat.le_of_ble_eq_true rfl, Nat.le_of_ble_eq_true rfl⟩ rfl (Nat.le_of_ble_eq_true rfl) (fun r1 s2 hr1 => ?_)
  refine jr_grd (fun g3 => ?_)
  refine jr_pop dX1_firstUnlit_4 rfl ?_
  refine jr_aload_n dX1_firstUnlit_5 0 rfl ?_
  refine jr_bipush dX1_firstUnlit_6 (by decide) ?_
  refine j2_callVi (As := [jl_vi (60 : Int)]) dX1_firstUnlit_8 (jt_X1_reach G (60 : Int) (jl_nlit rfl) s2) jv_X1_reach ⟨rfl, rfl, rfl⟩ jw_870 jk_195 (by decide) (by decide) rfl ⟨Nat.le_of_ble_eq_true rfl, Nat.le_of_ble_eq_true rfl⟩ rfl (Nat.le_of_ble_eq_true rfl) (fun r4 s5 hr4 => ?_)
  refine jr_istore_n (lv := [(2, jl_vi r4), (0, jl_vr G 195), (1, jl_vi v1)]) dX1_firstUnlit_11 rfl (Nat.le_of_ble_eq_true rfl) rfl ?_
  refine jr_iconst dX1_firstUnlit_12 ?_
  refine jr_istore_n (lv := [(3, jl_vi (1 : Int)), (2, jl_vi r4), (0, jl_vr G 195), (1, jl_vi v1)]) dX1_firstUnlit_13 rfl (Nat.le_of_ble_eq_true rfl) rfl ?_
  refine jr_sub [2, 3, 1, 0] rfl ?_
  exact jj_X1_firstUnlit_L14 G jl_fu v1 r4 (1 : Int) h1 hr4 (jl_nlit rfl) s5
def jf_X11_isLit_B25 (k0 : Int) (s0 : jl_Mm) : jl_O :=
  jl_zb k0 s0
set_option maxRecDepth 20000 in
set_option maxHeartbeats 2000000 in
theorem jj_X11_isLit_B25 (G : jl_GC) (k0 : Int) (hk0 : jl_n3 k0) (s0 : jl_Mm) : j2 G jM_X11_isLit 25 [] [jl_vi k0] s0 (jf_X11_isLit_B25 k0 s0) := by
  exact jr_ret_z rfl dX11_isLit_25
def jf_X11_isLit_B24 (s0 : jl_Mm) : jl_O :=
  jf_X11_isLit_B25 (0 : Int) s0
set_option maxRecDepth 20000 in
set_option maxHeartbeats 2000000 in
theorem jj_X11_isLit_B24 (G : jl_GC) (s0 : jl_Mm) : j2 G jM_X11_isLit 24 [] [] s0 (jf_X11_isLit_B24 s0) := by
  refine jr_iconst dX11_isLit_24 ?_
  exact jj_X11_isLit_B25 G (0 : Int) (jl_nlit rfl) s0
def jf_X11_isLit (v1 : Int) (s0 : jl_Mm) : jl_O :=
  jl_bd (jf_X11_isLie v1 s0) fun r1 s2 => if r1 = (0 : Int) then (jf_X11_isLit_B24 s2) else (if 0 ≤ v1 ∧ v1 < ((8 : Nat) : Int) then if jl_g s2 42 (v1).toNat ≤ (0 : Int) then (jf_X11_isLit_B24 s2) else (jf_X11_isLit_B25 (1 : Int) s2) else none)
set_option maxRecDepth 20000 in
set_option maxHeartbeats 2000000 in
theorem jt_X11_isLit (G : jl_GC) (v1 : Int) (h1 : jl_n3 v1) (s0 : jl_Mm) : jC2 G jM_X11_isLit [jl_vr G 0, jl_vi v1] s0 (jf_X11_isLit v1 s0) := by
  refine jl_met (plainFor_of_name rfl) (Nat.le_of_ble_eq_true rfl) ?_
  show j2 G jM_X11_isLit 0 [(0, jl_vr G 0), (1, jl_vi v1)] [] s0 _
  refine jr_aload_n dX11_isLit_0 0 rfl ?_
  refine jr_iload_n dX11_isLit_1 1 rfl ?_
  refine j2_callVz (As := [jl_vi v1]) dX11_isLit_2 (jt_X11_isLie G v1 h1 s0) jv_X11_isLie ⟨rfl, rfl, rfl⟩ jw_837 jk_0 (by decide) (by decide) rfl ⟨Nat.le_of_ble_eq_true rfl, Nat.le_of_ble_eq_true rfl⟩ rfl (Nat.le_of_ble_eq_true rfl) (fun r1 s2 hr1 => ?_)
  refine jr_if_eq (t := 24) dX11_isLit_5 (by decide) (jl_nz hr1) (fun c3 => ?_) (fun c3 => ?_)
  · refine jr_sub [] rfl ?_
    exact jj_X11_isLit_B24 G s2
  · refine jr_aload_n dX11_isLit_8 0 rfl ?_
    refine jr_getk (i := 6) jc_11 jk_0 (by decide) (Nat.le_of_ble_eq_true rfl) jlk_0_6 jw_430 dX11_isLit_9 ?_
    refine jr_getkN (i := 3) jc_7 jk_40 (by decide) (Nat.le_of_ble_eq_true rfl) jlk_40_3 jw_252 dX11_isLit_12 ?_
    refine jr_iload_n dX11_isLit_15 1 rfl ?_
    refine jr_grd (fun g4 => ?_)
    refine jr_iaload jk_42 (by decide) h1 g4 dX11_isLit_16 ?_
    refine jr_if_le (t := 24) dX11_isLit_17 (by decide) (jl_n3_to _) (fun c5 => ?_) (fun c5 => ?_)
    · refine jr_sub [] rfl ?_
      exact jj_X11_isLit_B24 G s2
    · refine jr_iconst dX11_isLit_20 ?_
      refine jr_goto (t := 25) dX11_isLit_21 (by decide) ?_
      refine jr_sub [] rfl ?_
      exact jj_X11_isLit_B25 G (1 : Int) (jl_nlit rfl) s2
def jf_X11_out_B20 (k0 : Int) (s0 : jl_Mm) : jl_O :=
  some (k0, s0)
set_option maxRecDepth 20000 in
set_option maxHeartbeats 2000000 in
theorem jj_X11_out_B20 (G : jl_GC) (k0 : Int) (hk0 : jl_n3 k0) (s0 : jl_Mm) : j2 G jM_X11_out 20 [] [jl_vi k0] s0 (jf_X11_out_B20 k0 s0) := by
  exact jr_ret_i rfl hk0 dX11_out_20
def jf_X11_out (v1 : Int) (s0 : jl_Mm) : jl_O :=
  jl_bd (jf_X11_isLit v1 s0) fun r1 s2 => if r1 = (0 : Int) then (jf_X11_out_B20 (-1 : Int) s2) else (jl_bd (jf_X1_firstUnlit v1 s2) fun r4 s5 => jf_X11_out_B20 r4 s5)
set_option maxRecDepth 20000 in
set_option maxHeartbeats 2000000 in
theorem jt_X11_out (G : jl_GC) (v1 : Int) (h1 : jl_n3 v1) (s0 : jl_Mm) : jC2 G jM_X11_out [jl_vr G 0, jl_vi v1] s0 (jf_X11_out v1 s0) := by
  refine jl_met (plainFor_of_name rfl) (Nat.le_of_ble_eq_true rfl) ?_
  show j2 G jM_X11_out 0 [(0, jl_vr G 0), (1, jl_vi v1)] [] s0 _
  refine jr_aload_n dX11_out_0 0 rfl ?_
  refine jr_iload_n dX11_out_1 1 rfl ?_
  refine j2_callVz (As := [jl_vi v1]) dX11_out_2 (jt_X11_isLit G v1 h1 s0) jv_X11_isLit ⟨rfl, rfl, rfl⟩ jw_940 jk_0 (by decide) (by decide) rfl ⟨Nat.le_of_ble_eq_true rfl, Nat.le_of_ble_eq_true rfl⟩ rfl (Nat.le_of_ble_eq_true rfl) (fun r1 s2 hr1 => ?_)
  refine jr_if_eq (t := 19) dX11_out_5 (by decide) (jl_nz hr1) (fun c3 => ?_) (fun c3 => ?_)
  · refine jr_iconst dX11_out_19 ?_
    refine jr_sub [] rfl ?_
    exact jj_X11_out_B20 G (-1 : Int) (jl_nlit rfl) s2
  · refine jr_aload_n dX11_out_8 0 rfl ?_
    refine jr_getk (i := 10) jc_11 jk_0 (by decide) (Nat.le_of_ble_eq_true rfl) jlk_0_10 jw_434 dX11_out_9 ?_
    refine jr_iload_n dX11_out_12 1 rfl ?_
    refine j2_callVi (As := [jl_vi v1]) dX11_out_13 (jt_X1_firstUnlit G v1 h1 s2) jv_X1_firstUnlit ⟨rfl, rfl, rfl⟩ jw_944 jk_195 (by decide) (by decide) rfl ⟨Nat.le_of_ble_eq_true rfl, Nat.le_of_ble_eq_true rfl⟩ rfl (Nat.le_of_ble_eq_true rfl) (fun r4 s5 hr4 => ?_)
    refine jr_goto (t := 20) dX11_out_16 (by decide) ?_
    refine jr_sub [] rfl ?_
    exact jj_X11_out_B20 G r4 hr4 s5
def jf_X1_firstTrust_B90 (R18 : Int → Int → Int → Int → Int → jl_Mm → jl_O) (l1 : Int) (l2 : Int) (l3 : Int) (l5 : Int) (k0 : Int) (s0 : jl_Mm) : jl_O :=
  jl_bd (jf_X5_pass 196 s0) fun r13 s14 => R18 l1 l2 l3 k0 (jl_add l5 1) s14
set_option maxRecDepth 20000 in
set_option maxHeartbeats 2000000 in
theorem jj_X1_firstTrust_B90 (G : jl_GC) (R18 : Int → Int → Int → Int → Int → jl_Mm → jl_O) (hR18 : ∀ (l1 : Int) (l2 : Int) (l3 : Int) (l4 : Int) (l5 : Int) (_hl1 : jl_n3 l1) (_hl2 : jl_n3 l2) (_hl3 : jl_n3 l3) (_hl4 : jl_n3 l4) (_hl5 : jl_n3 l5) (s0 : jl_Mm), j2 G jM_X1_firstTrust 18 [(0, jl_vr G 195), (1, jl_vi l1), (2, jl_vi l2), (3, jl_vi l3), (4, jl_vi l4), (5, jl_vi l5)] [] s0 (R18 l1 l2 l3 l4 l5 s0)) (l1 : Int) (l2 : Int) (l3 : Int) (l5 : Int) (k0 : Int) (hl1 : jl_n3 l1) (hl2 : jl_n3 l2) (hl3 : jl_n3 l3) (hl5 : jl_n3 l5) (hk0 : jl_n3 k0) (s0 : jl_Mm) : j2 G jM_X1_firstTrust 90 [(0, jl_vr G 195), (1, jl_vi l1), (2, jl_vi l2), (3, jl_vi l3), (5, jl_vi l5)] [jl_vi k0] s0 (jf_X1_firstTrust_B90 R18 l1 l2 l3 l5 k0 s0) := by
  refine jr_istore (lv := [(4, jl_vi k0), (0, jl_vr G 195), (1, jl_vi l1), (2, jl_vi l2), (3, jl_vi l3), (5, jl_vi l5)]) dX1_firstTrust_90 (Nat.le_of_ble_eq_true rfl) rfl ?_
  refine jr_aload_n dX1_firstTrust_92 1 rfl ?_
  refine jr_getk (i := 0) jc_1 jk_195 (by decide) (Nat.le_of_ble_eq_true rfl) jlk_195_0 jw_346 dX1_firstTrust_93 ?_
  refine jr_aload_n dX1_firstTrust_96 1 rfl ?_
  refine jr_getk (i := 2) jc_1 jk_195 (by decide) (Nat.le_of_ble_eq_true rfl) jlk_195_2 jw_349 dX1_firstTrust_97 ?_
  refine j2_callVi (As := [jl_vr G 196]) dX1_firstTrust_100 (jt_X5_pass G 196 s0) jv_X5_pass ⟨rfl, rfl, rfl⟩ jw_934 jk_190 (by decide) (by decide) rfl ⟨Nat.le_of_ble_eq_true rfl, Nat.le_of_ble_eq_true rfl⟩ rfl (Nat.le_of_ble_eq_true rfl) (fun r13 s14 hr13 => ?_)
  refine jr_pop dX1_firstTrust_103 rfl ?_
  refine jr_iinc (j := 5) (lv := [(5, jl_vi (jl_add l5 1)), (4, jl_vi k0), (0, jl_vr G 195), (1, jl_vi l1), (2, jl_vi l2), (3, jl_vi l3)]) dX1_firstTrust_104 rfl (Nat.le_of_ble_eq_true rfl) rfl ?_
  refine jr_goto (t := 18) dX1_firstTrust_107 (by decide) ?_
  refine jr_sub [2, 3, 4, 5, 1, 0] rfl ?_
  exact hR18 l1 l2 l3 k0 (jl_add l5 1) hl1 hl2 hl3 hk0 (jl_n3_to _) s14
def jf_X1_firstTrust_B85 (R18 : Int → Int → Int → Int → Int → jl_Mm → jl_O) (l1 : Int) (l2 : Int) (l3 : Int) (l5 : Int) (s0 : jl_Mm) : jl_O :=
  jf_X1_firstTrust_B90 (R18) l1 l2 l3 l5 (1 : Int) s0
set_option maxRecDepth 20000 in
set_option maxHeartbeats 2000000 in
theorem jj_X1_firstTrust_B85 (G : jl_GC) (R18 : Int → Int → Int → Int → Int → jl_Mm → jl_O) (hR18 : ∀ (l1 : Int) (l2 : Int) (l3 : Int) (l4 : Int) (l5 : Int) (_hl1 : jl_n3 l1) (_hl2 : jl_n3 l2) (_hl3 : jl_n3 l3) (_hl4 : jl_n3 l4) (_hl5 : jl_n3 l5) (s0 : jl_Mm), j2 G jM_X1_firstTrust 18 [(0, jl_vr G 195), (1, jl_vi l1), (2, jl_vi l2), (3, jl_vi l3), (4, jl_vi l4), (5, jl_vi l5)] [] s0 (R18 l1 l2 l3 l4 l5 s0)) (l1 : Int) (l2 : Int) (l3 : Int) (l5 : Int) (hl1 : jl_n3 l1) (hl2 : jl_n3 l2) (hl3 : jl_n3 l3) (hl5 : jl_n3 l5) (s0 : jl_Mm) : j2 G jM_X1_firstTrust 85 [(0, jl_vr G 195), (1, jl_vi l1), (2, jl_vi l2), (3, jl_vi l3), (5, jl_vi l5)] [] s0 (jf_X1_firstTrust_B85 R18 l1 l2 l3 l5 s0) := by
  refine jr_iconst dX1_firstTrust_85 ?_
  refine jr_goto (t := 90) dX1_firstTrust_86 (by decide) ?_
  exact jj_X1_firstTrust_B90 G (R18) (hR18) l1 l2 l3 l5 (1 : Int) hl1 hl2 hl3 hl5 (jl_nlit rfl) s0
def jf_X1_firstTrust_B75 (R18 : Int → Int → Int → Int → Int → jl_Mm → jl_O) (l1 : Int) (l2 : Int) (l3 : Int) (l4 : Int) (l5 : Int) (l6 : Int) (s0 : jl_Mm) : jl_O :=
  if l4 = (0 : Int) then (if l6 = (0 : Int) then (jf_X1_firstTrust_B90 (R18) l1 l2 l3 l5 (0 : Int) s0) else (jf_X1_firstTrust_B85 (R18) l1 l2 l3 l5 s0)) else (jf_X1_firstTrust_B85 (R18) l1 l2 l3 l5 s0)
set_option maxRecDepth 20000 in
set_option maxHeartbeats 2000000 in
theorem jj_X1_firstTrust_B75 (G : jl_GC) (R18 : Int → Int → Int → Int → Int → jl_Mm → jl_O) (hR18 : ∀ (l1 : Int) (l2 : Int) (l3 : Int) (l4 : Int) (l5 : Int) (_hl1 : jl_n3 l1) (_hl2 : jl_n3 l2) (_hl3 : jl_n3 l3) (_hl4 : jl_n3 l4) (_hl5 : jl_n3 l5) (s0 : jl_Mm), j2 G jM_X1_firstTrust 18 [(0, jl_vr G 195), (1, jl_vi l1), (2, jl_vi l2), (3, jl_vi l3), (4, jl_vi l4), (5, jl_vi l5)] [] s0 (R18 l1 l2 l3 l4 l5 s0)) (l1 : Int) (l2 : Int) (l3 : Int) (l4 : Int) (l5 : Int) (l6 : Int) (hl1 : jl_n3 l1) (hl2 : jl_n3 l2) (hl3 : jl_n3 l3) (hl4 : jl_n3 l4) (hl5 : jl_n3 l5) (hl6 : jl_n3 l6) (s0 : jl_Mm) : j2 G jM_X1_firstTrust 75 [(0, jl_vr G 195), (1, jl_vi l1), (2, jl_vi l2), (3, jl_vi l3), (4, jl_vi l4), (5, jl_vi l5), (6, jl_vi l6)] [] s0 (jf_X1_firstTrust_B75 R18 l1 l2 l3 l4 l5 l6 s0) := by
  refine jr_iload dX1_firstTrust_75 4 rfl ?_
  refine jr_if_ne (t := 85) dX1_firstTrust_77 (by decide) hl4 (fun c12 => ?_) (fun c12 => ?_)
  · refine jr_iload dX1_firstTrust_80 6 rfl ?_
    refine jr_if_eq (t := 89) dX1_firstTrust_82 (by decide) hl6 (fun c15 => ?_) (fun c15 => ?_)
    · refine jr_iconst dX1_firstTrust_89 ?_
      refine jr_sub [0, 1, 2, 3, 5] rfl ?_
      exact jj_X1_firstTrust_B90 G (R18) (hR18) l1 l2 l3 l5 (0 : Int) hl1 hl2 hl3 hl5 (jl_nlit rfl) s0
    · refine jr_sub [0, 1, 2, 3, 5] rfl ?_
      exact jj_X1_firstTrust_B85 G (R18) (hR18) l1 l2 l3 l5 hl1 hl2 hl3 hl5 s0
  · refine jr_sub [0, 1, 2, 3, 5] rfl ?_
    exact jj_X1_firstTrust_B85 G (R18) (hR18) l1 l2 l3 l5 hl1 hl2 hl3 hl5 s0
def jf_X1_firstTrust_B72 (l5 : Int) (s0 : jl_Mm) : jl_O :=
  some (l5, s0)
set_option maxRecDepth 20000 in
set_option maxHeartbeats 2000000 in
theorem jj_X1_firstTrust_B72 (G : jl_GC) (l5 : Int) (hl5 : jl_n3 l5) (s0 : jl_Mm) : j2 G jM_X1_firstTrust 72 [(5, jl_vi l5)] [] s0 (jf_X1_firstTrust_B72 l5 s0) := by
  refine jr_iload dX1_firstTrust_72 0 rfl ?_
  exact jr_ret_i rfl hl5 dX1_firstTrust_74
def jf_X1_firstTrust_B48 (R18 : Int → Int → Int → Int → Int → jl_Mm → jl_O) (l1 : Int) (l2 : Int) (l3 : Int) (l4 : Int) (l5 : Int) (k0 : Int) (s0 : jl_Mm) : jl_O :=
  if l2 = (0 : Int) then (if k0 = (0 : Int) then (jf_X1_firstTrust_B75 (R18) l1 l2 l3 l4 l5 k0 s0) else (jf_X1_firstTrust_B72 l5 s0)) else (if l4 = (0 : Int) then (jf_X1_firstTrust_B75 (R18) l1 l2 l3 l4 l5 k0 s0) else (if k0 = (0 : Int) then (jf_X1_firstTrust_B72 l5 s0) else (jf_X1_firstTrust_B75 (R18) l1 l2 l3 l4 l5 k0 s0)))
set_option maxRecDepth 20000 in
set_option maxHeartbeats 2000000 in
theorem jj_X1_firstTrust_B48 (G : jl_GC) (R18 : Int → Int → Int → Int → Int → jl_Mm → jl_O) (hR18 : ∀ (l1 : Int) (l2 : Int) (l3 : Int) (l4 : Int) (l5 : Int) (_hl1 : jl_n3 l1) (_hl2 : jl_n3 l2) (_hl3 : jl_n3 l3) (_hl4 : jl_n3 l4) (_hl5 : jl_n3 l5) (s0 : jl_Mm), j2 G jM_X1_firstTrust 18 [(0, jl_vr G 195), (1, jl_vi l1), (2, jl_vi l2), (3, jl_vi l3), (4, jl_vi l4), (5, jl_vi l5)] [] s0 (R18 l1 l2 l3 l4 l5 s0)) (l1 : Int) (l2 : Int) (l3 : Int) (l4 : Int) (l5 : Int) (k0 : Int) (hl1 : jl_n3 l1) (hl2 : jl_n3 l2) (hl3 : jl_n3 l3) (hl4 : jl_n3 l4) (hl5 : jl_n3 l5) (hk0 : jl_n3 k0) (s0 : jl_Mm) : j2 G jM_X1_firstTrust 48 [(0, jl_vr G 195), (1, jl_vi l1), (2, jl_vi l2), (3, jl_vi l3), (4, jl_vi l4), (5, jl_vi l5)] [jl_vi k0] s0 (jf_X1_firstTrust_B48 R18 l1 l2 l3 l4 l5 k0 s0) := by
  refine jr_istore (lv := [(6, jl_vi k0), (0, jl_vr G 195), (1, jl_vi l1), (2, jl_vi l2), (3, jl_vi l3), (4, jl_vi l4), (5, jl_vi l5)]) dX1_firstTrust_48 (Nat.le_of_ble_eq_true rfl) rfl ?_
  refine jr_iload_n dX1_firstTrust_50 3 rfl ?_
  refine jr_if_eq (t := 67) dX1_firstTrust_51 (by decide) hl2 (fun c10 => ?_) (fun c10 => ?_)
  · refine jr_iload dX1_firstTrust_67 0 rfl ?_
    refine jr_if_eq (t := 75) dX1_firstTrust_69 (by decide) hk0 (fun c11 => ?_) (fun c11 => ?_)
    · refine jr_sub [1, 2, 3, 4, 5, 6, 0] rfl ?_
      exact jj_X1_firstTrust_B75 G (R18) (hR18) l1 l2 l3 l4 l5 k0 hl1 hl2 hl3 hl4 hl5 hk0 s0
    · refine jr_sub [6] rfl ?_
      exact jj_X1_firstTrust_B72 G l5 hl5 s0
  · refine jr_iload dX1_firstTrust_54 5 rfl ?_
    refine jr_if_eq (t := 75) dX1_firstTrust_56 (by decide) hl4 (fun c16 => ?_) (fun c16 => ?_)
    · refine jr_sub [1, 2, 3, 4, 5, 6, 0] rfl ?_
      exact jj_X1_firstTrust_B75 G (R18) (hR18) l1 l2 l3 l4 l5 k0 hl1 hl2 hl3 hl4 hl5 hk0 s0
    · refine jr_iload dX1_firstTrust_59 0 rfl ?_
      refine jr_if_ne (t := 75) dX1_firstTrust_61 (by decide) hk0 (fun c17 => ?_) (fun c17 => ?_)
      · refine jr_goto (t := 72) dX1_firstTrust_64 (by decide) ?_
        refine jr_sub [6] rfl ?_
        exact jj_X1_firstTrust_B72 G l5 hl5 s0
      · refine jr_sub [1, 2, 3, 4, 5, 6, 0] rfl ?_
        exact jj_X1_firstTrust_B75 G (R18) (hR18) l1 l2 l3 l4 l5 k0 hl1 hl2 hl3 hl4 hl5 hk0 s0
def jf_X1_firstTrust_L18 : Nat → Int → Int → Int → Int → Int → jl_Mm → jl_O
  | 0, _, _, _, _, _, _ => none
  | n + 1, l1, l2, l3, l4, l5, s0 =>
    if l3 < l5 then (some ((-1 : Int), s0)) else (jl_bd (jf_X5_believed 196 s0) fun r7 s8 => if jl_and (jl_shr r7 l1) (1 : Int) = (1 : Int) then (jf_X1_firstTrust_B48 (jf_X1_firstTrust_L18 n) l1 l2 l3 l4 l5 (1 : Int) s8) else (jf_X1_firstTrust_B48 (jf_X1_firstTrust_L18 n) l1 l2 l3 l4 l5 (0 : Int) s8))
set_option maxRecDepth 20000 in
set_option maxHeartbeats 2000000 in
theorem jj_X1_firstTrust_L18 (G : jl_GC) : ∀ (n : Nat) (l1 : Int) (l2 : Int) (l3 : Int) (l4 : Int) (l5 : Int) (hl1 : jl_n3 l1) (hl2 : jl_n3 l2) (hl3 : jl_n3 l3) (hl4 : jl_n3 l4) (hl5 : jl_n3 l5) (s0 : jl_Mm), j2 G jM_X1_firstTrust 18 [(0, jl_vr G 195), (1, jl_vi l1), (2, jl_vi l2), (3, jl_vi l3), (4, jl_vi l4), (5, jl_vi l5)] [] s0 (jf_X1_firstTrust_L18 n l1 l2 l3 l4 l5 s0) := by
  intro n
  induction n with
  | zero =>
    intros
    exact jr_none
  | succ n ih =>
    intro l1 l2 l3 l4 l5 hl1 hl2 hl3 hl4 hl5 s0
    refine jr_iload dX1_firstTrust_18 5 rfl ?_
    refine jr_iload_n dX1_firstTrust_20 3 rfl ?_
    refine jr_icmp_gt (t := 110) dX1_firstTrust_21 (by decide) hl5 hl3 (fun c6 => ?_) (fun c6 => ?_)
    · refine jr_iconst dX1_firstTrust_110 ?_
      exact jr_ret_i rfl (jl_nlit rfl) dX1_firstTrust_111
    · refine jr_aload_n dX1_firstTrust_24 0 rfl ?_
      refine jr_getk (i := 0) jc_1 jk_195 (by decide) (Nat.le_of_ble_eq_true rfl) jlk_195_0 jw_346 dX1_firstTrust_25 ?_
      refine jr_aload_n dX1_firstTrust_28 0 rfl ?_
      refine jr_getk (i := 2) jc_1 jk_195 (by decide) (Nat.le_of_ble_eq_true rfl) jlk_195_2 jw_349 dX1_firstTrust_29 ?_
      refine j2_callVi (As := [jl_vr G 196]) dX1_firstTrust_32 (jt_X5_believed G 196 s0) jv_X5_believed ⟨rfl, rfl, rfl⟩ jw_935 jk_190 (by decide) (by decide) rfl ⟨Nat.le_of_ble_eq_true rfl, Nat.le_of_ble_eq_true rfl⟩ rfl (Nat.le_of_ble_eq_true rfl) (fun r7 s8 hr7 => ?_)
      refine jr_iload_n dX1_firstTrust_35 1 rfl ?_
      refine jr_ishr dX1_firstTrust_36 ?_
      refine jr_iconst dX1_firstTrust_37 ?_
      refine jr_iand dX1_firstTrust_38 ?_
      refine jr_iconst dX1_firstTrust_39 ?_
      refine jr_icmp_ne (t := 47) dX1_firstTrust_40 (by decide) (jl_n3_to _) (jl_nlit rfl) (fun c9 => ?_) (fun c9 => ?_)
      · refine jr_iconst dX1_firstTrust_43 ?_
        refine jr_goto (t := 48) dX1_firstTrust_44 (by decide) ?_
        exact jj_X1_firstTrust_B48 G (jf_X1_firstTrust_L18 n) (ih) l1 l2 l3 l4 l5 (1 : Int) hl1 hl2 hl3 hl4 hl5 (jl_nlit rfl) s8
      · refine jr_iconst dX1_firstTrust_47 ?_
        exact jj_X1_firstTrust_B48 G (jf_X1_firstTrust_L18 n) (ih) l1 l2 l3 l4 l5 (0 : Int) hl1 hl2 hl3 hl4 hl5 (jl_nlit rfl) s8
def jf_X1_firstTrust (v1 : Int) (v2 : Int) (s0 : jl_Mm) : jl_O :=
  jl_bd (jf_X1_restart s0) fun r1 s2 => if (jl_kd (r1).toNat).1 = 7 then jl_bd (jf_X1_reach (60 : Int) s2) fun r4 s5 => jf_X1_firstTrust_L18 jl_fu v1 v2 r4 (0 : Int) (0 : Int) s5 else none
set_option maxRecDepth 20000 in
set_option maxHeartbeats 2000000 in
theorem jt_X1_firstTrust (G : jl_GC) (v1 : Int) (v2 : Int) (h1 : jl_n3 v1) (h2 : jl_n3 v2) (s0 : jl_Mm) : jC2 G jM_X1_firstTrust [jl_vr G 195, jl_vi v1, jl_vi v2] s0 (jf_X1_firstTrust v1 v2 s0) := by
  refine jl_met (plainFor_of_name rfl) (Nat.le_of_ble_eq_true rfl) ?_
  show j2 G jM_X1_firstTrust 0 [(0, jl_vr G 195), (1, jl_vi v1), (2, jl_vi v2)] [] s0 _
  refine jr_aload_n dX1_firstTrust_0 0 rfl ?_
  refine j2_callVa (As := []) dX1_firstTrust_1 (jt_X1_restart G s0) jv_X1_restart ⟨rfl, rfl, rfl⟩ jw_948 jk_195 (by decide) (by decide) rfl ⟨Nat.le_of_ble_eq_true rfl, Nat.le_of_ble_eq_true rfl⟩ rfl (Nat.le_of_ble_eq_true rfl) (fun r1 s2 hr1 => ?_)
  refine jr_grd (fun g3 => ?_)
  refine jr_pop dX1_firstTrust_4 rfl ?_
  refine jr_aload_n dX1_firstTrust_5 0 rfl ?_
  refine jr_bipush dX1_firstTrust_6 (by decide) ?_
  refine j2_callVi (As := [jl_vi (60 : Int)]) dX1_firstTrust_8 (jt_X1_reach G (60 : Int) (jl_nlit rfl) s2) jv_X1_reach ⟨rfl, rfl, rfl⟩ jw_870 jk_195 (by decide) (by decide) rfl ⟨Nat.le_of_ble_eq_true rfl, Nat.le_of_ble_eq_true rfl⟩ rfl (Nat.le_of_ble_eq_true rfl) (fun r4 s5 hr4 => ?_)
  refine jr_istore_n (lv := [(3, jl_vi r4), (0, jl_vr G 195), (1, jl_vi v1), (2, jl_vi v2)]) dX1_firstTrust_11 rfl (Nat.le_of_ble_eq_true rfl) rfl ?_
  refine jr_iconst dX1_firstTrust_12 ?_
  refine jr_istore (lv := [(4, jl_vi (0 : Int)), (3, jl_vi r4), (0, jl_vr G 195), (1, jl_vi v1), (2, jl_vi v2)]) dX1_firstTrust_13 (Nat.le_of_ble_eq_true rfl) rfl ?_
  refine jr_iconst dX1_firstTrust_15 ?_
  refine jr_istore (lv := [(5, jl_vi (0 : Int)), (4, jl_vi (0 : Int)), (3, jl_vi r4), (0, jl_vr G 195), (1, jl_vi v1), (2, jl_vi v2)]) dX1_firstTrust_16 (Nat.le_of_ble_eq_true rfl) rfl ?_
  refine jr_sub [3, 4, 5, 2, 1, 0] rfl ?_
  exact jj_X1_firstTrust_L18 G jl_fu v1 v2 r4 (0 : Int) (0 : Int) h1 h2 hr4 (jl_nlit rfl) (jl_nlit rfl) s5
def jf_X11_trusted_B17 (s0 : jl_Mm) : jl_O :=
  some ((-1 : Int), s0)
set_option maxRecDepth 20000 in
set_option maxHeartbeats 2000000 in
theorem jj_X11_trusted_B17 (G : jl_GC) (s0 : jl_Mm) : j2 G jM_X11_trusted 17 [] [] s0 (jf_X11_trusted_B17 s0) := by
  refine jr_iconst dX11_trusted_17 ?_
  exact jr_ret_i rfl (jl_nlit rfl) dX11_trusted_18
def jf_X11_trusted_B34 (k1 : Int) (k2 : Int) (s0 : jl_Mm) : jl_O :=
  jl_bd (jf_X1_firstTrust k1 k2 s0) fun r7 s8 => some (r7, s8)
set_option maxRecDepth 20000 in
set_option maxHeartbeats 2000000 in
theorem jj_X11_trusted_B34 (G : jl_GC) (k1 : Int) (k2 : Int) (hk1 : jl_n3 k1) (hk2 : jl_n3 k2) (s0 : jl_Mm) : j2 G jM_X11_trusted 34 [] [jl_vi k2, jl_vi k1, jl_vr G 195] s0 (jf_X11_trusted_B34 k1 k2 s0) := by
  refine j2_callVi (As := [jl_vi k1, jl_vi k2]) dX11_trusted_34 (jt_X1_firstTrust G k1 k2 hk1 hk2 s0) jv_X1_firstTrust ⟨rfl, rfl, rfl⟩ jw_953 jk_195 (by decide) (by decide) rfl ⟨Nat.le_of_ble_eq_true rfl, Nat.le_of_ble_eq_true rfl⟩ rfl (Nat.le_of_ble_eq_true rfl) (fun r7 s8 hr7 => ?_)
  exact jr_ret_i rfl hr7 dX11_trusted_37
def jf_X11_trusted (v1 : Int) (v2 : Int) (s0 : jl_Mm) : jl_O :=
  jl_bd (jf_X11_isLie v1 s0) fun r1 s2 => if r1 = (0 : Int) then (jf_X11_trusted_B17 s2) else (if v2 < (0 : Int) then (jf_X11_trusted_B17 s2) else (if v2 ≤ (1 : Int) then (if v2 = (1 : Int) then (jf_X11_trusted_B34 v1 (1 : Int) s2) else (jf_X11_trusted_B34 v1 (0 : Int) s2)) else (jf_X11_trusted_B17 s2)))
set_option maxRecDepth 20000 in
set_option maxHeartbeats 2000000 in
theorem jt_X11_trusted (G : jl_GC) (v1 : Int) (v2 : Int) (h1 : jl_n3 v1) (h2 : jl_n3 v2) (s0 : jl_Mm) : jC2 G jM_X11_trusted [jl_vr G 0, jl_vi v1, jl_vi v2] s0 (jf_X11_trusted v1 v2 s0) := by
  refine jl_met (plainFor_of_name rfl) (Nat.le_of_ble_eq_true rfl) ?_
  show j2 G jM_X11_trusted 0 [(0, jl_vr G 0), (1, jl_vi v1), (2, jl_vi v2)] [] s0 _
  refine jr_aload_n dX11_trusted_0 0 rfl ?_
  refine jr_iload_n dX11_trusted_1 1 rfl ?_
  refine j2_callVz (As := [jl_vi v1]) dX11_trusted_2 (jt_X11_isLie G v1 h1 s0) jv_X11_isLie ⟨rfl, rfl, rfl⟩ jw_837 jk_0 (by decide) (by decide) rfl ⟨Nat.le_of_ble_eq_true rfl, Nat.le_of_ble_eq_true rfl⟩ rfl (Nat.le_of_ble_eq_true rfl) (fun r1 s2 hr1 => ?_)
  refine jr_if_eq (t := 17) dX11_trusted_5 (by decide) (jl_nz hr1) (fun c3 => ?_) (fun c3 => ?_)
  · refine jr_sub [] rfl ?_
    exact jj_X11_trusted_B17 G s2
  · refine jr_iload_n dX11_trusted_8 2 rfl ?_
    refine jr_if_lt (t := 17) dX11_trusted_9 (by decide) h2 (fun c4 => ?_) (fun c4 => ?_)
    · refine jr_sub [] rfl ?_
      exact jj_X11_trusted_B17 G s2
    · refine jr_iload_n dX11_trusted_12 2 rfl ?_
      refine jr_iconst dX11_trusted_13 ?_
      refine jr_icmp_le (t := 19) dX11_trusted_14 (by decide) h2 (jl_nlit rfl) (fun c5 => ?_) (fun c5 => ?_)
      · refine jr_aload_n dX11_trusted_19 0 rfl ?_
        refine jr_getk (i := 10) jc_11 jk_0 (by decide) (Nat.le_of_ble_eq_true rfl) jlk_0_10 jw_434 dX11_trusted_20 ?_
        refine jr_iload_n dX11_trusted_23 1 rfl ?_
        refine jr_iload_n dX11_trusted_24 2 rfl ?_
        refine jr_iconst dX11_trusted_25 ?_
        refine jr_icmp_ne (t := 33) dX11_trusted_26 (by decide) h2 (jl_nlit rfl) (fun c6 => ?_) (fun c6 => ?_)
        · refine jr_iconst dX11_trusted_29 ?_
          refine jr_goto (t := 34) dX11_trusted_30 (by decide) ?_
          refine jr_sub [] rfl ?_
          exact jj_X11_trusted_B34 G v1 (1 : Int) h1 (jl_nlit rfl) s2
        · refine jr_iconst dX11_trusted_33 ?_
          refine jr_sub [] rfl ?_
          exact jj_X11_trusted_B34 G v1 (0 : Int) h1 (jl_nlit rfl) s2
      · refine jr_sub [] rfl ?_
        exact jj_X11_trusted_B17 G s2
def jf_X1_shortCandle_B74 (R31 : Int → Int → Int → Int → Int → jl_Mm → jl_O) (R46 : Int → Int → Int → Int → Int → Int → jl_Mm → jl_O) (l1 : Int) (l2 : Int) (l3 : Int) (l4 : Int) (l5 : Int) (l6 : Int) (s0 : jl_Mm) : jl_O :=
  R46 l1 l2 l3 l4 l5 (jl_add l6 1) s0
set_option maxRecDepth 20000 in
set_option maxHeartbeats 2000000 in
theorem jj_X1_shortCandle_B74 (G : jl_GC) (R31 : Int → Int → Int → Int → Int → jl_Mm → jl_O) (R46 : Int → Int → Int → Int → Int → Int → jl_Mm → jl_O) (hR31 : ∀ (l1 : Int) (l2 : Int) (l3 : Int) (l4 : Int) (l5 : Int) (_hl1 : jl_n3 l1) (_hl2 : jl_n3 l2) (_hl3 : jl_n3 l3) (_hl4 : jl_n3 l4) (_hl5 : jl_n3 l5) (s0 : jl_Mm), j2 G jM_X1_shortCandle 31 [(0, jl_vr G 195), (1, jl_vi l1), (2, jl_vi l2), (3, jl_vi l3), (4, jl_vi l4), (5, jl_vi l5)] [] s0 (R31 l1 l2 l3 l4 l5 s0)) (hR46 : ∀ (l1 : Int) (l2 : Int) (l3 : Int) (l4 : Int) (l5 : Int) (l6 : Int) (_hl1 : jl_n3 l1) (_hl2 : jl_n3 l2) (_hl3 : jl_n3 l3) (_hl4 : jl_n3 l4) (_hl5 : jl_n3 l5) (_hl6 : jl_n3 l6) (s0 : jl_Mm), j2 G jM_X1_shortCandle 46 [(0, jl_vr G 195), (1, jl_vi l1), (2, jl_vi l2), (3, jl_vi l3), (4, jl_vi l4), (5, jl_vi l5), (6, jl_vi l6)] [] s0 (R46 l1 l2 l3 l4 l5 l6 s0)) (l1 : Int) (l2 : Int) (l3 : Int) (l4 : Int) (l5 : Int) (l6 : Int) (hl1 : jl_n3 l1) (hl2 : jl_n3 l2) (hl3 : jl_n3 l3) (hl4 : jl_n3 l4) (hl5 : jl_n3 l5) (hl6 : jl_n3 l6) (s0 : jl_Mm) : j2 G jM_X1_shortCandle 74 [(0, jl_vr G 195), (1, jl_vi l1), (2, jl_vi l2), (3, jl_vi l3), (4, jl_vi l4), (5, jl_vi l5), (6, jl_vi l6)] [] s0 (jf_X1_shortCandle_B74 R31 R46 l1 l2 l3 l4 l5 l6 s0) := by
  refine jr_iinc (j := 6) (lv := [(6, jl_vi (jl_add l6 1)), (0, jl_vr G 195), (1, jl_vi l1), (2, jl_vi l2), (3, jl_vi l3), (4, jl_vi l4), (5, jl_vi l5)]) dX1_shortCandle_74 rfl (Nat.le_of_ble_eq_true rfl) rfl ?_
  refine jr_goto (t := 46) dX1_shortCandle_77 (by decide) ?_
  refine jr_sub [1, 2, 3, 4, 5, 6, 0] rfl ?_
  exact hR46 l1 l2 l3 l4 l5 (jl_add l6 1) hl1 hl2 hl3 hl4 hl5 (jl_n3_to _) s0
def jf_X1_shortCandle_L46 (R31 : Int → Int → Int → Int → Int → jl_Mm → jl_O) : Nat → Int → Int → Int → Int → Int → Int → jl_Mm → jl_O
  | 0, _, _, _, _, _, _, _ => none
  | n + 1, l1, l2, l3, l4, l5, l6, s0 =>
    if (8 : Int) ≤ l6 then (jl_bd (jf_X1_believedBehind l2 s0) fun r10 s11 => if jl_and r10 l1 = l1 then (some (l5, s11)) else (R31 l1 l2 l3 l4 (jl_add l5 1) s11)) else (if jl_and (jl_shr l3 l6) (1 : Int) = (1 : Int) then (jl_bd (jf_X7_setCandle 196 l6 l5 s0) fun r14 s15 => jf_X1_shortCandle_B74 (R31) (jf_X1_shortCandle_L46 R31 n) l1 l2 l3 l4 l5 l6 s15) else (jf_X1_shortCandle_B74 (R31) (jf_X1_shortCandle_L46 R31 n) l1 l2 l3 l4 l5 l6 s0))
set_option maxRecDepth 20000 in
set_option maxHeartbeats 2000000 in
theorem jj_X1_shortCandle_L46 (G : jl_GC) (R31 : Int → Int → Int → Int → Int → jl_Mm → jl_O) (hR31 : ∀ (l1 : Int) (l2 : Int) (l3 : Int) (l4 : Int) (l5 : Int) (_hl1 : jl_n3 l1) (_hl2 : jl_n3 l2) (_hl3 : jl_n3 l3) (_hl4 : jl_n3 l4) (_hl5 : jl_n3 l5) (s0 : jl_Mm), j2 G jM_X1_shortCandle 31 [(0, jl_vr G 195), (1, jl_vi l1), (2, jl_vi l2), (3, jl_vi l3), (4, jl_vi l4), (5, jl_vi l5)] [] s0 (R31 l1 l2 l3 l4 l5 s0)) : ∀ (n : Nat) (l1 : Int) (l2 : Int) (l3 : Int) (l4 : Int) (l5 : Int) (l6 : Int) (hl1 : jl_n3 l1) (hl2 : jl_n3 l2) (hl3 : jl_n3 l3) (hl4 : jl_n3 l4) (hl5 : jl_n3 l5) (hl6 : jl_n3 l6) (s0 : jl_Mm), j2 G jM_X1_shortCandle 46 [(0, jl_vr G 195), (1, jl_vi l1), (2, jl_vi l2), (3, jl_vi l3), (4, jl_vi l4), (5, jl_vi l5), (6, jl_vi l6)] [] s0 (jf_X1_shortCandle_L46 R31 n l1 l2 l3 l4 l5 l6 s0) := by
  intro n
  induction n with
  | zero =>
    intros
    exact jr_none
  | succ n ih =>
    intro l1 l2 l3 l4 l5 l6 hl1 hl2 hl3 hl4 hl5 hl6 s0
    refine jr_iload dX1_shortCandle_46 6 rfl ?_
    refine jr_bipush dX1_shortCandle_48 (by decide) ?_
    refine jr_icmp_ge (t := 80) dX1_shortCandle_50 (by decide) hl6 (jl_nlit rfl) (fun c9 => ?_) (fun c9 => ?_)
    · refine jr_aload_n dX1_shortCandle_80 0 rfl ?_
      refine jr_iload_n dX1_shortCandle_81 2 rfl ?_
      refine j2_callVi (As := [jl_vi l2]) dX1_shortCandle_82 (jt_X1_believedBehind G l2 hl2 s0) jv_X1_believedBehind ⟨rfl, rfl, rfl⟩ jw_967 jk_195 (by decide) (by decide) rfl ⟨Nat.le_of_ble_eq_true rfl, Nat.le_of_ble_eq_true rfl⟩ rfl (Nat.le_of_ble_eq_true rfl) (fun r10 s11 hr10 => ?_)
      refine jr_iload_n dX1_shortCandle_85 1 rfl ?_
      refine jr_iand dX1_shortCandle_86 ?_
      refine jr_iload_n dX1_shortCandle_87 1 rfl ?_
      refine jr_icmp_ne (t := 94) dX1_shortCandle_88 (by decide) (jl_n3_to _) hl1 (fun c12 => ?_) (fun c12 => ?_)
      · refine jr_iload dX1_shortCandle_91 5 rfl ?_
        exact jr_ret_i rfl hl5 dX1_shortCandle_93
      · refine jr_iinc (j := 5) (lv := [(5, jl_vi (jl_add l5 1)), (0, jl_vr G 195), (1, jl_vi l1), (2, jl_vi l2), (3, jl_vi l3), (4, jl_vi l4), (6, jl_vi l6)]) dX1_shortCandle_94 rfl (Nat.le_of_ble_eq_true rfl) rfl ?_
        refine jr_goto (t := 31) dX1_shortCandle_97 (by decide) ?_
        refine jr_sub [1, 2, 3, 4, 5, 0] rfl ?_
        exact hR31 l1 l2 l3 l4 (jl_add l5 1) hl1 hl2 hl3 hl4 (jl_n3_to _) s11
    · refine jr_iload_n dX1_shortCandle_53 3 rfl ?_
      refine jr_iload dX1_shortCandle_54 6 rfl ?_
      refine jr_ishr dX1_shortCandle_56 ?_
      refine jr_iconst dX1_shortCandle_57 ?_
      refine jr_iand dX1_shortCandle_58 ?_
      refine jr_iconst dX1_shortCandle_59 ?_
      refine jr_icmp_ne (t := 74) dX1_shortCandle_60 (by decide) (jl_n3_to _) (jl_nlit rfl) (fun c13 => ?_) (fun c13 => ?_)
      · refine jr_aload_n dX1_shortCandle_63 0 rfl ?_
        refine jr_getk (i := 2) jc_1 jk_195 (by decide) (Nat.le_of_ble_eq_true rfl) jlk_195_2 jw_349 dX1_shortCandle_64 ?_
        refine jr_iload dX1_shortCandle_67 6 rfl ?_
        refine jr_iload dX1_shortCandle_69 5 rfl ?_
        refine j2_callVv (As := [jl_vi l6, jl_vi l5]) dX1_shortCandle_71 (jt_X7_setCandle G 196 l6 l5 hl6 hl5 s0) jv_X7_setCandle ⟨rfl, rfl, rfl⟩ jw_966 jk_196 (by decide) (by decide) rfl ⟨Nat.le_of_ble_eq_true rfl, Nat.le_of_ble_eq_true rfl⟩ rfl (Nat.le_of_ble_eq_true rfl) (fun r14 s15 hr14 => ?_)
        exact jj_X1_shortCandle_B74 G (R31) (jf_X1_shortCandle_L46 R31 n) (hR31) (ih) l1 l2 l3 l4 l5 l6 hl1 hl2 hl3 hl4 hl5 hl6 s15
      · exact jj_X1_shortCandle_B74 G (R31) (jf_X1_shortCandle_L46 R31 n) (hR31) (ih) l1 l2 l3 l4 l5 l6 hl1 hl2 hl3 hl4 hl5 hl6 s0
def jf_X1_shortCandle_L31 : Nat → Int → Int → Int → Int → Int → jl_Mm → jl_O
  | 0, _, _, _, _, _, _ => none
  | n + 1, l1, l2, l3, l4, l5, s0 =>
    if l4 < l5 then (some ((-1 : Int), s0)) else (jl_bd (jf_X1_restart s0) fun r6 s7 => if (jl_kd (r6).toNat).1 = 7 then jf_X1_shortCandle_L46 (jf_X1_shortCandle_L31 n) jl_fu l1 l2 l3 l4 l5 (0 : Int) s7 else none)
set_option maxRecDepth 20000 in
set_option maxHeartbeats 2000000 in
theorem jj_X1_shortCandle_L31 (G : jl_GC) : ∀ (n : Nat) (l1 : Int) (l2 : Int) (l3 : Int) (l4 : Int) (l5 : Int) (hl1 : jl_n3 l1) (hl2 : jl_n3 l2) (hl3 : jl_n3 l3) (hl4 : jl_n3 l4) (hl5 : jl_n3 l5) (s0 : jl_Mm), j2 G jM_X1_shortCandle 31 [(0, jl_vr G 195), (1, jl_vi l1), (2, jl_vi l2), (3, jl_vi l3), (4, jl_vi l4), (5, jl_vi l5)] [] s0 (jf_X1_shortCandle_L31 n l1 l2 l3 l4 l5 s0) := by
  intro n
  induction n with
  | zero =>
    intros
    exact jr_none
  | succ n ih =>
    intro l1 l2 l3 l4 l5 hl1 hl2 hl3 hl4 hl5 s0
    refine jr_iload dX1_shortCandle_31 5 rfl ?_
    refine jr_iload dX1_shortCandle_33 4 rfl ?_
    refine jr_icmp_gt (t := 100) dX1_shortCandle_35 (by decide) hl5 hl4 (fun c5 => ?_) (fun c5 => ?_)
    · refine jr_iconst dX1_shortCandle_100 ?_
      exact jr_ret_i rfl (jl_nlit rfl) dX1_shortCandle_101
    · refine jr_aload_n dX1_shortCandle_38 0 rfl ?_
      refine j2_callVa (As := []) dX1_shortCandle_39 (jt_X1_restart G s0) jv_X1_restart ⟨rfl, rfl, rfl⟩ jw_948 jk_195 (by decide) (by decide) rfl ⟨Nat.le_of_ble_eq_true rfl, Nat.le_of_ble_eq_true rfl⟩ rfl (Nat.le_of_ble_eq_true rfl) (fun r6 s7 hr6 => ?_)
      refine jr_grd (fun g8 => ?_)
      refine jr_pop dX1_shortCandle_42 rfl ?_
      refine jr_iconst dX1_shortCandle_43 ?_
      refine jr_istore (lv := [(6, jl_vi (0 : Int)), (0, jl_vr G 195), (1, jl_vi l1), (2, jl_vi l2), (3, jl_vi l3), (4, jl_vi l4), (5, jl_vi l5)]) dX1_shortCandle_44 (Nat.le_of_ble_eq_true rfl) rfl ?_
      refine jr_sub [1, 2, 3, 4, 5, 6, 0] rfl ?_
      exact jj_X1_shortCandle_L46 G (jf_X1_shortCandle_L31 n) (ih) jl_fu l1 l2 l3 l4 l5 (0 : Int) hl1 hl2 hl3 hl4 hl5 (jl_nlit rfl) s7
def jf_X1_shortCandle_B26 (l1 : Int) (l2 : Int) (l3 : Int) (k0 : Int) (s0 : jl_Mm) : jl_O :=
  jf_X1_shortCandle_L31 jl_fu l1 l2 l3 k0 (1 : Int) s0
set_option maxRecDepth 20000 in
set_option maxHeartbeats 2000000 in
theorem jj_X1_shortCandle_B26 (G : jl_GC) (l1 : Int) (l2 : Int) (l3 : Int) (k0 : Int) (hl1 : jl_n3 l1) (hl2 : jl_n3 l2) (hl3 : jl_n3 l3) (hk0 : jl_n3 k0) (s0 : jl_Mm) : j2 G jM_X1_shortCandle 26 [(0, jl_vr G 195), (1, jl_vi l1), (2, jl_vi l2), (3, jl_vi l3)] [jl_vi k0] s0 (jf_X1_shortCandle_B26 l1 l2 l3 k0 s0) := by
  refine jr_istore (lv := [(4, jl_vi k0), (0, jl_vr G 195), (1, jl_vi l1), (2, jl_vi l2), (3, jl_vi l3)]) dX1_shortCandle_26 (Nat.le_of_ble_eq_true rfl) rfl ?_
  refine jr_iconst dX1_shortCandle_28 ?_
  refine jr_istore (lv := [(5, jl_vi (1 : Int)), (4, jl_vi k0), (0, jl_vr G 195), (1, jl_vi l1), (2, jl_vi l2), (3, jl_vi l3)]) dX1_shortCandle_29 (Nat.le_of_ble_eq_true rfl) rfl ?_
  refine jr_sub [2, 3, 4, 5, 1, 0] rfl ?_
  exact jj_X1_shortCandle_L31 G jl_fu l1 l2 l3 k0 (1 : Int) hl1 hl2 hl3 hk0 (jl_nlit rfl) s0
def jf_X1_shortCandle (v1 : Int) (v2 : Int) (s0 : jl_Mm) : jl_O :=
  jl_bd (jf_X5_litLies 40 s0) fun r1 s2 => jl_let (jl_and v1 (jl_xor r1 (-1 : Int))) fun x3 => if x3 = (0 : Int) then (jf_X1_shortCandle_B26 v1 v2 x3 (1 : Int) s2) else (jf_X1_shortCandle_B26 v1 v2 x3 (99 : Int) s2)
set_option maxRecDepth 20000 in
set_option maxHeartbeats 2000000 in
theorem jt_X1_shortCandle (G : jl_GC) (v1 : Int) (v2 : Int) (h1 : jl_n3 v1) (h2 : jl_n3 v2) (s0 : jl_Mm) : jC2 G jM_X1_shortCandle [jl_vr G 195, jl_vi v1, jl_vi v2] s0 (jf_X1_shortCandle v1 v2 s0) := by
  refine jl_met (plainFor_of_name rfl) (Nat.le_of_ble_eq_true rfl) ?_
  show j2 G jM_X1_shortCandle 0 [(0, jl_vr G 195), (1, jl_vi v1), (2, jl_vi v2)] [] s0 _
  refine jr_iload_n dX1_shortCandle_0 1 rfl ?_
  refine jr_aload_n dX1_shortCandle_1 0 rfl ?_
  refine jr_getk (i := 0) jc_1 jk_195 (by decide) (Nat.le_of_ble_eq_true rfl) jlk_195_0 jw_346 dX1_shortCandle_2 ?_
  refine jr_aload_n dX1_shortCandle_5 0 rfl ?_
  refine jr_getk (i := 1) jc_1 jk_195 (by decide) (Nat.le_of_ble_eq_true rfl) jlk_195_1 jw_348 dX1_shortCandle_6 ?_
  refine j2_callVi (As := [jl_vr G 40]) dX1_shortCandle_9 (jt_X5_litLies G 40 s0) jv_X5_litLies ⟨rfl, rfl, rfl⟩ jw_965 jk_190 (by decide) (by decide) rfl ⟨Nat.le_of_ble_eq_true rfl, Nat.le_of_ble_eq_true rfl⟩ rfl (Nat.le_of_ble_eq_true rfl) (fun r1 s2 hr1 => ?_)
  refine jr_iconst dX1_shortCandle_12 ?_
  refine jr_ixor dX1_shortCandle_13 ?_
  refine jr_iand dX1_shortCandle_14 ?_
  refine jr_let (jl_n3_to _) (fun x3 hx3 => ?_)
  refine jr_istore_n (lv := [(3, jl_vi x3), (0, jl_vr G 195), (1, jl_vi v1), (2, jl_vi v2)]) dX1_shortCandle_15 rfl (Nat.le_of_ble_eq_true rfl) rfl ?_
  refine jr_iload_n dX1_shortCandle_16 0 rfl ?_
  refine jr_if_ne (t := 24) dX1_shortCandle_17 (by decide) hx3 (fun c4 => ?_) (fun c4 => ?_)
  · refine jr_iconst dX1_shortCandle_20 ?_
    refine jr_goto (t := 26) dX1_shortCandle_21 (by decide) ?_
    refine jr_sub [1, 2, 3, 0] rfl ?_
    exact jj_X1_shortCandle_B26 G v1 v2 x3 (1 : Int) h1 h2 hx3 (jl_nlit rfl) s2
  · refine jr_bipush dX1_shortCandle_24 (by decide) ?_
    refine jr_sub [1, 2, 3, 0] rfl ?_
    exact jj_X1_shortCandle_B26 G v1 v2 x3 (99 : Int) h1 h2 hx3 (jl_nlit rfl) s2
def jf_X11_shorts_B30 (s0 : jl_Mm) : jl_O :=
  some ((-1 : Int), s0)
set_option maxRecDepth 20000 in
set_option maxHeartbeats 2000000 in
theorem jj_X11_shorts_B30 (G : jl_GC) (s0 : jl_Mm) : j2 G jM_X11_shorts 30 [] [] s0 (jf_X11_shorts_B30 s0) := by
  refine jr_iconst dX11_shorts_30 ?_
  exact jr_ret_i rfl (jl_nlit rfl) dX11_shorts_31
def jf_X11_shorts (v1 : Int) (v2 : Int) (s0 : jl_Mm) : jl_O :=
  jl_bd (jf_X11_isLie v1 s0) fun r1 s2 => if r1 = (0 : Int) then (jf_X11_shorts_B30 s2) else (jl_bd (jf_X11_isLit v1 s2) fun r4 s5 => if r4 = (0 : Int) then (jl_bd (jf_X1_comes v2 (1 : Int) (40 : Int) s5) fun r7 s8 => if r7 = (0 : Int) then (jf_X11_shorts_B30 s8) else (jl_bd (jf_X1_shortCandle (jl_shl (1 : Int) v1) v2 s8) fun r10 s11 => some (r10, s11))) else (jf_X11_shorts_B30 s5))
set_option maxRecDepth 20000 in
set_option maxHeartbeats 2000000 in
theorem jt_X11_shorts (G : jl_GC) (v1 : Int) (v2 : Int) (h1 : jl_n3 v1) (h2 : jl_n3 v2) (s0 : jl_Mm) : jC2 G jM_X11_shorts [jl_vr G 0, jl_vi v1, jl_vi v2] s0 (jf_X11_shorts v1 v2 s0) := by
  refine jl_met (plainFor_of_name rfl) (Nat.le_of_ble_eq_true rfl) ?_
  show j2 G jM_X11_shorts 0 [(0, jl_vr G 0), (1, jl_vi v1), (2, jl_vi v2)] [] s0 _
  refine jr_aload_n dX11_shorts_0 0 rfl ?_
  refine jr_iload_n dX11_shorts_1 1 rfl ?_
  refine j2_callVz (As := [jl_vi v1]) dX11_shorts_2 (jt_X11_isLie G v1 h1 s0) jv_X11_isLie ⟨rfl, rfl, rfl⟩ jw_837 jk_0 (by decide) (by decide) rfl ⟨Nat.le_of_ble_eq_true rfl, Nat.le_of_ble_eq_true rfl⟩ rfl (Nat.le_of_ble_eq_true rfl) (fun r1 s2 hr1 => ?_)
  refine jr_if_eq (t := 30) dX11_shorts_5 (by decide) (jl_nz hr1) (fun c3 => ?_) (fun c3 => ?_)
  · refine jr_sub [] rfl ?_
    exact jj_X11_shorts_B30 G s2
  · refine jr_aload_n dX11_shorts_8 0 rfl ?_
    refine jr_iload_n dX11_shorts_9 1 rfl ?_
    refine j2_callVz (As := [jl_vi v1]) dX11_shorts_10 (jt_X11_isLit G v1 h1 s2) jv_X11_isLit ⟨rfl, rfl, rfl⟩ jw_940 jk_0 (by decide) (by decide) rfl ⟨Nat.le_of_ble_eq_true rfl, Nat.le_of_ble_eq_true rfl⟩ rfl (Nat.le_of_ble_eq_true rfl) (fun r4 s5 hr4 => ?_)
    refine jr_if_ne (t := 30) dX11_shorts_13 (by decide) (jl_nz hr4) (fun c6 => ?_) (fun c6 => ?_)
    · refine jr_aload_n dX11_shorts_16 0 rfl ?_
      refine jr_getk (i := 10) jc_11 jk_0 (by decide) (Nat.le_of_ble_eq_true rfl) jlk_0_10 jw_434 dX11_shorts_17 ?_
      refine jr_iload_n dX11_shorts_20 2 rfl ?_
      refine jr_iconst dX11_shorts_21 ?_
      refine jr_bipush dX11_shorts_22 (by decide) ?_
      refine j2_callVz (As := [jl_vi v2, jl_vi (1 : Int), jl_vi (40 : Int)]) dX11_shorts_24 (jt_X1_comes G v2 (1 : Int) (40 : Int) h2 (jl_nlit rfl) (jl_nlit rfl) s5) jv_X1_comes ⟨rfl, rfl, rfl⟩ jw_866 jk_195 (by decide) (by decide) rfl ⟨Nat.le_of_ble_eq_true rfl, Nat.le_of_ble_eq_true rfl⟩ rfl (Nat.le_of_ble_eq_true rfl) (fun r7 s8 hr7 => ?_)
      refine jr_if_ne (t := 32) dX11_shorts_27 (by decide) (jl_nz hr7) (fun c9 => ?_) (fun c9 => ?_)
      · refine jr_sub [] rfl ?_
        exact jj_X11_shorts_B30 G s8
      · refine jr_aload_n dX11_shorts_32 0 rfl ?_
        refine jr_getk (i := 10) jc_11 jk_0 (by decide) (Nat.le_of_ble_eq_true rfl) jlk_0_10 jw_434 dX11_shorts_33 ?_
        refine jr_iconst dX11_shorts_36 ?_
        refine jr_iload_n dX11_shorts_37 1 rfl ?_
        refine jr_ishl dX11_shorts_38 ?_
        refine jr_iload_n dX11_shorts_39 2 rfl ?_
        refine j2_callVi (As := [jl_vi (jl_shl (1 : Int) v1), jl_vi v2]) dX11_shorts_40 (jt_X1_shortCandle G (jl_shl (1 : Int) v1) v2 (jl_n3_to _) h2 s8) jv_X1_shortCandle ⟨rfl, rfl, rfl⟩ jw_961 jk_195 (by decide) (by decide) rfl ⟨Nat.le_of_ble_eq_true rfl, Nat.le_of_ble_eq_true rfl⟩ rfl (Nat.le_of_ble_eq_true rfl) (fun r10 s11 hr10 => ?_)
        exact jr_ret_i rfl hr10 dX11_shorts_43
    · refine jr_sub [] rfl ?_
      exact jj_X11_shorts_B30 G s5
def jf_X11_together_B30 (s0 : jl_Mm) : jl_O :=
  some ((-1 : Int), s0)
set_option maxRecDepth 20000 in
set_option maxHeartbeats 2000000 in
theorem jj_X11_together_B30 (G : jl_GC) (s0 : jl_Mm) : j2 G jM_X11_together 30 [] [] s0 (jf_X11_together_B30 s0) := by
  refine jr_iconst dX11_together_30 ?_
  exact jr_ret_i rfl (jl_nlit rfl) dX11_together_31
def jf_X11_together (v1 : Int) (v2 : Int) (s0 : jl_Mm) : jl_O :=
  if v1 ≤ (0 : Int) then (jf_X11_together_B30 s0) else (if 0 ≤ s0 0 2 ∧ (jl_kd (jl_gr s0 0 2)).1 = 8 then if jl_shr v1 (jl_g s0 (jl_gr s0 0 2) 3) = (0 : Int) then (jl_bd (jf_X1_comes v2 (1 : Int) (40 : Int) s0) fun r4 s5 => if r4 = (0 : Int) then (jf_X11_together_B30 s5) else (jl_bd (jf_X1_shortCandle v1 v2 s5) fun r7 s8 => some (r7, s8))) else (jf_X11_together_B30 s0) else none)
set_option maxRecDepth 20000 in
set_option maxHeartbeats 2000000 in
theorem jt_X11_together (G : jl_GC) (v1 : Int) (v2 : Int) (h1 : jl_n3 v1) (h2 : jl_n3 v2) (s0 : jl_Mm) : jC2 G jM_X11_together [jl_vr G 0, jl_vi v1, jl_vi v2] s0 (jf_X11_together v1 v2 s0) := by
  refine jl_met (plainFor_of_name rfl) (Nat.le_of_ble_eq_true rfl) ?_
  show j2 G jM_X11_together 0 [(0, jl_vr G 0), (1, jl_vi v1), (2, jl_vi v2)] [] s0 _
  refine jr_iload_n dX11_together_0 1 rfl ?_
  refine jr_if_le (t := 30) dX11_together_1 (by decide) h1 (fun c1 => ?_) (fun c1 => ?_)
  · refine jr_sub [] rfl ?_
    exact jj_X11_together_B30 G s0
  · refine jr_iload_n dX11_together_4 1 rfl ?_
    refine jr_aload_n dX11_together_5 0 rfl ?_
    refine jr_grd (fun g2 => ?_)
    refine jr_getr (i := 2) jc_11 jk_0 (by decide) (Nat.le_of_ble_eq_true rfl) jlk_0_2 jft_11_2 g2.1 jw_426 dX11_together_6 ?_
    refine jr_getiN (i := 3) jc_8 (jl_kd1 g2.2) (jl_kdlt g2.2 (by decide)) (Nat.le_of_ble_eq_true rfl) (js8n_3 g2.2) jft_8_3 jw_104 dX11_together_9 ?_
    refine jr_ishr dX11_together_12 ?_
    refine jr_if_ne (t := 30) dX11_together_13 (by decide) (jl_n3_to _) (fun c3 => ?_) (fun c3 => ?_)
    · refine jr_aload_n dX11_together_16 0 rfl ?_
      refine jr_getk (i := 10) jc_11 jk_0 (by decide) (Nat.le_of_ble_eq_true rfl) jlk_0_10 jw_434 dX11_together_17 ?_
      refine jr_iload_n dX11_together_20 2 rfl ?_
      refine jr_iconst dX11_together_21 ?_
      refine jr_bipush dX11_together_22 (by decide) ?_
      refine j2_callVz (As := [jl_vi v2, jl_vi (1 : Int), jl_vi (40 : Int)]) dX11_together_24 (jt_X1_comes G v2 (1 : Int) (40 : Int) h2 (jl_nlit rfl) (jl_nlit rfl) s0) jv_X1_comes ⟨rfl, rfl, rfl⟩ jw_866 jk_195 (by decide) (by decide) rfl ⟨Nat.le_of_ble_eq_true rfl, Nat.le_of_ble_eq_true rfl⟩ rfl (Nat.le_of_ble_eq_true rfl) (fun r4 s5 hr4 => ?_)
      refine jr_if_ne (t := 32) dX11_together_27 (by decide) (jl_nz hr4) (fun c6 => ?_) (fun c6 => ?_)
      · refine jr_sub [] rfl ?_
        exact jj_X11_together_B30 G s5
      · refine jr_aload_n dX11_together_32 0 rfl ?_
        refine jr_getk (i := 10) jc_11 jk_0 (by decide) (Nat.le_of_ble_eq_true rfl) jlk_0_10 jw_434 dX11_together_33 ?_
        refine jr_iload_n dX11_together_36 1 rfl ?_
        refine jr_iload_n dX11_together_37 2 rfl ?_
        refine j2_callVi (As := [jl_vi v1, jl_vi v2]) dX11_together_38 (jt_X1_shortCandle G v1 v2 h1 h2 s5) jv_X1_shortCandle ⟨rfl, rfl, rfl⟩ jw_961 jk_195 (by decide) (by decide) rfl ⟨Nat.le_of_ble_eq_true rfl, Nat.le_of_ble_eq_true rfl⟩ rfl (Nat.le_of_ble_eq_true rfl) (fun r7 s8 hr7 => ?_)
        exact jr_ret_i rfl hr7 dX11_together_41
    · refine jr_sub [] rfl ?_
      exact jj_X11_together_B30 G s0
def jf_X7_addTallow (q0 : Nat) (v1 : Int) (s0 : jl_Mm) : jl_O :=
  if (jl_kd q0).1 = 7 then jl_bd (jf_J9_min_7cf53 (999 : Int) (jl_add (jl_g s0 q0 1) v1) s0) fun r1 s2 => jl_lm (jl_up s2 q0 1 r1) fun s3 => some (0, s3) else none
set_option maxRecDepth 20000 in
set_option maxHeartbeats 2000000 in
theorem jt_X7_addTallow (G : jl_GC) (q0 : Nat) (v1 : Int) (h1 : jl_n3 v1) (s0 : jl_Mm) : jC2 G jM_X7_addTallow [jl_vr G q0, jl_vi v1] s0 (jf_X7_addTallow q0 v1 s0) := by
  refine jl_met (plainFor_of_name rfl) (Nat.le_of_ble_eq_true rfl) ?_
  show j2 G jM_X7_addTallow 0 [(0, jl_vr G q0), (1, jl_vi v1)] [] s0 _
  refine jr_grd (fun gp0 => ?_)
  refine jr_aload_n dX7_addTallow_0 0 rfl ?_
  refine jr_sipush dX7_addTallow_1 (by decide) ?_
  refine jr_aload_n dX7_addTallow_4 0 rfl ?_
  refine jr_geti (i := 1) jc_7 (jl_kd1 gp0) (jl_kdlt gp0 (by decide)) (Nat.le_of_ble_eq_true rfl) (js7n_1 gp0) jft_7_1 jw_241 dX7_addTallow_5 ?_
  refine jr_iload_n dX7_addTallow_8 1 rfl ?_
  refine jr_iadd dX7_addTallow_9 ?_
  refine j2_callSi (As := [jl_vi (999 : Int), jl_vi (jl_add (jl_g s0 q0 1) v1)]) dX7_addTallow_10 (jt_J9_min_7cf53 G (999 : Int) (jl_add (jl_g s0 q0 1) v1) (jl_nlit rfl) (jl_n3_to _) s0) jv_J9_min_7cf53 ⟨rfl, rfl, rfl⟩ jw_923 ⟨Nat.le_of_ble_eq_true rfl, Nat.le_of_ble_eq_true rfl⟩ rfl (Nat.le_of_ble_eq_true rfl) (fun r1 s2 hr1 => ?_)
  refine jr_puti (i := 1) jc_7 (jl_kd1 gp0) (jl_kdlt gp0 (by decide)) (Nat.le_of_ble_eq_true rfl) (js7n_1 gp0) jft_7_1 rfl jw_241 rfl dX7_addTallow_13 ?_
  refine jr_lm (fun s3 => ?_)
  exact jr_ret_v rfl dX7_addTallow_16
def jf_X7_quench (q0 : Nat) (v1 : Int) (s0 : jl_Mm) : jl_O :=
  if (jl_kd q0).1 = 7 then if 0 ≤ v1 ∧ v1 < ((8 : Nat) : Int) then jl_let (jl_g s0 (q0 + 2) (v1).toNat) fun x2 => jl_bd (jf_X7_addTallow q0 x2 s0) fun r3 s4 => jl_bd (jf_X7_putOut q0 v1 s4) fun r5 s6 => some (x2, s6) else none else none
set_option maxRecDepth 20000 in
set_option maxHeartbeats 2000000 in
theorem jt_X7_quench (G : jl_GC) (q0 : Nat) (v1 : Int) (h1 : jl_n3 v1) (s0 : jl_Mm) : jC2 G jM_X7_quench [jl_vr G q0, jl_vi v1] s0 (jf_X7_quench q0 v1 s0) := by
  refine jl_met (plainFor_of_name rfl) (Nat.le_of_ble_eq_true rfl) ?_
  show j2 G jM_X7_quench 0 [(0, jl_vr G q0), (1, jl_vi v1)] [] s0 _
  refine jr_grd (fun gp0 => ?_)
  refine jr_aload_n dX7_quench_0 0 rfl ?_
  refine jr_getk (i := 3) jc_7 (jl_kd1 gp0) (jl_kdlt gp0 (by decide)) (Nat.le_of_ble_eq_true rfl) (js7_3 gp0) jw_248 dX7_quench_1 ?_
  refine jr_iload_n dX7_quench_4 1 rfl ?_
  refine jr_grd (fun g1 => ?_)
  refine jr_iaload (js7k_3 gp0) (jl_kdl (js7k_3 gp0) (by decide)) h1 g1 dX7_quench_5 ?_
  refine jr_let (jl_n3_to _) (fun x2 hx2 => ?_)
  refine jr_istore_n (lv := [(2, jl_vi x2), (0, jl_vr G q0), (1, jl_vi v1)]) dX7_quench_6 rfl (Nat.le_of_ble_eq_true rfl) rfl ?_
  refine jr_aload_n dX7_quench_7 1 rfl ?_
  refine jr_iload_n dX7_quench_8 0 rfl ?_
  refine j2_callVv (As := [jl_vi x2]) dX7_quench_9 (jt_X7_addTallow G q0 x2 hx2 s0) jv_X7_addTallow ⟨rfl, rfl, rfl⟩ jw_984 (jl_kd1 gp0) (by decide) (jl_kdlt gp0 (by decide)) rfl ⟨Nat.le_of_ble_eq_true rfl, Nat.le_of_ble_eq_true rfl⟩ rfl (Nat.le_of_ble_eq_true rfl) (fun r3 s4 hr3 => ?_)
  refine jr_aload_n dX7_quench_12 1 rfl ?_
  refine jr_iload_n dX7_quench_13 2 rfl ?_
  refine j2_callVv (As := [jl_vi v1]) dX7_quench_14 (jt_X7_putOut G q0 v1 h1 s4) jv_X7_putOut ⟨rfl, rfl, rfl⟩ jw_758 (jl_kd1 gp0) (by decide) (jl_kdlt gp0 (by decide)) rfl ⟨Nat.le_of_ble_eq_true rfl, Nat.le_of_ble_eq_true rfl⟩ rfl (Nat.le_of_ble_eq_true rfl) (fun r5 s6 hr5 => ?_)
  refine jr_iload_n dX7_quench_17 0 rfl ?_
  exact jr_ret_i rfl hx2 dX7_quench_18
def jf_X1_searchKeystone_B67 (R13 : Int → Int → jl_Mm → jl_O) (l1 : Int) (l2 : Int) (s0 : jl_Mm) : jl_O :=
  R13 l1 (jl_add l2 1) s0
set_option maxRecDepth 20000 in
set_option maxHeartbeats 2000000 in
theorem jj_X1_searchKeystone_B67 (G : jl_GC) (R13 : Int → Int → jl_Mm → jl_O) (hR13 : ∀ (l1 : Int) (l2 : Int) (_hl1 : jl_n3 l1) (_hl2 : jl_n3 l2) (s0 : jl_Mm), j2 G jM_X1_searchKeystone 13 [(0, jl_vr G 195), (1, jl_vi l1), (2, jl_vi l2)] [] s0 (R13 l1 l2 s0)) (l1 : Int) (l2 : Int) (hl1 : jl_n3 l1) (hl2 : jl_n3 l2) (s0 : jl_Mm) : j2 G jM_X1_searchKeystone 67 [(0, jl_vr G 195), (1, jl_vi l1), (2, jl_vi l2)] [] s0 (jf_X1_searchKeystone_B67 R13 l1 l2 s0) := by
  refine jr_iinc (j := 2) (lv := [(2, jl_vi (jl_add l2 1)), (0, jl_vr G 195), (1, jl_vi l1)]) dX1_searchKeystone_67 rfl (Nat.le_of_ble_eq_true rfl) rfl ?_
  refine jr_goto (t := 13) dX1_searchKeystone_70 (by decide) ?_
  refine jr_sub [1, 2, 0] rfl ?_
  exact hR13 l1 (jl_add l2 1) hl1 (jl_n3_to _) s0
def jf_X1_searchKeystone_L13 : Nat → Int → Int → jl_Mm → jl_O
  | 0, _, _, _ => none
  | n + 1, l1, l2, s0 =>
    if (8 : Int) ≤ l2 then (some (0, s0)) else (if 0 ≤ l2 ∧ l2 < ((8 : Nat) : Int) then if jl_g s0 42 (l2).toNat ≤ (0 : Int) then (jf_X1_searchKeystone_B67 (jf_X1_searchKeystone_L13 n) l1 l2 s0) else (jl_bd (jf_X1_restart s0) fun r6 s7 => if (jl_kd (r6).toNat).1 = 7 then jl_bd (jf_X7_quench r6.toNat l2 s7) fun r9 s10 => jl_bd (jf_X1_believedBehind l1 s10) fun r11 s12 => jl_bd (jf_J6_bitCount_0f7a4 r11 s12) fun r13 s14 => if jl_g s14 195 4 ≤ r13 then (jf_X1_searchKeystone_B67 (jf_X1_searchKeystone_L13 n) l1 l2 s14) else (jl_lm (jl_up s14 195 3 l2) fun s16 => jl_lm (jl_up s16 195 4 r13) fun s17 => jf_X1_searchKeystone_B67 (jf_X1_searchKeystone_L13 n) l1 l2 s17) else none) else none)
set_option maxRecDepth 20000 in
set_option maxHeartbeats 2000000 in
theorem jj_X1_searchKeystone_L13 (G : jl_GC) : ∀ (n : Nat) (l1 : Int) (l2 : Int) (hl1 : jl_n3 l1) (hl2 : jl_n3 l2) (s0 : jl_Mm), j2 G jM_X1_searchKeystone 13 [(0, jl_vr G 195), (1, jl_vi l1), (2, jl_vi l2)] [] s0 (jf_X1_searchKeystone_L13 n l1 l2 s0) := by
  intro n
  induction n with
  | zero =>
    intros
    exact jr_none
  | succ n ih =>
    intro l1 l2 hl1 hl2 s0
    refine jr_iload_n dX1_searchKeystone_13 2 rfl ?_
    refine jr_bipush dX1_searchKeystone_14 (by decide) ?_
    refine jr_icmp_ge (t := 73) dX1_searchKeystone_16 (by decide) hl2 (jl_nlit rfl) (fun c3 => ?_) (fun c3 => ?_)
    · exact jr_ret_v rfl dX1_searchKeystone_73
    · refine jr_aload_n dX1_searchKeystone_19 0 rfl ?_
      refine jr_getk (i := 1) jc_1 jk_195 (by decide) (Nat.le_of_ble_eq_true rfl) jlk_195_1 jw_348 dX1_searchKeystone_20 ?_
      refine jr_getkN (i := 3) jc_7 jk_40 (by decide) (Nat.le_of_ble_eq_true rfl) jlk_40_3 jw_251 dX1_searchKeystone_23 ?_
      refine jr_iload_n dX1_searchKeystone_26 2 rfl ?_
      refine jr_grd (fun g4 => ?_)
      refine jr_iaload jk_42 (by decide) hl2 g4 dX1_searchKeystone_27 ?_
      refine jr_if_le (t := 67) dX1_searchKeystone_28 (by decide) (jl_n3_to _) (fun c5 => ?_) (fun c5 => ?_)
      · exact jj_X1_searchKeystone_B67 G (jf_X1_searchKeystone_L13 n) (ih) l1 l2 hl1 hl2 s0
      · refine jr_aload_n dX1_searchKeystone_31 0 rfl ?_
        refine j2_callVa (As := []) dX1_searchKeystone_32 (jt_X1_restart G s0) jv_X1_restart ⟨rfl, rfl, rfl⟩ jw_948 jk_195 (by decide) (by decide) rfl ⟨Nat.le_of_ble_eq_true rfl, Nat.le_of_ble_eq_true rfl⟩ rfl (Nat.le_of_ble_eq_true rfl) (fun r6 s7 hr6 => ?_)
        refine jr_grd (fun g8 => ?_)
        refine jr_iload_n dX1_searchKeystone_35 2 rfl ?_
        refine j2_callVi (As := [jl_vi l2]) dX1_searchKeystone_36 (jt_X7_quench G r6.toNat l2 hl2 s7) jv_X7_quench ⟨rfl, rfl, rfl⟩ jw_980 (jl_kd1 g8) (by decide) (jl_kdlt g8 (by decide)) rfl ⟨Nat.le_of_ble_eq_true rfl, Nat.le_of_ble_eq_true rfl⟩ rfl (Nat.le_of_ble_eq_true rfl) (fun r9 s10 hr9 => ?_)
        refine jr_pop dX1_searchKeystone_39 rfl ?_
        refine jr_aload_n dX1_searchKeystone_40 0 rfl ?_
        refine jr_iload_n dX1_searchKeystone_41 1 rfl ?_
        refine j2_callVi (As := [jl_vi l1]) dX1_searchKeystone_42 (jt_X1_believedBehind G l1 hl1 s10) jv_X1_believedBehind ⟨rfl, rfl, rfl⟩ jw_967 jk_195 (by decide) (by decide) rfl ⟨Nat.le_of_ble_eq_true rfl, Nat.le_of_ble_eq_true rfl⟩ rfl (Nat.le_of_ble_eq_true rfl) (fun r11 s12 hr11 => ?_)
        refine j2_callSi (As := [jl_vi r11]) dX1_searchKeystone_45 (jt_J6_bitCount_0f7a4 G r11 hr11 s12) jv_J6_bitCount_0f7a4 ⟨rfl, rfl, rfl⟩ jw_988 ⟨Nat.le_of_ble_eq_true rfl, Nat.le_of_ble_eq_true rfl⟩ rfl (Nat.le_of_ble_eq_true rfl) (fun r13 s14 hr13 => ?_)
        refine jr_istore_n (lv := [(3, jl_vi r13), (0, jl_vr G 195), (1, jl_vi l1), (2, jl_vi l2)]) dX1_searchKeystone_48 rfl (Nat.le_of_ble_eq_true rfl) rfl ?_
        refine jr_iload_n dX1_searchKeystone_49 0 rfl ?_
        refine jr_aload_n dX1_searchKeystone_50 1 rfl ?_
        refine jr_geti (i := 4) jc_1 jk_195 (by decide) (Nat.le_of_ble_eq_true rfl) jlk_195_4 jft_1_4 jw_353 dX1_searchKeystone_51 ?_
        refine jr_icmp_ge (t := 67) dX1_searchKeystone_54 (by decide) hr13 (jl_n3_to _) (fun c15 => ?_) (fun c15 => ?_)
        · refine jr_sub [1, 2, 3] rfl ?_
          exact jj_X1_searchKeystone_B67 G (jf_X1_searchKeystone_L13 n) (ih) l1 l2 hl1 hl2 s14
        · refine jr_aload_n dX1_searchKeystone_57 1 rfl ?_
          refine jr_iload_n dX1_searchKeystone_58 3 rfl ?_
          refine jr_puti (i := 3) jc_1 jk_195 (by decide) (Nat.le_of_ble_eq_true rfl) jlk_195_3 jft_1_3 rfl jw_351 rfl dX1_searchKeystone_59 ?_
          refine jr_lm (fun s16 => ?_)
          refine jr_aload_n dX1_searchKeystone_62 1 rfl ?_
          refine jr_iload_n dX1_searchKeystone_63 0 rfl ?_
          refine jr_puti (i := 4) jc_1 jk_195 (by decide) (Nat.le_of_ble_eq_true rfl) jlk_195_4 jft_1_4 rfl jw_353 rfl dX1_searchKeystone_64 ?_
          refine jr_lm (fun s17 => ?_)
          refine jr_sub [1, 2, 3] rfl ?_
          exact jj_X1_searchKeystone_B67 G (jf_X1_searchKeystone_L13 n) (ih) l1 l2 hl1 hl2 s17
def jf_X1_searchKeystone (v1 : Int) (s0 : jl_Mm) : jl_O :=
  jl_lm (jl_up s0 195 3 (-1 : Int)) fun s1 => jl_lm (jl_up s1 195 4 (9 : Int)) fun s2 => jf_X1_searchKeystone_L13 jl_fu v1 (0 : Int) s2
set_option maxRecDepth 20000 in
set_option maxHeartbeats 2000000 in
theorem jt_X1_searchKeystone (G : jl_GC) (v1 : Int) (h1 : jl_n3 v1) (s0 : jl_Mm) : jC2 G jM_X1_searchKeystone [jl_vr G 195, jl_vi v1] s0 (jf_X1_searchKeystone v1 s0) := by
  refine jl_met (plainFor_of_name rfl) (Nat.le_of_ble_eq_true rfl) ?_
  show j2 G jM_X1_searchKeystone 0 [(0, jl_vr G 195), (1, jl_vi v1)] [] s0 _
  refine jr_aload_n dX1_searchKeystone_0 0 rfl ?_
  refine jr_iconst dX1_searchKeystone_1 ?_
  refine jr_puti (i := 3) jc_1 jk_195 (by decide) (Nat.le_of_ble_eq_true rfl) jlk_195_3 jft_1_3 rfl jw_351 rfl dX1_searchKeystone_2 ?_
  refine jr_lm (fun s1 => ?_)
  refine jr_aload_n dX1_searchKeystone_5 0 rfl ?_
  refine jr_bipush dX1_searchKeystone_6 (by decide) ?_
  refine jr_puti (i := 4) jc_1 jk_195 (by decide) (Nat.le_of_ble_eq_true rfl) jlk_195_4 jft_1_4 rfl jw_353 rfl dX1_searchKeystone_8 ?_
  refine jr_lm (fun s2 => ?_)
  refine jr_iconst dX1_searchKeystone_11 ?_
  refine jr_istore_n (lv := [(2, jl_vi (0 : Int)), (0, jl_vr G 195), (1, jl_vi v1)]) dX1_searchKeystone_12 rfl (Nat.le_of_ble_eq_true rfl) rfl ?_
  refine jr_sub [1, 2, 0] rfl ?_
  exact jj_X1_searchKeystone_L13 G jl_fu v1 (0 : Int) h1 (jl_nlit rfl) s2
def jf_X11_keystone_B37 (s0 : jl_Mm) : jl_O :=
  some ((-1 : Int), s0)
set_option maxRecDepth 20000 in
set_option maxHeartbeats 2000000 in
theorem jj_X11_keystone_B37 (G : jl_GC) (s0 : jl_Mm) : j2 G jM_X11_keystone 37 [] [] s0 (jf_X11_keystone_B37 s0) := by
  refine jr_iconst dX11_keystone_37 ?_
  exact jr_ret_i rfl (jl_nlit rfl) dX11_keystone_38
def jf_X11_keystone_B68 (k0 : Int) (s0 : jl_Mm) : jl_O :=
  some (k0, s0)
set_option maxRecDepth 20000 in
set_option maxHeartbeats 2000000 in
theorem jj_X11_keystone_B68 (G : jl_GC) (k0 : Int) (hk0 : jl_n3 k0) (s0 : jl_Mm) : j2 G jM_X11_keystone 68 [] [jl_vi k0] s0 (jf_X11_keystone_B68 k0 s0) := by
  exact jr_ret_i rfl hk0 dX11_keystone_68
def jf_X11_keystone (v1 : Int) (v2 : Int) (s0 : jl_Mm) : jl_O :=
  if v2 < (0 : Int) then (jf_X11_keystone_B37 s0) else (if (1 : Int) < v2 then (jf_X11_keystone_B37 s0) else (jl_bd (jf_X5_litLies 40 s0) fun r3 s4 => if r3 = (0 : Int) then (jf_X11_keystone_B37 s4) else (jl_bd (jf_X1_comes v1 (1 : Int) (40 : Int) s4) fun r6 s7 => if r6 = (0 : Int) then (jf_X11_keystone_B37 s7) else (jl_bd (jf_X1_searchKeystone v1 s7) fun r9 s10 => if v2 = (0 : Int) then (jf_X11_keystone_B68 (jl_g s10 195 3) s10) else (jf_X11_keystone_B68 (jl_g s10 195 4) s10)))))
set_option maxRecDepth 20000 in
set_option maxHeartbeats 2000000 in
theorem jt_X11_keystone (G : jl_GC) (v1 : Int) (v2 : Int) (h1 : jl_n3 v1) (h2 : jl_n3 v2) (s0 : jl_Mm) : jC2 G jM_X11_keystone [jl_vr G 0, jl_vi v1, jl_vi v2] s0 (jf_X11_keystone v1 v2 s0) := by
  refine jl_met (plainFor_of_name rfl) (Nat.le_of_ble_eq_true rfl) ?_
  show j2 G jM_X11_keystone 0 [(0, jl_vr G 0), (1, jl_vi v1), (2, jl_vi v2)] [] s0 _
  refine jr_iload_n dX11_keystone_0 2 rfl ?_
  refine jr_if_lt (t := 37) dX11_keystone_1 (by decide) h2 (fun c1 => ?_) (fun c1 => ?_)
  · refine jr_sub [] rfl ?_
    exact jj_X11_keystone_B37 G s0
  · refine jr_iload_n dX11_keystone_4 2 rfl ?_
    refine jr_iconst dX11_keystone_5 ?_
    refine jr_icmp_gt (t := 37) dX11_keystone_6 (by decide) h2 (jl_nlit rfl) (fun c2 => ?_) (fun c2 => ?_)
    · refine jr_sub [] rfl ?_
      exact jj_X11_keystone_B37 G s0
    · refine jr_aload_n dX11_keystone_9 0 rfl ?_
      refine jr_getk (i := 9) jc_11 jk_0 (by decide) (Nat.le_of_ble_eq_true rfl) jlk_0_9 jw_433 dX11_keystone_10 ?_
      refine jr_aload_n dX11_keystone_13 0 rfl ?_
      refine jr_getk (i := 6) jc_11 jk_0 (by decide) (Nat.le_of_ble_eq_true rfl) jlk_0_6 jw_430 dX11_keystone_14 ?_
      refine j2_callVi (As := [jl_vr G 40]) dX11_keystone_17 (jt_X5_litLies G 40 s0) jv_X5_litLies ⟨rfl, rfl, rfl⟩ jw_779 jk_190 (by decide) (by decide) rfl ⟨Nat.le_of_ble_eq_true rfl, Nat.le_of_ble_eq_true rfl⟩ rfl (Nat.le_of_ble_eq_true rfl) (fun r3 s4 hr3 => ?_)
      refine jr_if_eq (t := 37) dX11_keystone_20 (by decide) hr3 (fun c5 => ?_) (fun c5 => ?_)
      · refine jr_sub [] rfl ?_
        exact jj_X11_keystone_B37 G s4
      · refine jr_aload_n dX11_keystone_23 0 rfl ?_
        refine jr_getk (i := 10) jc_11 jk_0 (by decide) (Nat.le_of_ble_eq_true rfl) jlk_0_10 jw_434 dX11_keystone_24 ?_
        refine jr_iload_n dX11_keystone_27 1 rfl ?_
        refine jr_iconst dX11_keystone_28 ?_
        refine jr_bipush dX11_keystone_29 (by decide) ?_
        refine j2_callVz (As := [jl_vi v1, jl_vi (1 : Int), jl_vi (40 : Int)]) dX11_keystone_31 (jt_X1_comes G v1 (1 : Int) (40 : Int) h1 (jl_nlit rfl) (jl_nlit rfl) s4) jv_X1_comes ⟨rfl, rfl, rfl⟩ jw_866 jk_195 (by decide) (by decide) rfl ⟨Nat.le_of_ble_eq_true rfl, Nat.le_of_ble_eq_true rfl⟩ rfl (Nat.le_of_ble_eq_true rfl) (fun r6 s7 hr6 => ?_)
        refine jr_if_ne (t := 39) dX11_keystone_34 (by decide) (jl_nz hr6) (fun c8 => ?_) (fun c8 => ?_)
        · refine jr_sub [] rfl ?_
          exact jj_X11_keystone_B37 G s7
        · refine jr_aload_n dX11_keystone_39 0 rfl ?_
          refine jr_getk (i := 10) jc_11 jk_0 (by decide) (Nat.le_of_ble_eq_true rfl) jlk_0_10 jw_434 dX11_keystone_40 ?_
          refine jr_iload_n dX11_keystone_43 1 rfl ?_
          refine j2_callVv (As := [jl_vi v1]) dX11_keystone_44 (jt_X1_searchKeystone G v1 h1 s7) jv_X1_searchKeystone ⟨rfl, rfl, rfl⟩ jw_976 jk_195 (by decide) (by decide) rfl ⟨Nat.le_of_ble_eq_true rfl, Nat.le_of_ble_eq_true rfl⟩ rfl (Nat.le_of_ble_eq_true rfl) (fun r9 s10 hr9 => ?_)
          refine jr_iload_n dX11_keystone_47 2 rfl ?_
          refine jr_if_ne (t := 61) dX11_keystone_48 (by decide) h2 (fun c11 => ?_) (fun c11 => ?_)
          · refine jr_aload_n dX11_keystone_51 0 rfl ?_
            refine jr_getk (i := 10) jc_11 jk_0 (by decide) (Nat.le_of_ble_eq_true rfl) jlk_0_10 jw_434 dX11_keystone_52 ?_
            refine jr_getiN (i := 3) jc_1 jk_195 (by decide) (Nat.le_of_ble_eq_true rfl) jlk_195_3 jft_1_3 jw_352 dX11_keystone_55 ?_
            refine jr_goto (t := 68) dX11_keystone_58 (by decide) ?_
            refine jr_sub [] rfl ?_
            exact jj_X11_keystone_B68 G (jl_g s10 195 3) (jl_n3_to _) s10
          · refine jr_aload_n dX11_keystone_61 0 rfl ?_
            refine jr_getk (i := 10) jc_11 jk_0 (by decide) (Nat.le_of_ble_eq_true rfl) jlk_0_10 jw_434 dX11_keystone_62 ?_
            refine jr_getiN (i := 4) jc_1 jk_195 (by decide) (Nat.le_of_ble_eq_true rfl) jlk_195_4 jft_1_4 jw_354 dX11_keystone_65 ?_
            refine jr_sub [] rfl ?_
            exact jj_X11_keystone_B68 G (jl_g s10 195 4) (jl_n3_to _) s10
def jf_X7_swapHomes (q0 : Nat) (v1 : Int) (v2 : Int) (s0 : jl_Mm) : jl_O :=
  if (jl_kd q0).1 = 7 then if 0 ≤ v1 ∧ v1 < ((6 : Nat) : Int) then jl_let (jl_g s0 (q0 + 1) (v1).toNat) fun x2 => if 0 ≤ v2 ∧ v2 < ((6 : Nat) : Int) then if 0 ≤ v1 ∧ v1 < ((6 : Nat) : Int) then jl_lm (jl_up s0 (q0 + 1) (v1).toNat (jl_g s0 (q0 + 1) (v2).toNat)) fun s5 => if 0 ≤ v2 ∧ v2 < ((6 : Nat) : Int) then jl_lm (jl_up s5 (q0 + 1) (v2).toNat x2) fun s7 => some (0, s7) else none else none else none else none else none
set_option maxRecDepth 20000 in
set_option maxHeartbeats 2000000 in
theorem jt_X7_swapHomes (G : jl_GC) (q0 : Nat) (v1 : Int) (v2 : Int) (h1 : jl_n3 v1) (h2 : jl_n3 v2) (s0 : jl_Mm) : jC2 G jM_X7_swapHomes [jl_vr G q0, jl_vi v1, jl_vi v2] s0 (jf_X7_swapHomes q0 v1 v2 s0) := by
  refine jl_met (plainFor_of_name rfl) (Nat.le_of_ble_eq_true rfl) ?_
  show j2 G jM_X7_swapHomes 0 [(0, jl_vr G q0), (1, jl_vi v1), (2, jl_vi v2)] [] s0 _
  refine jr_grd (fun gp0 => ?_)
  refine jr_aload_n dX7_swapHomes_0 0 rfl ?_
  refine jr_getk (i := 2) jc_7 (jl_kd1 gp0) (jl_kdlt gp0 (by decide)) (Nat.le_of_ble_eq_true rfl) (js7_2 gp0) jw_244 dX7_swapHomes_1 ?_
  refine jr_iload_n dX7_swapHomes_4 1 rfl ?_
  refine jr_grd (fun g1 => ?_)
  refine jr_iaload (js7k_2 gp0) (jl_kdl (js7k_2 gp0) (by decide)) h1 g1 dX7_swapHomes_5 ?_
  refine jr_let (jl_n3_to _) (fun x2 hx2 => ?_)
  refine jr_istore_n (lv := [(3, jl_vi x2), (0, jl_vr G q0), (1, jl_vi v1), (2, jl_vi v2)]) dX7_swapHomes_6 rfl (Nat.le_of_ble_eq_true rfl) rfl ?_
  refine jr_aload_n dX7_swapHomes_7 1 rfl ?_
  refine jr_getk (i := 2) jc_7 (jl_kd1 gp0) (jl_kdlt gp0 (by decide)) (Nat.le_of_ble_eq_true rfl) (js7_2 gp0) jw_244 dX7_swapHomes_8 ?_
  refine jr_iload_n dX7_swapHomes_11 2 rfl ?_
  refine jr_aload_n dX7_swapHomes_12 1 rfl ?_
  refine jr_getk (i := 2) jc_7 (jl_kd1 gp0) (jl_kdlt gp0 (by decide)) (Nat.le_of_ble_eq_true rfl) (js7_2 gp0) jw_244 dX7_swapHomes_13 ?_
  refine jr_iload_n dX7_swapHomes_16 3 rfl ?_
  refine jr_grd (fun g3 => ?_)
  refine jr_iaload (js7k_2 gp0) (jl_kdl (js7k_2 gp0) (by decide)) h2 g3 dX7_swapHomes_17 ?_
  refine jr_grd (fun g4 => ?_)
  refine jr_iastore (js7k_2 gp0) (jl_kdl (js7k_2 gp0) (by decide)) h1 g4 dX7_swapHomes_18 ?_
  refine jr_lm (fun s5 => ?_)
  refine jr_aload_n dX7_swapHomes_19 1 rfl ?_
  refine jr_getk (i := 2) jc_7 (jl_kd1 gp0) (jl_kdlt gp0 (by decide)) (Nat.le_of_ble_eq_true rfl) (js7_2 gp0) jw_244 dX7_swapHomes_20 ?_
  refine jr_iload_n dX7_swapHomes_23 3 rfl ?_
  refine jr_iload_n dX7_swapHomes_24 0 rfl ?_
  refine jr_grd (fun g6 => ?_)
  refine jr_iastore (js7k_2 gp0) (jl_kdl (js7k_2 gp0) (by decide)) h2 g6 dX7_swapHomes_25 ?_
  refine jr_lm (fun s7 => ?_)
  exact jr_ret_v rfl dX7_swapHomes_26
def jf_X1_searchChange_B107 (R40 : Int → Int → Int → jl_Mm → jl_O) (R50 : Int → Int → Int → Int → jl_Mm → jl_O) (l1 : Int) (l2 : Int) (l3 : Int) (l4 : Int) (s0 : jl_Mm) : jl_O :=
  R50 l1 l2 l3 (jl_add l4 1) s0
set_option maxRecDepth 20000 in
set_option maxHeartbeats 2000000 in
theorem jj_X1_searchChange_B107 (G : jl_GC) (R40 : Int → Int → Int → jl_Mm → jl_O) (R50 : Int → Int → Int → Int → jl_Mm → jl_O) (hR40 : ∀ (l1 : Int) (l2 : Int) (l3 : Int) (_hl1 : jl_n3 l1) (_hl2 : jl_n3 l2) (_hl3 : jl_n3 l3) (s0 : jl_Mm), j2 G jM_X1_searchChange 40 [(0, jl_vr G 195), (1, jl_vi l1), (2, jl_vi l2), (3, jl_vi l3)] [] s0 (R40 l1 l2 l3 s0)) (hR50 : ∀ (l1 : Int) (l2 : Int) (l3 : Int) (l4 : Int) (_hl1 : jl_n3 l1) (_hl2 : jl_n3 l2) (_hl3 : jl_n3 l3) (_hl4 : jl_n3 l4) (s0 : jl_Mm), j2 G jM_X1_searchChange 50 [(0, jl_vr G 195), (1, jl_vi l1), (2, jl_vi l2), (3, jl_vi l3), (4, jl_vi l4)] [] s0 (R50 l1 l2 l3 l4 s0)) (l1 : Int) (l2 : Int) (l3 : Int) (l4 : Int) (hl1 : jl_n3 l1) (hl2 : jl_n3 l2) (hl3 : jl_n3 l3) (hl4 : jl_n3 l4) (s0 : jl_Mm) : j2 G jM_X1_searchChange 107 [(0, jl_vr G 195), (1, jl_vi l1), (2, jl_vi l2), (3, jl_vi l3), (4, jl_vi l4)] [] s0 (jf_X1_searchChange_B107 R40 R50 l1 l2 l3 l4 s0) := by
  refine jr_iinc (j := 4) (lv := [(4, jl_vi (jl_add l4 1)), (0, jl_vr G 195), (1, jl_vi l1), (2, jl_vi l2), (3, jl_vi l3)]) dX1_searchChange_107 rfl (Nat.le_of_ble_eq_true rfl) rfl ?_
  refine jr_goto (t := 50) dX1_searchChange_110 (by decide) ?_
  refine jr_sub [1, 2, 3, 4, 0] rfl ?_
  exact hR50 l1 l2 l3 (jl_add l4 1) hl1 hl2 hl3 (jl_n3_to _) s0
def jf_X1_searchChange_L50 (R40 : Int → Int → Int → jl_Mm → jl_O) : Nat → Int → Int → Int → Int → jl_Mm → jl_O
  | 0, _, _, _, _, _ => none
  | n + 1, l1, l2, l3, l4, s0 =>
    if l2 ≤ l4 then (R40 l1 l2 (jl_add l3 1) s0) else (jl_bd (jf_X1_restart s0) fun r16 s17 => if (jl_kd (r16).toNat).1 = 7 then jl_bd (jf_X7_swapHomes 196 l3 l4 s17) fun r19 s20 => jl_bd (jf_X1_believedBehind l1 s20) fun r21 s22 => jl_bd (jf_J6_bitCount_0f7a4 r21 s22) fun r23 s24 => if r23 ≤ jl_g s24 195 7 then (jf_X1_searchChange_B107 (R40) (jf_X1_searchChange_L50 R40 n) l1 l2 l3 l4 s24) else (jl_lm (jl_up s24 195 5 l3) fun s26 => jl_lm (jl_up s26 195 6 l4) fun s27 => jl_lm (jl_up s27 195 7 r23) fun s28 => jf_X1_searchChange_B107 (R40) (jf_X1_searchChange_L50 R40 n) l1 l2 l3 l4 s28) else none)
set_option maxRecDepth 20000 in
set_option maxHeartbeats 2000000 in
theorem jj_X1_searchChange_L50 (G : jl_GC) (R40 : Int → Int → Int → jl_Mm → jl_O) (hR40 : ∀ (l1 : Int) (l2 : Int) (l3 : Int) (_hl1 : jl_n3 l1) (_hl2 : jl_n3 l2) (_hl3 : jl_n3 l3) (s0 : jl_Mm), j2 G jM_X1_searchChange 40 [(0, jl_vr G 195), (1, jl_vi l1), (2, jl_vi l2), (3, jl_vi l3)] [] s0 (R40 l1 l2 l3 s0)) : ∀ (n : Nat) (l1 : Int) (l2 : Int) (l3 : Int) (l4 : Int) (hl1 : jl_n3 l1) (hl2 : jl_n3 l2) (hl3 : jl_n3 l3) (hl4 : jl_n3 l4) (s0 : jl_Mm), j2 G jM_X1_searchChange 50 [(0, jl_vr G 195), (1, jl_vi l1), (2, jl_vi l2), (3, jl_vi l3), (4, jl_vi l4)] [] s0 (jf_X1_searchChange_L50 R40 n l1 l2 l3 l4 s0) := by
  intro n
  induction n with
  | zero =>
    intros
    exact jr_none
  | succ n ih =>
    intro l1 l2 l3 l4 hl1 hl2 hl3 hl4 s0
    refine jr_iload dX1_searchChange_50 4 rfl ?_
    refine jr_iload_n dX1_searchChange_52 2 rfl ?_
    refine jr_icmp_ge (t := 113) dX1_searchChange_53 (by decide) hl4 hl2 (fun c15 => ?_) (fun c15 => ?_)
    · refine jr_iinc (j := 3) (lv := [(3, jl_vi (jl_add l3 1)), (0, jl_vr G 195), (1, jl_vi l1), (2, jl_vi l2), (4, jl_vi l4)]) dX1_searchChange_113 rfl (Nat.le_of_ble_eq_true rfl) rfl ?_
      refine jr_goto (t := 40) dX1_searchChange_116 (by decide) ?_
      refine jr_sub [1, 2, 3, 0] rfl ?_
      exact hR40 l1 l2 (jl_add l3 1) hl1 hl2 (jl_n3_to _) s0
    · refine jr_aload_n dX1_searchChange_56 0 rfl ?_
      refine j2_callVa (As := []) dX1_searchChange_57 (jt_X1_restart G s0) jv_X1_restart ⟨rfl, rfl, rfl⟩ jw_948 jk_195 (by decide) (by decide) rfl ⟨Nat.le_of_ble_eq_true rfl, Nat.le_of_ble_eq_true rfl⟩ rfl (Nat.le_of_ble_eq_true rfl) (fun r16 s17 hr16 => ?_)
      refine jr_grd (fun g18 => ?_)
      refine jr_pop dX1_searchChange_60 rfl ?_
      refine jr_aload_n dX1_searchChange_61 0 rfl ?_
      refine jr_getk (i := 2) jc_1 jk_195 (by decide) (Nat.le_of_ble_eq_true rfl) jlk_195_2 jw_349 dX1_searchChange_62 ?_
      refine jr_iload_n dX1_searchChange_65 3 rfl ?_
      refine jr_iload dX1_searchChange_66 4 rfl ?_
      refine j2_callVv (As := [jl_vi l3, jl_vi l4]) dX1_searchChange_68 (jt_X7_swapHomes G 196 l3 l4 hl3 hl4 s17) jv_X7_swapHomes ⟨rfl, rfl, rfl⟩ jw_1001 jk_196 (by decide) (by decide) rfl ⟨Nat.le_of_ble_eq_true rfl, Nat.le_of_ble_eq_true rfl⟩ rfl (Nat.le_of_ble_eq_true rfl) (fun r19 s20 hr19 => ?_)
      refine jr_aload_n dX1_searchChange_71 0 rfl ?_
      refine jr_iload_n dX1_searchChange_72 1 rfl ?_
      refine j2_callVi (As := [jl_vi l1]) dX1_searchChange_73 (jt_X1_believedBehind G l1 hl1 s20) jv_X1_believedBehind ⟨rfl, rfl, rfl⟩ jw_967 jk_195 (by decide) (by decide) rfl ⟨Nat.le_of_ble_eq_true rfl, Nat.le_of_ble_eq_true rfl⟩ rfl (Nat.le_of_ble_eq_true rfl) (fun r21 s22 hr21 => ?_)
      refine j2_callSi (As := [jl_vi r21]) dX1_searchChange_76 (jt_J6_bitCount_0f7a4 G r21 hr21 s22) jv_J6_bitCount_0f7a4 ⟨rfl, rfl, rfl⟩ jw_988 ⟨Nat.le_of_ble_eq_true rfl, Nat.le_of_ble_eq_true rfl⟩ rfl (Nat.le_of_ble_eq_true rfl) (fun r23 s24 hr23 => ?_)
      refine jr_istore (lv := [(5, jl_vi r23), (0, jl_vr G 195), (1, jl_vi l1), (2, jl_vi l2), (3, jl_vi l3), (4, jl_vi l4)]) dX1_searchChange_79 (Nat.le_of_ble_eq_true rfl) rfl ?_
      refine jr_iload dX1_searchChange_81 0 rfl ?_
      refine jr_aload_n dX1_searchChange_83 1 rfl ?_
      refine jr_geti (i := 7) jc_1 jk_195 (by decide) (Nat.le_of_ble_eq_true rfl) jlk_195_7 jft_1_7 jw_359 dX1_searchChange_84 ?_
      refine jr_icmp_le (t := 107) dX1_searchChange_87 (by decide) hr23 (jl_n3_to _) (fun c25 => ?_) (fun c25 => ?_)
      · refine jr_sub [1, 2, 3, 4, 5] rfl ?_
        exact jj_X1_searchChange_B107 G (R40) (jf_X1_searchChange_L50 R40 n) (hR40) (ih) l1 l2 l3 l4 hl1 hl2 hl3 hl4 s24
      · refine jr_aload_n dX1_searchChange_90 1 rfl ?_
        refine jr_iload_n dX1_searchChange_91 4 rfl ?_
        refine jr_puti (i := 5) jc_1 jk_195 (by decide) (Nat.le_of_ble_eq_true rfl) jlk_195_5 jft_1_5 rfl jw_355 rfl dX1_searchChange_92 ?_
        refine jr_lm (fun s26 => ?_)
        refine jr_aload_n dX1_searchChange_95 1 rfl ?_
        refine jr_iload dX1_searchChange_96 5 rfl ?_
        refine jr_puti (i := 6) jc_1 jk_195 (by decide) (Nat.le_of_ble_eq_true rfl) jlk_195_6 jft_1_6 rfl jw_357 rfl dX1_searchChange_98 ?_
        refine jr_lm (fun s27 => ?_)
        refine jr_aload_n dX1_searchChange_101 1 rfl ?_
        refine jr_iload dX1_searchChange_102 0 rfl ?_
        refine jr_puti (i := 7) jc_1 jk_195 (by decide) (Nat.le_of_ble_eq_true rfl) jlk_195_7 jft_1_7 rfl jw_359 rfl dX1_searchChange_104 ?_
        refine jr_lm (fun s28 => ?_)
        refine jr_sub [1, 2, 3, 4, 5] rfl ?_
        exact jj_X1_searchChange_B107 G (R40) (jf_X1_searchChange_L50 R40 n) (hR40) (ih) l1 l2 l3 l4 hl1 hl2 hl3 hl4 s28
def jf_X1_searchChange_L40 : Nat → Int → Int → Int → jl_Mm → jl_O
  | 0, _, _, _, _ => none
  | n + 1, l1, l2, l3, s0 =>
    if l2 ≤ l3 then (some (0, s0)) else (jl_let (jl_add l3 (1 : Int)) fun x14 => jf_X1_searchChange_L50 (jf_X1_searchChange_L40 n) jl_fu l1 l2 l3 x14 s0)
set_option maxRecDepth 20000 in
set_option maxHeartbeats 2000000 in
theorem jj_X1_searchChange_L40 (G : jl_GC) : ∀ (n : Nat) (l1 : Int) (l2 : Int) (l3 : Int) (hl1 : jl_n3 l1) (hl2 : jl_n3 l2) (hl3 : jl_n3 l3) (s0 : jl_Mm), j2 G jM_X1_searchChange 40 [(0, jl_vr G 195), (1, jl_vi l1), (2, jl_vi l2), (3, jl_vi l3)] [] s0 (jf_X1_searchChange_L40 n l1 l2 l3 s0) := by
  intro n
  induction n with
  | zero =>
    intros
    exact jr_none
  | succ n ih =>
    intro l1 l2 l3 hl1 hl2 hl3 s0
    refine jr_iload_n dX1_searchChange_40 3 rfl ?_
    refine jr_iload_n dX1_searchChange_41 2 rfl ?_
    refine jr_icmp_ge (t := 119) dX1_searchChange_42 (by decide) hl3 hl2 (fun c13 => ?_) (fun c13 => ?_)
    · exact jr_ret_v rfl dX1_searchChange_119
    · refine jr_iload_n dX1_searchChange_45 3 rfl ?_
      refine jr_iconst dX1_searchChange_46 ?_
      refine jr_iadd dX1_searchChange_47 ?_
      refine jr_let (jl_n3_to _) (fun x14 hx14 => ?_)
      refine jr_istore (lv := [(4, jl_vi x14), (0, jl_vr G 195), (1, jl_vi l1), (2, jl_vi l2), (3, jl_vi l3)]) dX1_searchChange_48 (Nat.le_of_ble_eq_true rfl) rfl ?_
      refine jr_sub [1, 2, 3, 4, 0] rfl ?_
      exact jj_X1_searchChange_L50 G (jf_X1_searchChange_L40 n) (ih) jl_fu l1 l2 l3 x14 hl1 hl2 hl3 hx14 s0
def jf_X1_searchChange (v1 : Int) (s0 : jl_Mm) : jl_O :=
  jl_bd (jf_X1_restart s0) fun r1 s2 => if (jl_kd (r1).toNat).1 = 7 then jl_lm (jl_up s2 195 5 (-1 : Int)) fun s4 => jl_lm (jl_up s4 195 6 (-1 : Int)) fun s5 => jl_bd (jf_X1_believedBehind v1 s5) fun r6 s7 => jl_bd (jf_J6_bitCount_0f7a4 r6 s7) fun r8 s9 => jl_lm (jl_up s9 195 7 r8) fun s10 => if 0 ≤ s10 190 0 ∧ (jl_kd (jl_gr s10 190 0)).1 = 8 then jl_let (jl_g s10 (jl_gr s10 190 0) 2) fun x12 => jf_X1_searchChange_L40 jl_fu v1 x12 (0 : Int) s10 else none else none
set_option maxRecDepth 20000 in
set_option maxHeartbeats 2000000 in
theorem jt_X1_searchChange (G : jl_GC) (v1 : Int) (h1 : jl_n3 v1) (s0 : jl_Mm) : jC2 G jM_X1_searchChange [jl_vr G 195, jl_vi v1] s0 (jf_X1_searchChange v1 s0) := by
  refine jl_met (plainFor_of_name rfl) (Nat.le_of_ble_eq_true rfl) ?_
  show j2 G jM_X1_searchChange 0 [(0, jl_vr G 195), (1, jl_vi v1)] [] s0 _
  refine jr_aload_n dX1_searchChange_0 0 rfl ?_
  refine j2_callVa (As := []) dX1_searchChange_1 (jt_X1_restart G s0) jv_X1_restart ⟨rfl, rfl, rfl⟩ jw_948 jk_195 (by decide) (by decide) rfl ⟨Nat.le_of_ble_eq_true rfl, Nat.le_of_ble_eq_true rfl⟩ rfl (Nat.le_of_ble_eq_true rfl) (fun r1 s2 hr1 => ?_)
  refine jr_grd (fun g3 => ?_)
  refine jr_pop dX1_searchChange_4 rfl ?_
  refine jr_aload_n dX1_searchChange_5 0 rfl ?_
  refine jr_iconst dX1_searchChange_6 ?_
  refine jr_puti (i := 5) jc_1 jk_195 (by decide) (Nat.le_of_ble_eq_true rfl) jlk_195_5 jft_1_5 rfl jw_355 rfl dX1_searchChange_7 ?_
  refine jr_lm (fun s4 => ?_)
  refine jr_aload_n dX1_searchChange_10 0 rfl ?_
  refine jr_iconst dX1_searchChange_11 ?_
  refine jr_puti (i := 6) jc_1 jk_195 (by decide) (Nat.le_of_ble_eq_true rfl) jlk_195_6 jft_1_6 rfl jw_357 rfl dX1_searchChange_12 ?_
  refine jr_lm (fun s5 => ?_)
  refine jr_aload_n dX1_searchChange_15 0 rfl ?_
  refine jr_aload_n dX1_searchChange_16 0 rfl ?_
  refine jr_iload_n dX1_searchChange_17 1 rfl ?_
  refine j2_callVi (As := [jl_vi v1]) dX1_searchChange_18 (jt_X1_believedBehind G v1 h1 s5) jv_X1_believedBehind ⟨rfl, rfl, rfl⟩ jw_967 jk_195 (by decide) (by decide) rfl ⟨Nat.le_of_ble_eq_true rfl, Nat.le_of_ble_eq_true rfl⟩ rfl (Nat.le_of_ble_eq_true rfl) (fun r6 s7 hr6 => ?_)
  refine j2_callSi (As := [jl_vi r6]) dX1_searchChange_21 (jt_J6_bitCount_0f7a4 G r6 hr6 s7) jv_J6_bitCount_0f7a4 ⟨rfl, rfl, rfl⟩ jw_988 ⟨Nat.le_of_ble_eq_true rfl, Nat.le_of_ble_eq_true rfl⟩ rfl (Nat.le_of_ble_eq_true rfl) (fun r8 s9 hr8 => ?_)
  refine jr_puti (i := 7) jc_1 jk_195 (by decide) (Nat.le_of_ble_eq_true rfl) jlk_195_7 jft_1_7 rfl jw_359 rfl dX1_searchChange_24 ?_
  refine jr_lm (fun s10 => ?_)
  refine jr_aload_n dX1_searchChange_27 0 rfl ?_
  refine jr_getk (i := 0) jc_1 jk_195 (by decide) (Nat.le_of_ble_eq_true rfl) jlk_195_0 jw_346 dX1_searchChange_28 ?_
  refine jr_grd (fun g11 => ?_)
  refine jr_getrN (i := 0) jc_5 jk_190 (by decide) (Nat.le_of_ble_eq_true rfl) jlk_190_0 jft_5_0 g11.1 jw_322 dX1_searchChange_31 ?_
  refine jr_getiN (i := 2) jc_8 (jl_kd1 g11.2) (jl_kdlt g11.2 (by decide)) (Nat.le_of_ble_eq_true rfl) (js8n_2 g11.2) jft_8_2 jw_99 dX1_searchChange_34 ?_
  refine jr_let (jl_n3_to _) (fun x12 hx12 => ?_)
  refine jr_istore_n (lv := [(2, jl_vi x12), (0, jl_vr G 195), (1, jl_vi v1)]) dX1_searchChange_37 rfl (Nat.le_of_ble_eq_true rfl) rfl ?_
  refine jr_iconst dX1_searchChange_38 ?_
  refine jr_istore_n (lv := [(3, jl_vi (0 : Int)), (2, jl_vi x12), (0, jl_vr G 195), (1, jl_vi v1)]) dX1_searchChange_39 rfl (Nat.le_of_ble_eq_true rfl) rfl ?_
  refine jr_sub [2, 3, 1, 0] rfl ?_
  exact jj_X1_searchChange_L40 G jl_fu v1 x12 (0 : Int) h1 hx12 (jl_nlit rfl) s10
def jf_X11_hasStreet_B15 (k0 : Int) (s0 : jl_Mm) : jl_O :=
  jl_zb k0 s0
set_option maxRecDepth 20000 in
set_option maxHeartbeats 2000000 in
theorem jj_X11_hasStreet_B15 (G : jl_GC) (k0 : Int) (hk0 : jl_n3 k0) (s0 : jl_Mm) : j2 G jM_X11_hasStreet 15 [] [jl_vi k0] s0 (jf_X11_hasStreet_B15 k0 s0) := by
  exact jr_ret_z rfl dX11_hasStreet_15
def jf_X11_hasStreet (s0 : jl_Mm) : jl_O :=
  if 0 ≤ s0 0 2 ∧ (jl_kd (jl_gr s0 0 2)).1 = 8 then if jl_g s0 (jl_gr s0 0 2) 1 ≤ (0 : Int) then (jf_X11_hasStreet_B15 (0 : Int) s0) else (jf_X11_hasStreet_B15 (1 : Int) s0) else none
set_option maxRecDepth 20000 in
set_option maxHeartbeats 2000000 in
theorem jt_X11_hasStreet (G : jl_GC) (s0 : jl_Mm) : jC2 G jM_X11_hasStreet [jl_vr G 0] s0 (jf_X11_hasStreet s0) := by
  refine jl_met (plainFor_of_name rfl) (Nat.le_of_ble_eq_true rfl) ?_
  show j2 G jM_X11_hasStreet 0 [(0, jl_vr G 0)] [] s0 _
  refine jr_aload_n dX11_hasStreet_0 0 rfl ?_
  refine jr_grd (fun g1 => ?_)
  refine jr_getr (i := 2) jc_11 jk_0 (by decide) (Nat.le_of_ble_eq_true rfl) jlk_0_2 jft_11_2 g1.1 jw_426 dX11_hasStreet_1 ?_
  refine jr_getiN (i := 1) jc_8 (jl_kd1 g1.2) (jl_kdlt g1.2 (by decide)) (Nat.le_of_ble_eq_true rfl) (js8n_1 g1.2) jft_8_1 jw_91 dX11_hasStreet_4 ?_
  refine jr_if_le (t := 14) dX11_hasStreet_7 (by decide) (jl_n3_to _) (fun c2 => ?_) (fun c2 => ?_)
  · refine jr_iconst dX11_hasStreet_14 ?_
    refine jr_sub [] rfl ?_
    exact jj_X11_hasStreet_B15 G (0 : Int) (jl_nlit rfl) s0
  · refine jr_iconst dX11_hasStreet_10 ?_
    refine jr_goto (t := 15) dX11_hasStreet_11 (by decide) ?_
    refine jr_sub [] rfl ?_
    exact jj_X11_hasStreet_B15 G (1 : Int) (jl_nlit rfl) s0
def jf_X11_change_B30 (s0 : jl_Mm) : jl_O :=
  some ((-1 : Int), s0)
set_option maxRecDepth 20000 in
set_option maxHeartbeats 2000000 in
theorem jj_X11_change_B30 (G : jl_GC) (s0 : jl_Mm) : j2 G jM_X11_change 30 [] [] s0 (jf_X11_change_B30 s0) := by
  refine jr_iconst dX11_change_30 ?_
  exact jr_ret_i rfl (jl_nlit rfl) dX11_change_31
def jf_X11_change (v1 : Int) (v2 : Int) (s0 : jl_Mm) : jl_O :=
  if v2 < (0 : Int) then (jf_X11_change_B30 s0) else (if (2 : Int) < v2 then (jf_X11_change_B30 s0) else (jl_bd (jf_X11_hasStreet s0) fun r3 s4 => if r3 = (0 : Int) then (jf_X11_change_B30 s4) else (jl_bd (jf_X1_comes v1 (1 : Int) (40 : Int) s4) fun r6 s7 => if r6 = (0 : Int) then (jf_X11_change_B30 s7) else (jl_bd (jf_X1_searchChange v1 s7) fun r9 s10 => if v2 = 0 then (some (jl_g s10 195 5, s10)) else if v2 = 1 then (some (jl_g s10 195 6, s10)) else (some (jl_g s10 195 7, s10))))))
set_option maxRecDepth 20000 in
set_option maxHeartbeats 2000000 in
theorem jt_X11_change (G : jl_GC) (v1 : Int) (v2 : Int) (h1 : jl_n3 v1) (h2 : jl_n3 v2) (s0 : jl_Mm) : jC2 G jM_X11_change [jl_vr G 0, jl_vi v1, jl_vi v2] s0 (jf_X11_change v1 v2 s0) := by
  refine jl_met (plainFor_of_name rfl) (Nat.le_of_ble_eq_true rfl) ?_
  show j2 G jM_X11_change 0 [(0, jl_vr G 0), (1, jl_vi v1), (2, jl_vi v2)] [] s0 _
  refine jr_iload_n dX11_change_0 2 rfl ?_
  refine jr_if_lt (t := 30) dX11_change_1 (by decide) h2 (fun c1 => ?_) (fun c1 => ?_)
  · refine jr_sub [] rfl ?_
    exact jj_X11_change_B30 G s0
  · refine jr_iload_n dX11_change_4 2 rfl ?_
    refine jr_iconst dX11_change_5 ?_
    refine jr_icmp_gt (t := 30) dX11_change_6 (by decide) h2 (jl_nlit rfl) (fun c2 => ?_) (fun c2 => ?_)
    · refine jr_sub [] rfl ?_
      exact jj_X11_change_B30 G s0
    · refine jr_aload_n dX11_change_9 0 rfl ?_
      refine j2_callVz (As := []) dX11_change_10 (jt_X11_hasStreet G s0) jv_X11_hasStreet ⟨rfl, rfl, rfl⟩ jw_993 jk_0 (by decide) (by decide) rfl ⟨Nat.le_of_ble_eq_true rfl, Nat.le_of_ble_eq_true rfl⟩ rfl (Nat.le_of_ble_eq_true rfl) (fun r3 s4 hr3 => ?_)
      refine jr_if_eq (t := 30) dX11_change_13 (by decide) (jl_nz hr3) (fun c5 => ?_) (fun c5 => ?_)
      · refine jr_sub [] rfl ?_
        exact jj_X11_change_B30 G s4
      · refine jr_aload_n dX11_change_16 0 rfl ?_
        refine jr_getk (i := 10) jc_11 jk_0 (by decide) (Nat.le_of_ble_eq_true rfl) jlk_0_10 jw_434 dX11_change_17 ?_
        refine jr_iload_n dX11_change_20 1 rfl ?_
        refine jr_iconst dX11_change_21 ?_
        refine jr_bipush dX11_change_22 (by decide) ?_
        refine j2_callVz (As := [jl_vi v1, jl_vi (1 : Int), jl_vi (40 : Int)]) dX11_change_24 (jt_X1_comes G v1 (1 : Int) (40 : Int) h1 (jl_nlit rfl) (jl_nlit rfl) s4) jv_X1_comes ⟨rfl, rfl, rfl⟩ jw_866 jk_195 (by decide) (by decide) rfl ⟨Nat.le_of_ble_eq_true rfl, Nat.le_of_ble_eq_true rfl⟩ rfl (Nat.le_of_ble_eq_true rfl) (fun r6 s7 hr6 => ?_)
        refine jr_if_ne (t := 32) dX11_change_27 (by decide) (jl_nz hr6) (fun c8 => ?_) (fun c8 => ?_)
        · refine jr_sub [] rfl ?_
          exact jj_X11_change_B30 G s7
        · refine jr_aload_n dX11_change_32 0 rfl ?_
          refine jr_getk (i := 10) jc_11 jk_0 (by decide) (Nat.le_of_ble_eq_true rfl) jlk_0_10 jw_434 dX11_change_33 ?_
          refine jr_iload_n dX11_change_36 1 rfl ?_
          refine j2_callVv (As := [jl_vi v1]) dX11_change_37 (jt_X1_searchChange G v1 h1 s7) jv_X1_searchChange ⟨rfl, rfl, rfl⟩ jw_997 jk_195 (by decide) (by decide) rfl ⟨Nat.le_of_ble_eq_true rfl, Nat.le_of_ble_eq_true rfl⟩ rfl (Nat.le_of_ble_eq_true rfl) (fun r9 s10 hr9 => ?_)
          refine jr_iload_n dX11_change_40 2 rfl ?_
          refine jr_ite (fun c11 => ?_) (fun c11 => ?_)
          · refine jr_look (t := 68) (off := 27) dX11_change_41 h2 (by decide) (by rw [c11] <;> rfl) (by decide) ?_
            refine jr_aload_n dX11_change_68 0 rfl ?_
            refine jr_getk (i := 10) jc_11 jk_0 (by decide) (Nat.le_of_ble_eq_true rfl) jlk_0_10 jw_434 dX11_change_69 ?_
            refine jr_getiN (i := 5) jc_1 jk_195 (by decide) (Nat.le_of_ble_eq_true rfl) jlk_195_5 jft_1_5 jw_356 dX11_change_72 ?_
            exact jr_ret_i rfl (jl_n3_to _) dX11_change_75
          · skip
            refine jr_ite (fun c12 => ?_) (fun c12 => ?_)
            · refine jr_look (t := 76) (off := 35) dX11_change_41 h2 (by decide) (by rw [c12] <;> rfl) (by decide) ?_
              refine jr_aload_n dX11_change_76 0 rfl ?_
              refine jr_getk (i := 10) jc_11 jk_0 (by decide) (Nat.le_of_ble_eq_true rfl) jlk_0_10 jw_434 dX11_change_77 ?_
              refine jr_getiN (i := 6) jc_1 jk_195 (by decide) (Nat.le_of_ble_eq_true rfl) jlk_195_6 jft_1_6 jw_358 dX11_change_80 ?_
              exact jr_ret_i rfl (jl_n3_to _) dX11_change_83
            · skip
              refine jr_look (t := 84) (off := 43) dX11_change_41 h2 (by decide) (by simp [Op.lookupswitch.offset, Ne.symm c11, Ne.symm c12]) (by decide) ?_
              refine jr_aload_n dX11_change_84 0 rfl ?_
              refine jr_getk (i := 10) jc_11 jk_0 (by decide) (Nat.le_of_ble_eq_true rfl) jlk_0_10 jw_434 dX11_change_85 ?_
              refine jr_getiN (i := 7) jc_1 jk_195 (by decide) (Nat.le_of_ble_eq_true rfl) jlk_195_7 jft_1_7 jw_360 dX11_change_88 ?_
              exact jr_ret_i rfl (jl_n3_to _) dX11_change_91
def jf_X5_blow_B59 (R5 : Nat → Int → Int → Int → jl_Mm → jl_O) (l1 : Nat) (l2 : Int) (l3 : Int) (l4 : Int) (s0 : jl_Mm) : jl_O :=
  R5 l1 l2 l3 (jl_add l4 1) s0
set_option maxRecDepth 20000 in
set_option maxHeartbeats 2000000 in
theorem jj_X5_blow_B59 (G : jl_GC) (R5 : Nat → Int → Int → Int → jl_Mm → jl_O) (hR5 : ∀ (l1 : Nat) (l2 : Int) (l3 : Int) (l4 : Int) (_hl1 : (jl_kd l1).1 = 7) (_hl2 : jl_n3 l2) (_hl3 : jl_n3 l3) (_hl4 : jl_n3 l4) (s0 : jl_Mm), j2 G jM_X5_blow 5 [(0, jl_vr G 190), (1, jl_vr G l1), (2, jl_vi l2), (3, jl_vi l3), (4, jl_vi l4)] [] s0 (R5 l1 l2 l3 l4 s0)) (l1 : Nat) (l2 : Int) (l3 : Int) (l4 : Int) (hl1 : (jl_kd l1).1 = 7) (hl2 : jl_n3 l2) (hl3 : jl_n3 l3) (hl4 : jl_n3 l4) (s0 : jl_Mm) : j2 G jM_X5_blow 59 [(0, jl_vr G 190), (1, jl_vr G l1), (2, jl_vi l2), (3, jl_vi l3), (4, jl_vi l4)] [] s0 (jf_X5_blow_B59 R5 l1 l2 l3 l4 s0) := by
  refine jr_iinc (j := 4) (lv := [(4, jl_vi (jl_add l4 1)), (0, jl_vr G 190), (1, jl_vr G l1), (2, jl_vi l2), (3, jl_vi l3)]) dX5_blow_59 rfl (Nat.le_of_ble_eq_true rfl) rfl ?_
  refine jr_goto (t := 5) dX5_blow_62 (by decide) ?_
  refine jr_sub [1, 2, 3, 4, 0] rfl ?_
  exact hR5 l1 l2 l3 (jl_add l4 1) hl1 hl2 hl3 (jl_n3_to _) s0
def jf_X5_blow_L5 : Nat → Nat → Int → Int → Int → jl_Mm → jl_O
  | 0, _, _, _, _, _ => none
  | n + 1, l1, l2, l3, l4, s0 =>
    if 0 ≤ s0 190 0 ∧ (jl_kd (jl_gr s0 190 0)).1 = 8 then if jl_g s0 (jl_gr s0 190 0) 3 ≤ l4 then (some (l3, s0)) else (if 0 ≤ l4 ∧ l4 < ((8 : Nat) : Int) then if jl_g s0 (l1 + 2) (l4).toNat ≤ (0 : Int) then (jf_X5_blow_B59 (jf_X5_blow_L5 n) l1 l2 l3 l4 s0) else (if 0 ≤ s0 190 0 ∧ (jl_kd (jl_gr s0 190 0)).1 = 8 then if 0 ≤ l4 ∧ l4 < ((8 : Nat) : Int) then if 0 ≤ jl_g s0 ((jl_gr s0 190 0) + 5) (l4).toNat ∧ jl_g s0 ((jl_gr s0 190 0) + 5) (l4).toNat < ((6 : Nat) : Int) then if jl_g s0 (l1 + 1) (jl_g s0 ((jl_gr s0 190 0) + 5) (l4).toNat).toNat = l2 then (jl_bd (jf_X7_putOut l1 l4 s0) fun r9 s10 => jl_let (jl_or l3 (jl_shl (1 : Int) l4)) fun x11 => jf_X5_blow_B59 (jf_X5_blow_L5 n) l1 l2 x11 l4 s10) else (jf_X5_blow_B59 (jf_X5_blow_L5 n) l1 l2 l3 l4 s0) else none else none else none) else none) else none
set_option maxRecDepth 20000 in
set_option maxHeartbeats 2000000 in
theorem jj_X5_blow_L5 (G : jl_GC) : ∀ (n : Nat) (l1 : Nat) (l2 : Int) (l3 : Int) (l4 : Int) (hl1 : (jl_kd l1).1 = 7) (hl2 : jl_n3 l2) (hl3 : jl_n3 l3) (hl4 : jl_n3 l4) (s0 : jl_Mm), j2 G jM_X5_blow 5 [(0, jl_vr G 190), (1, jl_vr G l1), (2, jl_vi l2), (3, jl_vi l3), (4, jl_vi l4)] [] s0 (jf_X5_blow_L5 n l1 l2 l3 l4 s0) := by
  intro n
  induction n with
  | zero =>
    intros
    exact jr_none
  | succ n ih =>
    intro l1 l2 l3 l4 hl1 hl2 hl3 hl4 s0
    refine jr_iload dX5_blow_5 4 rfl ?_
    refine jr_aload_n dX5_blow_7 0 rfl ?_
    refine jr_grd (fun g1 => ?_)
    refine jr_getr (i := 0) jc_5 jk_190 (by decide) (Nat.le_of_ble_eq_true rfl) jlk_190_0 jft_5_0 g1.1 jw_319 dX5_blow_8 ?_
    refine jr_getiN (i := 3) jc_8 (jl_kd1 g1.2) (jl_kdlt g1.2 (by decide)) (Nat.le_of_ble_eq_true rfl) (js8n_3 g1.2) jft_8_3 jw_101 dX5_blow_11 ?_
    refine jr_icmp_ge (t := 65) dX5_blow_14 (by decide) hl4 (jl_n3_to _) (fun c2 => ?_) (fun c2 => ?_)
    · refine jr_iload_n dX5_blow_65 3 rfl ?_
      exact jr_ret_i rfl hl3 dX5_blow_66
    · refine jr_aload_n dX5_blow_17 1 rfl ?_
      refine jr_getkN (i := 3) jc_7 (jl_kd1 hl1) (jl_kdlt hl1 (by decide)) (Nat.le_of_ble_eq_true rfl) (js7_3 hl1) jw_249 dX5_blow_18 ?_
      refine jr_iload dX5_blow_21 4 rfl ?_
      refine jr_grd (fun g3 => ?_)
      refine jr_iaload (js7k_3 hl1) (jl_kdl (js7k_3 hl1) (by decide)) hl4 g3 dX5_blow_23 ?_
      refine jr_if_le (t := 59) dX5_blow_24 (by decide) (jl_n3_to _) (fun c4 => ?_) (fun c4 => ?_)
      · exact jj_X5_blow_B59 G (jf_X5_blow_L5 n) (ih) l1 l2 l3 l4 hl1 hl2 hl3 hl4 s0
      · refine jr_aload_n dX5_blow_27 1 rfl ?_
        refine jr_getkN (i := 2) jc_7 (jl_kd1 hl1) (jl_kdlt hl1 (by decide)) (Nat.le_of_ble_eq_true rfl) (js7_2 hl1) jw_245 dX5_blow_28 ?_
        refine jr_aload_n dX5_blow_31 0 rfl ?_
        refine jr_grd (fun g5 => ?_)
        refine jr_getr (i := 0) jc_5 jk_190 (by decide) (Nat.le_of_ble_eq_true rfl) jlk_190_0 jft_5_0 g5.1 jw_319 dX5_blow_32 ?_
        refine jr_getkN (i := 11) jc_8 (jl_kd1 g5.2) (jl_kdlt g5.2 (by decide)) (Nat.le_of_ble_eq_true rfl) (js8_11 g5.2) jw_126 dX5_blow_35 ?_
        refine jr_iload dX5_blow_38 4 rfl ?_
        refine jr_grd (fun g6 => ?_)
        refine jr_iaload (js8k_11 g5.2) (jl_kdl (js8k_11 g5.2) (by decide)) hl4 g6 dX5_blow_40 ?_
        refine jr_grd (fun g7 => ?_)
        refine jr_iaload (js7k_2 hl1) (jl_kdl (js7k_2 hl1) (by decide)) (jl_n3_to _) g7 dX5_blow_41 ?_
        refine jr_iload_n dX5_blow_42 2 rfl ?_
        refine jr_icmp_ne (t := 59) dX5_blow_43 (by decide) (jl_n3_to _) hl2 (fun c8 => ?_) (fun c8 => ?_)
        · refine jr_aload_n dX5_blow_46 1 rfl ?_
          refine jr_iload dX5_blow_47 4 rfl ?_
          refine j2_callVv (As := [jl_vi l4]) dX5_blow_49 (jt_X7_putOut G l1 l4 hl4 s0) jv_X7_putOut ⟨rfl, rfl, rfl⟩ jw_925 (jl_kd1 hl1) (by decide) (jl_kdlt hl1 (by decide)) rfl ⟨Nat.le_of_ble_eq_true rfl, Nat.le_of_ble_eq_true rfl⟩ rfl (Nat.le_of_ble_eq_true rfl) (fun r9 s10 hr9 => ?_)
          refine jr_iload_n dX5_blow_52 3 rfl ?_
          refine jr_iconst dX5_blow_53 ?_
          refine jr_iload dX5_blow_54 4 rfl ?_
          refine jr_ishl dX5_blow_56 ?_
          refine jr_ior dX5_blow_57 ?_
          refine jr_let (jl_n3_to _) (fun x11 hx11 => ?_)
          refine jr_istore_n (lv := [(3, jl_vi x11), (0, jl_vr G 190), (1, jl_vr G l1), (2, jl_vi l2), (4, jl_vi l4)]) dX5_blow_58 rfl (Nat.le_of_ble_eq_true rfl) rfl ?_
          refine jr_sub [1, 2, 3, 0, 4] rfl ?_
          exact jj_X5_blow_B59 G (jf_X5_blow_L5 n) (ih) l1 l2 x11 l4 hl1 hl2 hx11 hl4 s10
        · exact jj_X5_blow_B59 G (jf_X5_blow_L5 n) (ih) l1 l2 l3 l4 hl1 hl2 hl3 hl4 s0
def jf_X5_blow (q1 : Nat) (v2 : Int) (s0 : jl_Mm) : jl_O :=
  if (jl_kd q1).1 = 7 then jf_X5_blow_L5 jl_fu q1 v2 (0 : Int) (0 : Int) s0 else none
set_option maxRecDepth 20000 in
set_option maxHeartbeats 2000000 in
theorem jt_X5_blow (G : jl_GC) (q1 : Nat) (v2 : Int) (h2 : jl_n3 v2) (s0 : jl_Mm) : jC2 G jM_X5_blow [jl_vr G 190, jl_vr G q1, jl_vi v2] s0 (jf_X5_blow q1 v2 s0) := by
  refine jl_met (plainFor_of_name rfl) (Nat.le_of_ble_eq_true rfl) ?_
  show j2 G jM_X5_blow 0 [(0, jl_vr G 190), (1, jl_vr G q1), (2, jl_vi v2)] [] s0 _
  refine jr_grd (fun gp1 => ?_)
  refine jr_iconst dX5_blow_0 ?_
  refine jr_istore_n (lv := [(3, jl_vi (0 : Int)), (0, jl_vr G 190), (1, jl_vr G q1), (2, jl_vi v2)]) dX5_blow_1 rfl (Nat.le_of_ble_eq_true rfl) rfl ?_
  refine jr_iconst dX5_blow_2 ?_
  refine jr_istore (lv := [(4, jl_vi (0 : Int)), (3, jl_vi (0 : Int)), (0, jl_vr G 190), (1, jl_vr G q1), (2, jl_vi v2)]) dX5_blow_3 (Nat.le_of_ble_eq_true rfl) rfl ?_
  refine jr_sub [2, 3, 4, 1, 0] rfl ?_
  exact jj_X5_blow_L5 G jl_fu q1 v2 (0 : Int) (0 : Int) gp1 h2 (jl_nlit rfl) (jl_nlit rfl) s0
def jf_X1_oddsOf_L48 : Nat → Int → Int → Int → Int → Int → jl_Mm → jl_O
  | 0, _, _, _, _, _, _ => none
  | n + 1, l1, l2, l3, l4, l5, s0 =>
    if l2 ≤ l5 then (some (l4, s0)) else (jl_bd (jf_X1_restart s0) fun r12 s13 => if (jl_kd (r12).toNat).1 = 7 then jl_bd (jf_X5_blow 196 l5 s13) fun r15 s16 => jl_bd (jf_X1_believedBehind (1 : Int) s16) fun r17 s18 => jl_let (jl_add l4 (jl_mul l3 (jl_and (jl_shr r17 l1) (1 : Int)))) fun x19 => jf_X1_oddsOf_L48 n l1 l2 l3 x19 (jl_add l5 1) s18 else none)
set_option maxRecDepth 20000 in
set_option maxHeartbeats 2000000 in
theorem jj_X1_oddsOf_L48 (G : jl_GC) : ∀ (n : Nat) (l1 : Int) (l2 : Int) (l3 : Int) (l4 : Int) (l5 : Int) (hl1 : jl_n3 l1) (hl2 : jl_n3 l2) (hl3 : jl_n3 l3) (hl4 : jl_n3 l4) (hl5 : jl_n3 l5) (s0 : jl_Mm), j2 G jM_X1_oddsOf 48 [(0, jl_vr G 195), (1, jl_vi l1), (2, jl_vi l2), (3, jl_vi l3), (4, jl_vi l4), (5, jl_vi l5)] [] s0 (jf_X1_oddsOf_L48 n l1 l2 l3 l4 l5 s0) := by
  intro n
  induction n with
  | zero =>
    intros
    exact jr_none
  | succ n ih =>
    intro l1 l2 l3 l4 l5 hl1 hl2 hl3 hl4 hl5 s0
    refine jr_iload dX1_oddsOf_48 5 rfl ?_
    refine jr_iload_n dX1_oddsOf_50 2 rfl ?_
    refine jr_icmp_ge (t := 95) dX1_oddsOf_51 (by decide) hl5 hl2 (fun c11 => ?_) (fun c11 => ?_)
    · refine jr_iload dX1_oddsOf_95 4 rfl ?_
      exact jr_ret_i rfl hl4 dX1_oddsOf_97
    · refine jr_aload_n dX1_oddsOf_54 0 rfl ?_
      refine j2_callVa (As := []) dX1_oddsOf_55 (jt_X1_restart G s0) jv_X1_restart ⟨rfl, rfl, rfl⟩ jw_948 jk_195 (by decide) (by decide) rfl ⟨Nat.le_of_ble_eq_true rfl, Nat.le_of_ble_eq_true rfl⟩ rfl (Nat.le_of_ble_eq_true rfl) (fun r12 s13 hr12 => ?_)
      refine jr_grd (fun g14 => ?_)
      refine jr_pop dX1_oddsOf_58 rfl ?_
      refine jr_aload_n dX1_oddsOf_59 0 rfl ?_
      refine jr_getk (i := 0) jc_1 jk_195 (by decide) (Nat.le_of_ble_eq_true rfl) jlk_195_0 jw_346 dX1_oddsOf_60 ?_
      refine jr_aload_n dX1_oddsOf_63 0 rfl ?_
      refine jr_getk (i := 2) jc_1 jk_195 (by decide) (Nat.le_of_ble_eq_true rfl) jlk_195_2 jw_349 dX1_oddsOf_64 ?_
      refine jr_iload dX1_oddsOf_67 5 rfl ?_
      refine j2_callVi (As := [jl_vr G 196, jl_vi l5]) dX1_oddsOf_69 (jt_X5_blow G 196 l5 hl5 s13) jv_X5_blow ⟨rfl, rfl, rfl⟩ jw_1013 jk_190 (by decide) (by decide) rfl ⟨Nat.le_of_ble_eq_true rfl, Nat.le_of_ble_eq_true rfl⟩ rfl (Nat.le_of_ble_eq_true rfl) (fun r15 s16 hr15 => ?_)
      refine jr_pop dX1_oddsOf_72 rfl ?_
      refine jr_iload dX1_oddsOf_73 4 rfl ?_
      refine jr_iload_n dX1_oddsOf_75 3 rfl ?_
      refine jr_aload_n dX1_oddsOf_76 0 rfl ?_
      refine jr_iconst dX1_oddsOf_77 ?_
      refine j2_callVi (As := [jl_vi (1 : Int)]) dX1_oddsOf_78 (jt_X1_believedBehind G (1 : Int) (jl_nlit rfl) s16) jv_X1_believedBehind ⟨rfl, rfl, rfl⟩ jw_967 jk_195 (by decide) (by decide) rfl ⟨Nat.le_of_ble_eq_true rfl, Nat.le_of_ble_eq_true rfl⟩ rfl (Nat.le_of_ble_eq_true rfl) (fun r17 s18 hr17 => ?_)
      refine jr_iload_n dX1_oddsOf_81 1 rfl ?_
      refine jr_ishr dX1_oddsOf_82 ?_
      refine jr_iconst dX1_oddsOf_83 ?_
      refine jr_iand dX1_oddsOf_84 ?_
      refine jr_imul dX1_oddsOf_85 ?_
      refine jr_iadd dX1_oddsOf_86 ?_
      refine jr_let (jl_n3_to _) (fun x19 hx19 => ?_)
      refine jr_istore (lv := [(4, jl_vi x19), (0, jl_vr G 195), (1, jl_vi l1), (2, jl_vi l2), (3, jl_vi l3), (5, jl_vi l5)]) dX1_oddsOf_87 (Nat.le_of_ble_eq_true rfl) rfl ?_
      refine jr_iinc (j := 5) (lv := [(5, jl_vi (jl_add l5 1)), (4, jl_vi x19), (0, jl_vr G 195), (1, jl_vi l1), (2, jl_vi l2), (3, jl_vi l3)]) dX1_oddsOf_89 rfl (Nat.le_of_ble_eq_true rfl) rfl ?_
      refine jr_goto (t := 48) dX1_oddsOf_92 (by decide) ?_
      refine jr_sub [2, 3, 4, 5, 1, 0] rfl ?_
      exact ih l1 l2 l3 x19 (jl_add l5 1) hl1 hl2 hl3 hx19 (jl_n3_to _) s18
def jf_X1_oddsOf (v1 : Int) (s0 : jl_Mm) : jl_O :=
  if 0 ≤ s0 190 0 ∧ (jl_kd (jl_gr s0 190 0)).1 = 8 then jl_let (jl_g s0 (jl_gr s0 190 0) 1) fun x2 => if 0 ≤ s0 190 0 ∧ (jl_kd (jl_gr s0 190 0)).1 = 8 then jl_let (jl_g s0 (jl_gr s0 190 0) 6) fun x4 => jl_bd (jf_X1_restart s0) fun r5 s6 => if (jl_kd (r5).toNat).1 = 7 then jl_bd (jf_X1_believedBehind (1 : Int) s6) fun r8 s9 => jl_let (jl_mul (jl_mul (jl_sub (100 : Int) x4) x2) (jl_and (jl_shr r8 v1) (1 : Int))) fun x10 => jf_X1_oddsOf_L48 jl_fu v1 x2 x4 x10 (0 : Int) s9 else none else none else none
set_option maxRecDepth 20000 in
set_option maxHeartbeats 2000000 in
theorem jt_X1_oddsOf (G : jl_GC) (v1 : Int) (h1 : jl_n3 v1) (s0 : jl_Mm) : jC2 G jM_X1_oddsOf [jl_vr G 195, jl_vi v1] s0 (jf_X1_oddsOf v1 s0) := by
  refine jl_met (plainFor_of_name rfl) (Nat.le_of_ble_eq_true rfl) ?_
  show j2 G jM_X1_oddsOf 0 [(0, jl_vr G 195), (1, jl_vi v1)] [] s0 _
  refine jr_aload_n dX1_oddsOf_0 0 rfl ?_
  refine jr_getk (i := 0) jc_1 jk_195 (by decide) (Nat.le_of_ble_eq_true rfl) jlk_195_0 jw_346 dX1_oddsOf_1 ?_
  refine jr_grd (fun g1 => ?_)
  refine jr_getrN (i := 0) jc_5 jk_190 (by decide) (Nat.le_of_ble_eq_true rfl) jlk_190_0 jft_5_0 g1.1 jw_322 dX1_oddsOf_4 ?_
  refine jr_getiN (i := 1) jc_8 (jl_kd1 g1.2) (jl_kdlt g1.2 (by decide)) (Nat.le_of_ble_eq_true rfl) (js8n_1 g1.2) jft_8_1 jw_92 dX1_oddsOf_7 ?_
  refine jr_let (jl_n3_to _) (fun x2 hx2 => ?_)
  refine jr_istore_n (lv := [(2, jl_vi x2), (0, jl_vr G 195), (1, jl_vi v1)]) dX1_oddsOf_10 rfl (Nat.le_of_ble_eq_true rfl) rfl ?_
  refine jr_aload_n dX1_oddsOf_11 1 rfl ?_
  refine jr_getk (i := 0) jc_1 jk_195 (by decide) (Nat.le_of_ble_eq_true rfl) jlk_195_0 jw_346 dX1_oddsOf_12 ?_
  refine jr_grd (fun g3 => ?_)
  refine jr_getrN (i := 0) jc_5 jk_190 (by decide) (Nat.le_of_ble_eq_true rfl) jlk_190_0 jft_5_0 g3.1 jw_322 dX1_oddsOf_15 ?_
  refine jr_getiN (i := 6) jc_8 (jl_kd1 g3.2) (jl_kdlt g3.2 (by decide)) (Nat.le_of_ble_eq_true rfl) (js8n_6 g3.2) jft_8_6 jw_114 dX1_oddsOf_18 ?_
  refine jr_let (jl_n3_to _) (fun x4 hx4 => ?_)
  refine jr_istore_n (lv := [(3, jl_vi x4), (2, jl_vi x2), (0, jl_vr G 195), (1, jl_vi v1)]) dX1_oddsOf_21 rfl (Nat.le_of_ble_eq_true rfl) rfl ?_
  refine jr_aload_n dX1_oddsOf_22 2 rfl ?_
  refine j2_callVa (As := []) dX1_oddsOf_23 (jt_X1_restart G s0) jv_X1_restart ⟨rfl, rfl, rfl⟩ jw_948 jk_195 (by decide) (by decide) rfl ⟨Nat.le_of_ble_eq_true rfl, Nat.le_of_ble_eq_true rfl⟩ rfl (Nat.le_of_ble_eq_true rfl) (fun r5 s6 hr5 => ?_)
  refine jr_grd (fun g7 => ?_)
  refine jr_pop dX1_oddsOf_26 rfl ?_
  refine jr_bipush dX1_oddsOf_27 (by decide) ?_
  refine jr_iload_n dX1_oddsOf_29 0 rfl ?_
  refine jr_isub dX1_oddsOf_30 ?_
  refine jr_iload_n dX1_oddsOf_31 1 rfl ?_
  refine jr_imul dX1_oddsOf_32 ?_
  refine jr_aload_n dX1_oddsOf_33 2 rfl ?_
  refine jr_iconst dX1_oddsOf_34 ?_
  refine j2_callVi (As := [jl_vi (1 : Int)]) dX1_oddsOf_35 (jt_X1_believedBehind G (1 : Int) (jl_nlit rfl) s6) jv_X1_believedBehind ⟨rfl, rfl, rfl⟩ jw_967 jk_195 (by decide) (by decide) rfl ⟨Nat.le_of_ble_eq_true rfl, Nat.le_of_ble_eq_true rfl⟩ rfl (Nat.le_of_ble_eq_true rfl) (fun r8 s9 hr8 => ?_)
  refine jr_iload_n dX1_oddsOf_38 3 rfl ?_
  refine jr_ishr dX1_oddsOf_39 ?_
  refine jr_iconst dX1_oddsOf_40 ?_
  refine jr_iand dX1_oddsOf_41 ?_
  refine jr_imul dX1_oddsOf_42 ?_
  refine jr_let (jl_n3_to _) (fun x10 hx10 => ?_)
  refine jr_istore (lv := [(4, jl_vi x10), (3, jl_vi x4), (2, jl_vi x2), (0, jl_vr G 195), (1, jl_vi v1)]) dX1_oddsOf_43 (Nat.le_of_ble_eq_true rfl) rfl ?_
  refine jr_iconst dX1_oddsOf_45 ?_
  refine jr_istore (lv := [(5, jl_vi (0 : Int)), (4, jl_vi x10), (3, jl_vi x4), (2, jl_vi x2), (0, jl_vr G 195), (1, jl_vi v1)]) dX1_oddsOf_46 (Nat.le_of_ble_eq_true rfl) rfl ?_
  refine jr_sub [4, 5, 3, 2, 1, 0] rfl ?_
  exact jj_X1_oddsOf_L48 G jl_fu v1 x2 x4 x10 (0 : Int) h1 hx2 hx4 hx10 (jl_nlit rfl) s9
def jf_X11_odds_B20 (s0 : jl_Mm) : jl_O :=
  some ((-1 : Int), s0)
set_option maxRecDepth 20000 in
set_option maxHeartbeats 2000000 in
theorem jj_X11_odds_B20 (G : jl_GC) (s0 : jl_Mm) : j2 G jM_X11_odds 20 [] [] s0 (jf_X11_odds_B20 s0) := by
  refine jr_iconst dX11_odds_20 ?_
  exact jr_ret_i rfl (jl_nlit rfl) dX11_odds_21
def jf_X11_odds_B58 (k0 : Int) (s0 : jl_Mm) : jl_O :=
  some (k0, s0)
set_option maxRecDepth 20000 in
set_option maxHeartbeats 2000000 in
theorem jj_X11_odds_B58 (G : jl_GC) (k0 : Int) (hk0 : jl_n3 k0) (s0 : jl_Mm) : j2 G jM_X11_odds 58 [] [jl_vi k0] s0 (jf_X11_odds_B58 k0 s0) := by
  exact jr_ret_i rfl hk0 dX11_odds_58
def jf_X11_odds (v1 : Int) (s0 : jl_Mm) : jl_O :=
  jl_bd (jf_X11_hasStreet s0) fun r1 s2 => if r1 = (0 : Int) then (jf_X11_odds_B20 s2) else (if jl_g s2 40 0 < (999 : Int) then (if v1 = (-1 : Int) then (if 0 ≤ s2 0 2 ∧ (jl_kd (jl_gr s2 0 2)).1 = 8 then some (jl_mul (100 : Int) (jl_g s2 (jl_gr s2 0 2) 1), s2) else none) else (jl_bd (jf_X11_isLie v1 s2) fun r6 s7 => if r6 = (0 : Int) then (jf_X11_odds_B58 (-1 : Int) s7) else (jl_bd (jf_X1_oddsOf v1 s7) fun r9 s10 => jf_X11_odds_B58 r9 s10))) else (jf_X11_odds_B20 s2))
set_option maxRecDepth 20000 in
set_option maxHeartbeats 2000000 in
theorem jt_X11_odds (G : jl_GC) (v1 : Int) (h1 : jl_n3 v1) (s0 : jl_Mm) : jC2 G jM_X11_odds [jl_vr G 0, jl_vi v1] s0 (jf_X11_odds v1 s0) := by
  refine jl_met (plainFor_of_name rfl) (Nat.le_of_ble_eq_true rfl) ?_
  show j2 G jM_X11_odds 0 [(0, jl_vr G 0), (1, jl_vi v1)] [] s0 _
  refine jr_aload_n dX11_odds_0 0 rfl ?_
  refine j2_callVz (As := []) dX11_odds_1 (jt_X11_hasStreet G s0) jv_X11_hasStreet ⟨rfl, rfl, rfl⟩ jw_993 jk_0 (by decide) (by decide) rfl ⟨Nat.le_of_ble_eq_true rfl, Nat.le_of_ble_eq_true rfl⟩ rfl (Nat.le_of_ble_eq_true rfl) (fun r1 s2 hr1 => ?_)
  refine jr_if_eq (t := 20) dX11_odds_4 (by decide) (jl_nz hr1) (fun c3 => ?_) (fun c3 => ?_)
  · refine jr_sub [] rfl ?_
    exact jj_X11_odds_B20 G s2
  · refine jr_aload_n dX11_odds_7 0 rfl ?_
    refine jr_getk (i := 6) jc_11 jk_0 (by decide) (Nat.le_of_ble_eq_true rfl) jlk_0_6 jw_430 dX11_odds_8 ?_
    refine jr_getiN (i := 0) jc_7 jk_40 (by decide) (Nat.le_of_ble_eq_true rfl) jlk_40_0 jft_7_0 jw_239 dX11_odds_11 ?_
    refine jr_sipush dX11_odds_14 (by decide) ?_
    refine jr_icmp_lt (t := 22) dX11_odds_17 (by decide) (jl_n3_to _) (jl_nlit rfl) (fun c4 => ?_) (fun c4 => ?_)
    · refine jr_iload_n dX11_odds_22 1 rfl ?_
      refine jr_iconst dX11_odds_23 ?_
      refine jr_icmp_ne (t := 38) dX11_odds_24 (by decide) h1 (jl_nlit rfl) (fun c5 => ?_) (fun c5 => ?_)
      · refine jr_bipush dX11_odds_27 (by decide) ?_
        refine jr_aload_n dX11_odds_29 0 rfl ?_
        refine jr_grd (fun g11 => ?_)
        refine jr_getr (i := 2) jc_11 jk_0 (by decide) (Nat.le_of_ble_eq_true rfl) jlk_0_2 jft_11_2 g11.1 jw_426 dX11_odds_30 ?_
        refine jr_getiN (i := 1) jc_8 (jl_kd1 g11.2) (jl_kdlt g11.2 (by decide)) (Nat.le_of_ble_eq_true rfl) (js8n_1 g11.2) jft_8_1 jw_91 dX11_odds_33 ?_
        refine jr_imul dX11_odds_36 ?_
        exact jr_ret_i rfl (jl_n3_to _) dX11_odds_37
      · refine jr_aload_n dX11_odds_38 0 rfl ?_
        refine jr_iload_n dX11_odds_39 1 rfl ?_
        refine j2_callVz (As := [jl_vi v1]) dX11_odds_40 (jt_X11_isLie G v1 h1 s2) jv_X11_isLie ⟨rfl, rfl, rfl⟩ jw_837 jk_0 (by decide) (by decide) rfl ⟨Nat.le_of_ble_eq_true rfl, Nat.le_of_ble_eq_true rfl⟩ rfl (Nat.le_of_ble_eq_true rfl) (fun r6 s7 hr6 => ?_)
        refine jr_if_eq (t := 57) dX11_odds_43 (by decide) (jl_nz hr6) (fun c8 => ?_) (fun c8 => ?_)
        · refine jr_iconst dX11_odds_57 ?_
          refine jr_sub [] rfl ?_
          exact jj_X11_odds_B58 G (-1 : Int) (jl_nlit rfl) s7
        · refine jr_aload_n dX11_odds_46 0 rfl ?_
          refine jr_getk (i := 10) jc_11 jk_0 (by decide) (Nat.le_of_ble_eq_true rfl) jlk_0_10 jw_434 dX11_odds_47 ?_
          refine jr_iload_n dX11_odds_50 1 rfl ?_
          refine j2_callVi (As := [jl_vi v1]) dX11_odds_51 (jt_X1_oddsOf G v1 h1 s7) jv_X1_oddsOf ⟨rfl, rfl, rfl⟩ jw_1009 jk_195 (by decide) (by decide) rfl ⟨Nat.le_of_ble_eq_true rfl, Nat.le_of_ble_eq_true rfl⟩ rfl (Nat.le_of_ble_eq_true rfl) (fun r9 s10 hr9 => ?_)
          refine jr_goto (t := 58) dX11_odds_54 (by decide) ?_
          refine jr_sub [] rfl ?_
          exact jj_X11_odds_B58 G r9 hr9 s10
    · refine jr_sub [] rfl ?_
      exact jj_X11_odds_B20 G s2
def jf_X6_take_B28 (s0 : jl_Mm) : jl_O :=
  jl_zb (0 : Int) s0
set_option maxRecDepth 20000 in
set_option maxHeartbeats 2000000 in
theorem jj_X6_take_B28 (G : jl_GC) (s0 : jl_Mm) : j2 G jM_X6_take 28 [] [] s0 (jf_X6_take_B28 s0) := by
  refine jr_iconst dX6_take_28 ?_
  exact jr_ret_z rfl dX6_take_29
def jf_X6_take_B78 (s0 : jl_Mm) : jl_O :=
  jl_zb (0 : Int) s0
set_option maxRecDepth 20000 in
set_option maxHeartbeats 2000000 in
theorem jj_X6_take_B78 (G : jl_GC) (s0 : jl_Mm) : j2 G jM_X6_take 78 [] [] s0 (jf_X6_take_B78 s0) := by
  refine jr_iconst dX6_take_78 ?_
  exact jr_ret_z rfl dX6_take_79
def jf_X6_take_L33 : Nat → Int → Int → Int → jl_Mm → jl_O
  | 0, _, _, _, _ => none
  | n + 1, l2, l3, l4, s0 =>
    if jl_g s0 1 1 ≤ l4 then (if (0 ≤ (0 : Int) ∧ 0 ≤ (0 : Int) ∧ 0 ≤ jl_g s0 1 1) ∧ (0 : Int) + jl_g s0 1 1 ≤ ((1600 : Nat) : Int) ∧ (0 : Int) + jl_g s0 1 1 ≤ ((48 : Nat) : Int) then jl_lm (jl_cp s0 2 (((0 : Int) : Int).toNat) 201 (((0 : Int) : Int).toNat) ((jl_g s0 1 1 : Int).toNat)) fun s7 => jl_lm (jl_up s7 200 4 l3) fun s8 => jl_zb (1 : Int) s8 else none) else (jl_bd (jf_X10_byteAt l4 s0) fun r9 s10 => if (30 : Int) < r9 then (jf_X6_take_B78 s10) else (jl_bd (jf_X10_byteAt (jl_add l4 (1 : Int)) s10) fun r12 s13 => if l2 ≤ r12 then (jf_X6_take_B78 s13) else (jl_bd (jf_X10_byteAt (jl_add l4 (2 : Int)) s13) fun r15 s16 => if r15 ≤ (8 : Int) then (jf_X6_take_L33 n l2 l3 (jl_add l4 3) s16) else (jf_X6_take_B78 s16))))
set_option maxRecDepth 20000 in
set_option maxHeartbeats 2000000 in
theorem jj_X6_take_L33 (G : jl_GC) : ∀ (n : Nat) (l2 : Int) (l3 : Int) (l4 : Int) (hl2 : jl_n3 l2) (hl3 : jl_n3 l3) (hl4 : jl_n3 l4) (s0 : jl_Mm), j2 G jM_X6_take 33 [(0, jl_vr G 200), (1, jl_vr G 1), (2, jl_vi l2), (3, jl_vi l3), (4, jl_vi l4)] [] s0 (jf_X6_take_L33 n l2 l3 l4 s0) := by
  intro n
  induction n with
  | zero =>
    intros
    exact jr_none
  | succ n ih =>
    intro l2 l3 l4 hl2 hl3 hl4 s0
    refine jr_iload dX6_take_33 4 rfl ?_
    refine jr_aload_n dX6_take_35 1 rfl ?_
    refine jr_getiN (i := 1) jc_10 jk_1 (by decide) (Nat.le_of_ble_eq_true rfl) jlk_1_1 jft_10_1 jw_39 dX6_take_36 ?_
    refine jr_icmp_ge (t := 86) dX6_take_39 (by decide) hl4 (jl_n3_to _) (fun c5 => ?_) (fun c5 => ?_)
    · refine jr_aload_n dX6_take_86 1 rfl ?_
      refine jr_getkN (i := 0) jc_10 jk_1 (by decide) (Nat.le_of_ble_eq_true rfl) jlk_1_0 jw_36 dX6_take_87 ?_
      refine jr_iconst dX6_take_90 ?_
      refine jr_aload_n dX6_take_91 0 rfl ?_
      refine jr_getk (i := 3) jc_6 jk_200 (by decide) (Nat.le_of_ble_eq_true rfl) jlk_200_3 jw_387 dX6_take_92 ?_
      refine jr_iconst dX6_take_95 ?_
      refine jr_aload_n dX6_take_96 1 rfl ?_
      refine jr_getiN (i := 1) jc_10 jk_1 (by decide) (Nat.le_of_ble_eq_true rfl) jlk_1_1 jft_10_1 jw_39 dX6_take_97 ?_
      refine jr_grd (fun g6 => ?_)
      refine jr_copy dX6_take_100 jk_2 (by decide) jk_201 (by decide) (jl_nlit rfl) (jl_nlit rfl) (jl_n3_to _) g6 jw_1026 (Nat.le_of_ble_eq_true rfl) (Nat.le_of_ble_eq_true rfl) ?_
      refine jr_lm (fun s7 => ?_)
      refine jr_aload_n dX6_take_103 0 rfl ?_
      refine jr_iload_n dX6_take_104 3 rfl ?_
      refine jr_puti (i := 4) jc_6 jk_200 (by decide) (Nat.le_of_ble_eq_true rfl) jlk_200_4 jft_6_4 rfl jw_388 rfl dX6_take_105 ?_
      refine jr_lm (fun s8 => ?_)
      refine jr_iconst dX6_take_108 ?_
      exact jr_ret_z rfl dX6_take_109
    · refine jr_aload_n dX6_take_42 1 rfl ?_
      refine jr_iload dX6_take_43 4 rfl ?_
      refine j2_callVi (As := [jl_vi l4]) dX6_take_45 (jt_X10_byteAt G l4 hl4 s0) jv_X10_byteAt ⟨rfl, rfl, rfl⟩ jw_1025 jk_1 (by decide) (by decide) rfl ⟨Nat.le_of_ble_eq_true rfl, Nat.le_of_ble_eq_true rfl⟩ rfl (Nat.le_of_ble_eq_true rfl) (fun r9 s10 hr9 => ?_)
      refine jr_bipush dX6_take_48 (by decide) ?_
      refine jr_icmp_gt (t := 78) dX6_take_50 (by decide) hr9 (jl_nlit rfl) (fun c11 => ?_) (fun c11 => ?_)
      · refine jr_sub [] rfl ?_
        exact jj_X6_take_B78 G s10
      · refine jr_aload_n dX6_take_53 1 rfl ?_
        refine jr_iload dX6_take_54 4 rfl ?_
        refine jr_iconst dX6_take_56 ?_
        refine jr_iadd dX6_take_57 ?_
        refine j2_callVi (As := [jl_vi (jl_add l4 (1 : Int))]) dX6_take_58 (jt_X10_byteAt G (jl_add l4 (1 : Int)) (jl_n3_to _) s10) jv_X10_byteAt ⟨rfl, rfl, rfl⟩ jw_1025 jk_1 (by decide) (by decide) rfl ⟨Nat.le_of_ble_eq_true rfl, Nat.le_of_ble_eq_true rfl⟩ rfl (Nat.le_of_ble_eq_true rfl) (fun r12 s13 hr12 => ?_)
        refine jr_iload_n dX6_take_61 2 rfl ?_
        refine jr_icmp_ge (t := 78) dX6_take_62 (by decide) hr12 hl2 (fun c14 => ?_) (fun c14 => ?_)
        · refine jr_sub [] rfl ?_
          exact jj_X6_take_B78 G s13
        · refine jr_aload_n dX6_take_65 1 rfl ?_
          refine jr_iload dX6_take_66 4 rfl ?_
          refine jr_iconst dX6_take_68 ?_
          refine jr_iadd dX6_take_69 ?_
          refine j2_callVi (As := [jl_vi (jl_add l4 (2 : Int))]) dX6_take_70 (jt_X10_byteAt G (jl_add l4 (2 : Int)) (jl_n3_to _) s13) jv_X10_byteAt ⟨rfl, rfl, rfl⟩ jw_1025 jk_1 (by decide) (by decide) rfl ⟨Nat.le_of_ble_eq_true rfl, Nat.le_of_ble_eq_true rfl⟩ rfl (Nat.le_of_ble_eq_true rfl) (fun r15 s16 hr15 => ?_)
          refine jr_bipush dX6_take_73 (by decide) ?_
          refine jr_icmp_le (t := 80) dX6_take_75 (by decide) hr15 (jl_nlit rfl) (fun c17 => ?_) (fun c17 => ?_)
          · refine jr_iinc (j := 4) (lv := [(4, jl_vi (jl_add l4 3)), (0, jl_vr G 200), (1, jl_vr G 1), (2, jl_vi l2), (3, jl_vi l3)]) dX6_take_80 rfl (Nat.le_of_ble_eq_true rfl) rfl ?_
            refine jr_goto (t := 33) dX6_take_83 (by decide) ?_
            refine jr_sub [1, 2, 3, 4, 0] rfl ?_
            exact ih l2 l3 (jl_add l4 3) hl2 hl3 (jl_n3_to _) s16
          · refine jr_sub [] rfl ?_
            exact jj_X6_take_B78 G s16
def jf_X6_take (v2 : Int) (s0 : jl_Mm) : jl_O :=
  jl_let (jl_div (jl_g s0 1 1) (3 : Int)) fun x1 => if x1 < (1 : Int) then (jf_X6_take_B28 s0) else (if (16 : Int) < x1 then (jf_X6_take_B28 s0) else (if jl_mul x1 (3 : Int) = jl_g s0 1 1 then (jf_X6_take_L33 jl_fu v2 x1 (0 : Int) s0) else (jf_X6_take_B28 s0)))
set_option maxRecDepth 20000 in
set_option maxHeartbeats 2000000 in
theorem jt_X6_take (G : jl_GC) (v2 : Int) (h2 : jl_n3 v2) (s0 : jl_Mm) : jC2 G jM_X6_take [jl_vr G 200, jl_vr G 1, jl_vi v2] s0 (jf_X6_take v2 s0) := by
  refine jl_met (plainFor_of_name rfl) (Nat.le_of_ble_eq_true rfl) ?_
  show j2 G jM_X6_take 0 [(0, jl_vr G 200), (1, jl_vr G 1), (2, jl_vi v2)] [] s0 _
  refine jr_aload_n dX6_take_0 1 rfl ?_
  refine jr_getiN (i := 1) jc_10 jk_1 (by decide) (Nat.le_of_ble_eq_true rfl) jlk_1_1 jft_10_1 jw_39 dX6_take_1 ?_
  refine jr_iconst dX6_take_4 ?_
  refine jr_idiv dX6_take_5 (jl_nlit rfl) (by decide) ?_
  refine jr_let (jl_n3_to _) (fun x1 hx1 => ?_)
  refine jr_istore_n (lv := [(3, jl_vi x1), (0, jl_vr G 200), (1, jl_vr G 1), (2, jl_vi v2)]) dX6_take_6 rfl (Nat.le_of_ble_eq_true rfl) rfl ?_
  refine jr_iload_n dX6_take_7 0 rfl ?_
  refine jr_iconst dX6_take_8 ?_
  refine jr_icmp_lt (t := 28) dX6_take_9 (by decide) hx1 (jl_nlit rfl) (fun c2 => ?_) (fun c2 => ?_)
  · refine jr_sub [] rfl ?_
    exact jj_X6_take_B28 G s0
  · refine jr_iload_n dX6_take_12 0 rfl ?_
    refine jr_bipush dX6_take_13 (by decide) ?_
    refine jr_icmp_gt (t := 28) dX6_take_15 (by decide) hx1 (jl_nlit rfl) (fun c3 => ?_) (fun c3 => ?_)
    · refine jr_sub [] rfl ?_
      exact jj_X6_take_B28 G s0
    · refine jr_iload_n dX6_take_18 0 rfl ?_
      refine jr_iconst dX6_take_19 ?_
      refine jr_imul dX6_take_20 ?_
      refine jr_aload_n dX6_take_21 2 rfl ?_
      refine jr_getiN (i := 1) jc_10 jk_1 (by decide) (Nat.le_of_ble_eq_true rfl) jlk_1_1 jft_10_1 jw_39 dX6_take_22 ?_
      refine jr_icmp_eq (t := 30) dX6_take_25 (by decide) (jl_n3_to _) (jl_n3_to _) (fun c4 => ?_) (fun c4 => ?_)
      · refine jr_iconst dX6_take_30 ?_
        refine jr_istore (lv := [(4, jl_vi (0 : Int)), (3, jl_vi x1), (0, jl_vr G 200), (1, jl_vr G 1), (2, jl_vi v2)]) dX6_take_31 (Nat.le_of_ble_eq_true rfl) rfl ?_
        refine jr_sub [2, 3, 4, 1, 0] rfl ?_
        exact jj_X6_take_L33 G jl_fu v2 x1 (0 : Int) h2 hx1 (jl_nlit rfl) s0
      · refine jr_sub [] rfl ?_
        exact jj_X6_take_B28 G s0
def jf_X11_see_B46 (k0 : Int) (s0 : jl_Mm) : jl_O :=
  some (k0, s0)
set_option maxRecDepth 20000 in
set_option maxHeartbeats 2000000 in
theorem jj_X11_see_B46 (G : jl_GC) (k0 : Int) (hk0 : jl_n3 k0) (s0 : jl_Mm) : j2 G jM_X11_see 46 [] [jl_vi k0] s0 (jf_X11_see_B46 k0 s0) := by
  exact jr_ret_i rfl hk0 dX11_see_46
def jf_X11_see (s0 : jl_Mm) : jl_O :=
  if 0 ≤ s0 0 2 ∧ (jl_kd (jl_gr s0 0 2)).1 = 8 then jl_bd (jf_X6_take (jl_g s0 (jl_gr s0 0 2) 1) s0) fun r2 s3 => jl_lm (jl_up s3 1 1 (0 : Int)) fun s4 => if r2 = (0 : Int) then (jl_bd (jf_X11_refuse (1 : Int) s4) fun r6 s7 => jf_X11_see_B46 r6 s7) else (jf_X11_see_B46 (jl_g s4 200 4) s4) else none
set_option maxRecDepth 20000 in
set_option maxHeartbeats 2000000 in
theorem jt_X11_see (G : jl_GC) (s0 : jl_Mm) : jC2 G jM_X11_see [jl_vr G 0] s0 (jf_X11_see s0) := by
  refine jl_met (plainFor_of_name rfl) (Nat.le_of_ble_eq_true rfl) ?_
  show j2 G jM_X11_see 0 [(0, jl_vr G 0)] [] s0 _
  refine jr_aload_n dX11_see_0 0 rfl ?_
  refine jr_getk (i := 11) jc_11 jk_0 (by decide) (Nat.le_of_ble_eq_true rfl) jlk_0_11 jw_435 dX11_see_1 ?_
  refine jr_aload_n dX11_see_4 0 rfl ?_
  refine jr_getk (i := 0) jc_11 jk_0 (by decide) (Nat.le_of_ble_eq_true rfl) jlk_0_0 jw_424 dX11_see_5 ?_
  refine jr_aload_n dX11_see_8 0 rfl ?_
  refine jr_grd (fun g1 => ?_)
  refine jr_getr (i := 2) jc_11 jk_0 (by decide) (Nat.le_of_ble_eq_true rfl) jlk_0_2 jft_11_2 g1.1 jw_426 dX11_see_9 ?_
  refine jr_getiN (i := 1) jc_8 (jl_kd1 g1.2) (jl_kdlt g1.2 (by decide)) (Nat.le_of_ble_eq_true rfl) (js8n_1 g1.2) jft_8_1 jw_91 dX11_see_12 ?_
  refine j2_callVz (As := [jl_vr G 1, jl_vi (jl_g s0 (jl_gr s0 0 2) 1)]) dX11_see_15 (jt_X6_take G (jl_g s0 (jl_gr s0 0 2) 1) (jl_n3_to _) s0) jv_X6_take ⟨rfl, rfl, rfl⟩ jw_1021 jk_200 (by decide) (by decide) rfl ⟨Nat.le_of_ble_eq_true rfl, Nat.le_of_ble_eq_true rfl⟩ rfl (Nat.le_of_ble_eq_true rfl) (fun r2 s3 hr2 => ?_)
  refine jr_istore_n (lv := [(1, jl_vi r2), (0, jl_vr G 0)]) dX11_see_18 rfl (Nat.le_of_ble_eq_true rfl) rfl ?_
  refine jr_aload_n dX11_see_19 1 rfl ?_
  refine jr_getk (i := 0) jc_11 jk_0 (by decide) (Nat.le_of_ble_eq_true rfl) jlk_0_0 jw_424 dX11_see_20 ?_
  refine jr_iconst dX11_see_23 ?_
  refine jr_putiN (i := 1) jc_10 jk_1 (by decide) (Nat.le_of_ble_eq_true rfl) jlk_1_1 jft_10_1 rfl jw_40 rfl dX11_see_24 ?_
  refine jr_lm (fun s4 => ?_)
  refine jr_iload_n dX11_see_27 0 rfl ?_
  refine jr_if_eq (t := 41) dX11_see_28 (by decide) (jl_nz hr2) (fun c5 => ?_) (fun c5 => ?_)
  · refine jr_aload_n dX11_see_41 1 rfl ?_
    refine jr_iconst dX11_see_42 ?_
    refine j2_callVi (As := [jl_vi (1 : Int)]) dX11_see_43 (jt_X11_refuse G (1 : Int) (jl_nlit rfl) s4) jv_X11_refuse ⟨rfl, rfl, rfl⟩ jw_483 jk_0 (by decide) (by decide) rfl ⟨Nat.le_of_ble_eq_true rfl, Nat.le_of_ble_eq_true rfl⟩ rfl (Nat.le_of_ble_eq_true rfl) (fun r6 s7 hr6 => ?_)
    refine jr_sub [] rfl ?_
    exact jj_X11_see_B46 G r6 hr6 s7
  · refine jr_aload_n dX11_see_31 1 rfl ?_
    refine jr_getk (i := 11) jc_11 jk_0 (by decide) (Nat.le_of_ble_eq_true rfl) jlk_0_11 jw_435 dX11_see_32 ?_
    refine jr_getiN (i := 4) jc_6 jk_200 (by decide) (Nat.le_of_ble_eq_true rfl) jlk_200_4 jft_6_4 jw_389 dX11_see_35 ?_
    refine jr_goto (t := 46) dX11_see_38 (by decide) ?_
    refine jr_sub [] rfl ?_
    exact jj_X11_see_B46 G (jl_g s4 200 4) (jl_n3_to _) s4
def jf_X5_litIn_B49 (R5 : Nat → Int → Int → Int → jl_Mm → jl_O) (l1 : Nat) (l2 : Int) (l3 : Int) (l4 : Int) (s0 : jl_Mm) : jl_O :=
  R5 l1 l2 l3 (jl_add l4 1) s0
set_option maxRecDepth 20000 in
set_option maxHeartbeats 2000000 in
theorem jj_X5_litIn_B49 (G : jl_GC) (R5 : Nat → Int → Int → Int → jl_Mm → jl_O) (hR5 : ∀ (l1 : Nat) (l2 : Int) (l3 : Int) (l4 : Int) (_hl1 : (jl_kd l1).1 = 7) (_hl2 : jl_n3 l2) (_hl3 : jl_n3 l3) (_hl4 : jl_n3 l4) (s0 : jl_Mm), j2 G jM_X5_litIn 5 [(0, jl_vr G 190), (1, jl_vr G l1), (2, jl_vi l2), (3, jl_vi l3), (4, jl_vi l4)] [] s0 (R5 l1 l2 l3 l4 s0)) (l1 : Nat) (l2 : Int) (l3 : Int) (l4 : Int) (hl1 : (jl_kd l1).1 = 7) (hl2 : jl_n3 l2) (hl3 : jl_n3 l3) (hl4 : jl_n3 l4) (s0 : jl_Mm) : j2 G jM_X5_litIn 49 [(0, jl_vr G 190), (1, jl_vr G l1), (2, jl_vi l2), (3, jl_vi l3), (4, jl_vi l4)] [] s0 (jf_X5_litIn_B49 R5 l1 l2 l3 l4 s0) := by
  refine jr_iinc (j := 4) (lv := [(4, jl_vi (jl_add l4 1)), (0, jl_vr G 190), (1, jl_vr G l1), (2, jl_vi l2), (3, jl_vi l3)]) dX5_litIn_49 rfl (Nat.le_of_ble_eq_true rfl) rfl ?_
  refine jr_goto (t := 5) dX5_litIn_52 (by decide) ?_
  refine jr_sub [1, 2, 3, 4, 0] rfl ?_
  exact hR5 l1 l2 l3 (jl_add l4 1) hl1 hl2 hl3 (jl_n3_to _) s0
def jf_X5_litIn_L5 : Nat → Nat → Int → Int → Int → jl_Mm → jl_O
  | 0, _, _, _, _, _ => none
  | n + 1, l1, l2, l3, l4, s0 =>
    if 0 ≤ s0 190 0 ∧ (jl_kd (jl_gr s0 190 0)).1 = 8 then if jl_g s0 (jl_gr s0 190 0) 3 ≤ l4 then (some (l3, s0)) else (if 0 ≤ l4 ∧ l4 < ((8 : Nat) : Int) then if jl_g s0 (l1 + 2) (l4).toNat ≤ (0 : Int) then (jf_X5_litIn_B49 (jf_X5_litIn_L5 n) l1 l2 l3 l4 s0) else (if 0 ≤ s0 190 0 ∧ (jl_kd (jl_gr s0 190 0)).1 = 8 then if 0 ≤ l4 ∧ l4 < ((8 : Nat) : Int) then if 0 ≤ jl_g s0 ((jl_gr s0 190 0) + 5) (l4).toNat ∧ jl_g s0 ((jl_gr s0 190 0) + 5) (l4).toNat < ((6 : Nat) : Int) then if jl_g s0 (l1 + 1) (jl_g s0 ((jl_gr s0 190 0) + 5) (l4).toNat).toNat = l2 then (jf_X5_litIn_B49 (jf_X5_litIn_L5 n) l1 l2 (jl_add l3 1) l4 s0) else (jf_X5_litIn_B49 (jf_X5_litIn_L5 n) l1 l2 l3 l4 s0) else none else none else none) else none) else none
set_option maxRecDepth 20000 in
set_option maxHeartbeats 2000000 in
theorem jj_X5_litIn_L5 (G : jl_GC) : ∀ (n : Nat) (l1 : Nat) (l2 : Int) (l3 : Int) (l4 : Int) (hl1 : (jl_kd l1).1 = 7) (hl2 : jl_n3 l2) (hl3 : jl_n3 l3) (hl4 : jl_n3 l4) (s0 : jl_Mm), j2 G jM_X5_litIn 5 [(0, jl_vr G 190), (1, jl_vr G l1), (2, jl_vi l2), (3, jl_vi l3), (4, jl_vi l4)] [] s0 (jf_X5_litIn_L5 n l1 l2 l3 l4 s0) := by
  intro n
  induction n with
  | zero =>
    intros
    exact jr_none
  | succ n ih =>
    intro l1 l2 l3 l4 hl1 hl2 hl3 hl4 s0
    refine jr_iload dX5_litIn_5 4 rfl ?_
    refine jr_aload_n dX5_litIn_7 0 rfl ?_
    refine jr_grd (fun g1 => ?_)
    refine jr_getr (i := 0) jc_5 jk_190 (by decide) (Nat.le_of_ble_eq_true rfl) jlk_190_0 jft_5_0 g1.1 jw_319 dX5_litIn_8 ?_
    refine jr_getiN (i := 3) jc_8 (jl_kd1 g1.2) (jl_kdlt g1.2 (by decide)) (Nat.le_of_ble_eq_true rfl) (js8n_3 g1.2) jft_8_3 jw_101 dX5_litIn_11 ?_
    refine jr_icmp_ge (t := 55) dX5_litIn_14 (by decide) hl4 (jl_n3_to _) (fun c2 => ?_) (fun c2 => ?_)
    · refine jr_iload_n dX5_litIn_55 3 rfl ?_
      exact jr_ret_i rfl hl3 dX5_litIn_56
    · refine jr_aload_n dX5_litIn_17 1 rfl ?_
      refine jr_getkN (i := 3) jc_7 (jl_kd1 hl1) (jl_kdlt hl1 (by decide)) (Nat.le_of_ble_eq_true rfl) (js7_3 hl1) jw_249 dX5_litIn_18 ?_
      refine jr_iload dX5_litIn_21 4 rfl ?_
      refine jr_grd (fun g3 => ?_)
      refine jr_iaload (js7k_3 hl1) (jl_kdl (js7k_3 hl1) (by decide)) hl4 g3 dX5_litIn_23 ?_
      refine jr_if_le (t := 49) dX5_litIn_24 (by decide) (jl_n3_to _) (fun c4 => ?_) (fun c4 => ?_)
      · exact jj_X5_litIn_B49 G (jf_X5_litIn_L5 n) (ih) l1 l2 l3 l4 hl1 hl2 hl3 hl4 s0
      · refine jr_aload_n dX5_litIn_27 1 rfl ?_
        refine jr_getkN (i := 2) jc_7 (jl_kd1 hl1) (jl_kdlt hl1 (by decide)) (Nat.le_of_ble_eq_true rfl) (js7_2 hl1) jw_245 dX5_litIn_28 ?_
        refine jr_aload_n dX5_litIn_31 0 rfl ?_
        refine jr_grd (fun g5 => ?_)
        refine jr_getr (i := 0) jc_5 jk_190 (by decide) (Nat.le_of_ble_eq_true rfl) jlk_190_0 jft_5_0 g5.1 jw_319 dX5_litIn_32 ?_
        refine jr_getkN (i := 11) jc_8 (jl_kd1 g5.2) (jl_kdlt g5.2 (by decide)) (Nat.le_of_ble_eq_true rfl) (js8_11 g5.2) jw_126 dX5_litIn_35 ?_
        refine jr_iload dX5_litIn_38 4 rfl ?_
        refine jr_grd (fun g6 => ?_)
        refine jr_iaload (js8k_11 g5.2) (jl_kdl (js8k_11 g5.2) (by decide)) hl4 g6 dX5_litIn_40 ?_
        refine jr_grd (fun g7 => ?_)
        refine jr_iaload (js7k_2 hl1) (jl_kdl (js7k_2 hl1) (by decide)) (jl_n3_to _) g7 dX5_litIn_41 ?_
        refine jr_iload_n dX5_litIn_42 2 rfl ?_
        refine jr_icmp_ne (t := 49) dX5_litIn_43 (by decide) (jl_n3_to _) hl2 (fun c8 => ?_) (fun c8 => ?_)
        · refine jr_iinc (j := 3) (lv := [(3, jl_vi (jl_add l3 1)), (0, jl_vr G 190), (1, jl_vr G l1), (2, jl_vi l2), (4, jl_vi l4)]) dX5_litIn_46 rfl (Nat.le_of_ble_eq_true rfl) rfl ?_
          refine jr_sub [1, 2, 3, 0, 4] rfl ?_
          exact jj_X5_litIn_B49 G (jf_X5_litIn_L5 n) (ih) l1 l2 (jl_add l3 1) l4 hl1 hl2 (jl_n3_to _) hl4 s0
        · exact jj_X5_litIn_B49 G (jf_X5_litIn_L5 n) (ih) l1 l2 l3 l4 hl1 hl2 hl3 hl4 s0
def jf_X5_litIn (q1 : Nat) (v2 : Int) (s0 : jl_Mm) : jl_O :=
  if (jl_kd q1).1 = 7 then jf_X5_litIn_L5 jl_fu q1 v2 (0 : Int) (0 : Int) s0 else none
set_option maxRecDepth 20000 in
set_option maxHeartbeats 2000000 in
theorem jt_X5_litIn (G : jl_GC) (q1 : Nat) (v2 : Int) (h2 : jl_n3 v2) (s0 : jl_Mm) : jC2 G jM_X5_litIn [jl_vr G 190, jl_vr G q1, jl_vi v2] s0 (jf_X5_litIn q1 v2 s0) := by
  refine jl_met (plainFor_of_name rfl) (Nat.le_of_ble_eq_true rfl) ?_
  show j2 G jM_X5_litIn 0 [(0, jl_vr G 190), (1, jl_vr G q1), (2, jl_vi v2)] [] s0 _
  refine jr_grd (fun gp1 => ?_)
  refine jr_iconst dX5_litIn_0 ?_
  refine jr_istore_n (lv := [(3, jl_vi (0 : Int)), (0, jl_vr G 190), (1, jl_vr G q1), (2, jl_vi v2)]) dX5_litIn_1 rfl (Nat.le_of_ble_eq_true rfl) rfl ?_
  refine jr_iconst dX5_litIn_2 ?_
  refine jr_istore (lv := [(4, jl_vi (0 : Int)), (3, jl_vi (0 : Int)), (0, jl_vr G 190), (1, jl_vr G q1), (2, jl_vi v2)]) dX5_litIn_3 (Nat.le_of_ble_eq_true rfl) rfl ?_
  refine jr_sub [2, 3, 4, 1, 0] rfl ?_
  exact jj_X5_litIn_L5 G jl_fu q1 v2 (0 : Int) (0 : Int) gp1 h2 (jl_nlit rfl) (jl_nlit rfl) s0
def jf_X6_isAllSo_B77 (R2 : Int → Int → jl_Mm → jl_O) (R25 : Int → Int → Int → jl_Mm → jl_O) (l1 : Int) (l2 : Int) (l3 : Int) (s0 : jl_Mm) : jl_O :=
  R25 l1 l2 (jl_add l3 3) s0
set_option maxRecDepth 20000 in
set_option maxHeartbeats 2000000 in
theorem jj_X6_isAllSo_B77 (G : jl_GC) (R2 : Int → Int → jl_Mm → jl_O) (R25 : Int → Int → Int → jl_Mm → jl_O) (hR2 : ∀ (l1 : Int) (l2 : Int) (_hl1 : jl_n3 l1) (_hl2 : jl_n3 l2) (s0 : jl_Mm), j2 G jM_X6_isAllSo 2 [(0, jl_vr G 200), (1, jl_vi l1), (2, jl_vi l2)] [] s0 (R2 l1 l2 s0)) (hR25 : ∀ (l1 : Int) (l2 : Int) (l3 : Int) (_hl1 : jl_n3 l1) (_hl2 : jl_n3 l2) (_hl3 : jl_n3 l3) (s0 : jl_Mm), j2 G jM_X6_isAllSo 25 [(0, jl_vr G 200), (1, jl_vi l1), (2, jl_vi l2), (3, jl_vi l3)] [] s0 (R25 l1 l2 l3 s0)) (l1 : Int) (l2 : Int) (l3 : Int) (hl1 : jl_n3 l1) (hl2 : jl_n3 l2) (hl3 : jl_n3 l3) (s0 : jl_Mm) : j2 G jM_X6_isAllSo 77 [(0, jl_vr G 200), (1, jl_vi l1), (2, jl_vi l2), (3, jl_vi l3)] [] s0 (jf_X6_isAllSo_B77 R2 R25 l1 l2 l3 s0) := by
  refine jr_iinc (j := 3) (lv := [(3, jl_vi (jl_add l3 3)), (0, jl_vr G 200), (1, jl_vi l1), (2, jl_vi l2)]) dX6_isAllSo_77 rfl (Nat.le_of_ble_eq_true rfl) rfl ?_
  refine jr_goto (t := 25) dX6_isAllSo_80 (by decide) ?_
  refine jr_sub [1, 2, 3, 0] rfl ?_
  exact hR25 l1 l2 (jl_add l3 3) hl1 hl2 (jl_n3_to _) s0
def jf_X6_isAllSo_L25 (R2 : Int → Int → jl_Mm → jl_O) : Nat → Int → Int → Int → jl_Mm → jl_O
  | 0, _, _, _, _ => none
  | n + 1, l1, l2, l3, s0 =>
    if jl_mul (jl_g s0 200 4) (3 : Int) ≤ l3 then (R2 l1 (jl_add l2 1) s0) else (if 0 ≤ l3 ∧ l3 < ((48 : Nat) : Int) then if jl_g s0 201 (l3).toNat = l2 then (if 0 ≤ jl_add l3 (1 : Int) ∧ jl_add l3 (1 : Int) < ((48 : Nat) : Int) then jl_bd (jf_X5_litIn 196 (jl_g s0 201 (jl_add l3 (1 : Int)).toNat) s0) fun r7 s8 => if 0 ≤ jl_add l3 (2 : Int) ∧ jl_add l3 (2 : Int) < ((48 : Nat) : Int) then if r7 = jl_g s8 201 (jl_add l3 (2 : Int)).toNat then (jf_X6_isAllSo_B77 (R2) (jf_X6_isAllSo_L25 R2 n) l1 l2 l3 s8) else (jl_zb (0 : Int) s8) else none else none) else (jf_X6_isAllSo_B77 (R2) (jf_X6_isAllSo_L25 R2 n) l1 l2 l3 s0) else none)
set_option maxRecDepth 20000 in
set_option maxHeartbeats 2000000 in
theorem jj_X6_isAllSo_L25 (G : jl_GC) (R2 : Int → Int → jl_Mm → jl_O) (hR2 : ∀ (l1 : Int) (l2 : Int) (_hl1 : jl_n3 l1) (_hl2 : jl_n3 l2) (s0 : jl_Mm), j2 G jM_X6_isAllSo 2 [(0, jl_vr G 200), (1, jl_vi l1), (2, jl_vi l2)] [] s0 (R2 l1 l2 s0)) : ∀ (n : Nat) (l1 : Int) (l2 : Int) (l3 : Int) (hl1 : jl_n3 l1) (hl2 : jl_n3 l2) (hl3 : jl_n3 l3) (s0 : jl_Mm), j2 G jM_X6_isAllSo 25 [(0, jl_vr G 200), (1, jl_vi l1), (2, jl_vi l2), (3, jl_vi l3)] [] s0 (jf_X6_isAllSo_L25 R2 n l1 l2 l3 s0) := by
  intro n
  induction n with
  | zero =>
    intros
    exact jr_none
  | succ n ih =>
    intro l1 l2 l3 hl1 hl2 hl3 s0
    refine jr_iload_n dX6_isAllSo_25 3 rfl ?_
    refine jr_aload_n dX6_isAllSo_26 0 rfl ?_
    refine jr_geti (i := 4) jc_6 jk_200 (by decide) (Nat.le_of_ble_eq_true rfl) jlk_200_4 jft_6_4 jw_388 dX6_isAllSo_27 ?_
    refine jr_iconst dX6_isAllSo_30 ?_
    refine jr_imul dX6_isAllSo_31 ?_
    refine jr_icmp_ge (t := 83) dX6_isAllSo_32 (by decide) hl3 (jl_n3_to _) (fun c3 => ?_) (fun c3 => ?_)
    · refine jr_iinc (j := 2) (lv := [(2, jl_vi (jl_add l2 1)), (0, jl_vr G 200), (1, jl_vi l1), (3, jl_vi l3)]) dX6_isAllSo_83 rfl (Nat.le_of_ble_eq_true rfl) rfl ?_
      refine jr_goto (t := 2) dX6_isAllSo_86 (by decide) ?_
      refine jr_sub [1, 2, 0] rfl ?_
      exact hR2 l1 (jl_add l2 1) hl1 (jl_n3_to _) s0
    · refine jr_aload_n dX6_isAllSo_35 0 rfl ?_
      refine jr_getk (i := 3) jc_6 jk_200 (by decide) (Nat.le_of_ble_eq_true rfl) jlk_200_3 jw_387 dX6_isAllSo_36 ?_
      refine jr_iload_n dX6_isAllSo_39 3 rfl ?_
      refine jr_grd (fun g4 => ?_)
      refine jr_iaload jk_201 (by decide) hl3 g4 dX6_isAllSo_40 ?_
      refine jr_iload_n dX6_isAllSo_41 2 rfl ?_
      refine jr_icmp_ne (t := 77) dX6_isAllSo_42 (by decide) (jl_n3_to _) hl2 (fun c5 => ?_) (fun c5 => ?_)
      · refine jr_aload_n dX6_isAllSo_45 0 rfl ?_
        refine jr_getk (i := 1) jc_6 jk_200 (by decide) (Nat.le_of_ble_eq_true rfl) jlk_200_1 jw_385 dX6_isAllSo_46 ?_
        refine jr_aload_n dX6_isAllSo_49 0 rfl ?_
        refine jr_getk (i := 2) jc_6 jk_200 (by decide) (Nat.le_of_ble_eq_true rfl) jlk_200_2 jw_386 dX6_isAllSo_50 ?_
        refine jr_aload_n dX6_isAllSo_53 0 rfl ?_
        refine jr_getk (i := 3) jc_6 jk_200 (by decide) (Nat.le_of_ble_eq_true rfl) jlk_200_3 jw_387 dX6_isAllSo_54 ?_
        refine jr_iload_n dX6_isAllSo_57 3 rfl ?_
        refine jr_iconst dX6_isAllSo_58 ?_
        refine jr_iadd dX6_isAllSo_59 ?_
        refine jr_grd (fun g6 => ?_)
        refine jr_iaload jk_201 (by decide) (jl_n3_to _) g6 dX6_isAllSo_60 ?_
        refine j2_callVi (As := [jl_vr G 196, jl_vi (jl_g s0 201 (jl_add l3 (1 : Int)).toNat)]) dX6_isAllSo_61 (jt_X5_litIn G 196 (jl_g s0 201 (jl_add l3 (1 : Int)).toNat) (jl_n3_to _) s0) jv_X5_litIn ⟨rfl, rfl, rfl⟩ jw_1047 jk_190 (by decide) (by decide) rfl ⟨Nat.le_of_ble_eq_true rfl, Nat.le_of_ble_eq_true rfl⟩ rfl (Nat.le_of_ble_eq_true rfl) (fun r7 s8 hr7 => ?_)
        refine jr_aload_n dX6_isAllSo_64 0 rfl ?_
        refine jr_getk (i := 3) jc_6 jk_200 (by decide) (Nat.le_of_ble_eq_true rfl) jlk_200_3 jw_387 dX6_isAllSo_65 ?_
        refine jr_iload_n dX6_isAllSo_68 3 rfl ?_
        refine jr_iconst dX6_isAllSo_69 ?_
        refine jr_iadd dX6_isAllSo_70 ?_
        refine jr_grd (fun g9 => ?_)
        refine jr_iaload jk_201 (by decide) (jl_n3_to _) g9 dX6_isAllSo_71 ?_
        refine jr_icmp_eq (t := 77) dX6_isAllSo_72 (by decide) hr7 (jl_n3_to _) (fun c10 => ?_) (fun c10 => ?_)
        · exact jj_X6_isAllSo_B77 G (R2) (jf_X6_isAllSo_L25 R2 n) (hR2) (ih) l1 l2 l3 hl1 hl2 hl3 s8
        · refine jr_iconst dX6_isAllSo_75 ?_
          exact jr_ret_z rfl dX6_isAllSo_76
      · exact jj_X6_isAllSo_B77 G (R2) (jf_X6_isAllSo_L25 R2 n) (hR2) (ih) l1 l2 l3 hl1 hl2 hl3 s0
def jf_X6_isAllSo_B23 (R2 : Int → Int → jl_Mm → jl_O) (l1 : Int) (l2 : Int) (s0 : jl_Mm) : jl_O :=
  jf_X6_isAllSo_L25 (R2) jl_fu l1 l2 (0 : Int) s0
set_option maxRecDepth 20000 in
set_option maxHeartbeats 2000000 in
theorem jj_X6_isAllSo_B23 (G : jl_GC) (R2 : Int → Int → jl_Mm → jl_O) (hR2 : ∀ (l1 : Int) (l2 : Int) (_hl1 : jl_n3 l1) (_hl2 : jl_n3 l2) (s0 : jl_Mm), j2 G jM_X6_isAllSo 2 [(0, jl_vr G 200), (1, jl_vi l1), (2, jl_vi l2)] [] s0 (R2 l1 l2 s0)) (l1 : Int) (l2 : Int) (hl1 : jl_n3 l1) (hl2 : jl_n3 l2) (s0 : jl_Mm) : j2 G jM_X6_isAllSo 23 [(0, jl_vr G 200), (1, jl_vi l1), (2, jl_vi l2)] [] s0 (jf_X6_isAllSo_B23 R2 l1 l2 s0) := by
  refine jr_iconst dX6_isAllSo_23 ?_
  refine jr_istore_n (lv := [(3, jl_vi (0 : Int)), (0, jl_vr G 200), (1, jl_vi l1), (2, jl_vi l2)]) dX6_isAllSo_24 rfl (Nat.le_of_ble_eq_true rfl) rfl ?_
  refine jr_sub [1, 2, 3, 0] rfl ?_
  exact jj_X6_isAllSo_L25 G (R2) (hR2) jl_fu l1 l2 (0 : Int) hl1 hl2 (jl_nlit rfl) s0
def jf_X6_isAllSo_L2 : Nat → Int → Int → jl_Mm → jl_O
  | 0, _, _, _ => none
  | n + 1, l1, l2, s0 =>
    if l1 < l2 then (jl_zb (1 : Int) s0) else (if l2 ≤ (0 : Int) then (jf_X6_isAllSo_B23 (jf_X6_isAllSo_L2 n) l1 l2 s0) else (jl_bd (jf_X5_pass 196 s0) fun r11 s12 => jf_X6_isAllSo_B23 (jf_X6_isAllSo_L2 n) l1 l2 s12))
set_option maxRecDepth 20000 in
set_option maxHeartbeats 2000000 in
theorem jj_X6_isAllSo_L2 (G : jl_GC) : ∀ (n : Nat) (l1 : Int) (l2 : Int) (hl1 : jl_n3 l1) (hl2 : jl_n3 l2) (s0 : jl_Mm), j2 G jM_X6_isAllSo 2 [(0, jl_vr G 200), (1, jl_vi l1), (2, jl_vi l2)] [] s0 (jf_X6_isAllSo_L2 n l1 l2 s0) := by
  intro n
  induction n with
  | zero =>
    intros
    exact jr_none
  | succ n ih =>
    intro l1 l2 hl1 hl2 s0
    refine jr_iload_n dX6_isAllSo_2 2 rfl ?_
    refine jr_iload_n dX6_isAllSo_3 1 rfl ?_
    refine jr_icmp_gt (t := 89) dX6_isAllSo_4 (by decide) hl2 hl1 (fun c1 => ?_) (fun c1 => ?_)
    · refine jr_iconst dX6_isAllSo_89 ?_
      exact jr_ret_z rfl dX6_isAllSo_90
    · refine jr_iload_n dX6_isAllSo_7 2 rfl ?_
      refine jr_if_le (t := 23) dX6_isAllSo_8 (by decide) hl2 (fun c2 => ?_) (fun c2 => ?_)
      · exact jj_X6_isAllSo_B23 G (jf_X6_isAllSo_L2 n) (ih) l1 l2 hl1 hl2 s0
      · refine jr_aload_n dX6_isAllSo_11 0 rfl ?_
        refine jr_getk (i := 1) jc_6 jk_200 (by decide) (Nat.le_of_ble_eq_true rfl) jlk_200_1 jw_385 dX6_isAllSo_12 ?_
        refine jr_aload_n dX6_isAllSo_15 0 rfl ?_
        refine jr_getk (i := 2) jc_6 jk_200 (by decide) (Nat.le_of_ble_eq_true rfl) jlk_200_2 jw_386 dX6_isAllSo_16 ?_
        refine j2_callVi (As := [jl_vr G 196]) dX6_isAllSo_19 (jt_X5_pass G 196 s0) jv_X5_pass ⟨rfl, rfl, rfl⟩ jw_1046 jk_190 (by decide) (by decide) rfl ⟨Nat.le_of_ble_eq_true rfl, Nat.le_of_ble_eq_true rfl⟩ rfl (Nat.le_of_ble_eq_true rfl) (fun r11 s12 hr11 => ?_)
        refine jr_pop dX6_isAllSo_22 rfl ?_
        exact jj_X6_isAllSo_B23 G (jf_X6_isAllSo_L2 n) (ih) l1 l2 hl1 hl2 s12
def jf_X6_isAllSo (v1 : Int) (s0 : jl_Mm) : jl_O :=
  jf_X6_isAllSo_L2 jl_fu v1 (0 : Int) s0
set_option maxRecDepth 20000 in
set_option maxHeartbeats 2000000 in
theorem jt_X6_isAllSo (G : jl_GC) (v1 : Int) (h1 : jl_n3 v1) (s0 : jl_Mm) : jC2 G jM_X6_isAllSo [jl_vr G 200, jl_vi v1] s0 (jf_X6_isAllSo v1 s0) := by
  refine jl_met (plainFor_of_name rfl) (Nat.le_of_ble_eq_true rfl) ?_
  show j2 G jM_X6_isAllSo 0 [(0, jl_vr G 200), (1, jl_vi v1)] [] s0 _
  refine jr_iconst dX6_isAllSo_0 ?_
  refine jr_istore_n (lv := [(2, jl_vi (0 : Int)), (0, jl_vr G 200), (1, jl_vi v1)]) dX6_isAllSo_1 rfl (Nat.le_of_ble_eq_true rfl) rfl ?_
  refine jr_sub [1, 2, 0] rfl ?_
  exact jj_X6_isAllSo_L2 G jl_fu v1 (0 : Int) h1 (jl_nlit rfl) s0
def jf_X6_lastSeen_L4 : Nat → Int → Int → jl_Mm → jl_O
  | 0, _, _, _ => none
  | n + 1, l1, l2, s0 =>
    if jl_g s0 200 4 ≤ l2 then (some (l1, s0)) else (if 0 ≤ jl_mul l2 (3 : Int) ∧ jl_mul l2 (3 : Int) < ((48 : Nat) : Int) then jl_bd (jf_J9_max_7cf53 l1 (jl_g s0 201 (jl_mul l2 (3 : Int)).toNat) s0) fun r3 s4 => jf_X6_lastSeen_L4 n r3 (jl_add l2 1) s4 else none)
set_option maxRecDepth 20000 in
set_option maxHeartbeats 2000000 in
theorem jj_X6_lastSeen_L4 (G : jl_GC) : ∀ (n : Nat) (l1 : Int) (l2 : Int) (hl1 : jl_n3 l1) (hl2 : jl_n3 l2) (s0 : jl_Mm), j2 G jM_X6_lastSeen 4 [(0, jl_vr G 200), (1, jl_vi l1), (2, jl_vi l2)] [] s0 (jf_X6_lastSeen_L4 n l1 l2 s0) := by
  intro n
  induction n with
  | zero =>
    intros
    exact jr_none
  | succ n ih =>
    intro l1 l2 hl1 hl2 s0
    refine jr_iload_n dX6_lastSeen_4 2 rfl ?_
    refine jr_aload_n dX6_lastSeen_5 0 rfl ?_
    refine jr_geti (i := 4) jc_6 jk_200 (by decide) (Nat.le_of_ble_eq_true rfl) jlk_200_4 jft_6_4 jw_388 dX6_lastSeen_6 ?_
    refine jr_icmp_ge (t := 31) dX6_lastSeen_9 (by decide) hl2 (jl_n3_to _) (fun c1 => ?_) (fun c1 => ?_)
    · refine jr_iload_n dX6_lastSeen_31 1 rfl ?_
      exact jr_ret_i rfl hl1 dX6_lastSeen_32
    · refine jr_iload_n dX6_lastSeen_12 1 rfl ?_
      refine jr_aload_n dX6_lastSeen_13 0 rfl ?_
      refine jr_getk (i := 3) jc_6 jk_200 (by decide) (Nat.le_of_ble_eq_true rfl) jlk_200_3 jw_387 dX6_lastSeen_14 ?_
      refine jr_iload_n dX6_lastSeen_17 2 rfl ?_
      refine jr_iconst dX6_lastSeen_18 ?_
      refine jr_imul dX6_lastSeen_19 ?_
      refine jr_grd (fun g2 => ?_)
      refine jr_iaload jk_201 (by decide) (jl_n3_to _) g2 dX6_lastSeen_20 ?_
      refine j2_callSi (As := [jl_vi l1, jl_vi (jl_g s0 201 (jl_mul l2 (3 : Int)).toNat)]) dX6_lastSeen_21 (jt_J9_max_7cf53 G l1 (jl_g s0 201 (jl_mul l2 (3 : Int)).toNat) hl1 (jl_n3_to _) s0) jv_J9_max_7cf53 ⟨rfl, rfl, rfl⟩ jw_1039 ⟨Nat.le_of_ble_eq_true rfl, Nat.le_of_ble_eq_true rfl⟩ rfl (Nat.le_of_ble_eq_true rfl) (fun r3 s4 hr3 => ?_)
      refine jr_istore_n (lv := [(1, jl_vi r3), (0, jl_vr G 200), (2, jl_vi l2)]) dX6_lastSeen_24 rfl (Nat.le_of_ble_eq_true rfl) rfl ?_
      refine jr_iinc (j := 2) (lv := [(2, jl_vi (jl_add l2 1)), (1, jl_vi r3), (0, jl_vr G 200)]) dX6_lastSeen_25 rfl (Nat.le_of_ble_eq_true rfl) rfl ?_
      refine jr_goto (t := 4) dX6_lastSeen_28 (by decide) ?_
      refine jr_sub [2, 1, 0] rfl ?_
      exact ih r3 (jl_add l2 1) hr3 (jl_n3_to _) s4
def jf_X6_lastSeen (s0 : jl_Mm) : jl_O :=
  jf_X6_lastSeen_L4 jl_fu (0 : Int) (0 : Int) s0
set_option maxRecDepth 20000 in
set_option maxHeartbeats 2000000 in
theorem jt_X6_lastSeen (G : jl_GC) (s0 : jl_Mm) : jC2 G jM_X6_lastSeen [jl_vr G 200] s0 (jf_X6_lastSeen s0) := by
  refine jl_met (plainFor_of_name rfl) (Nat.le_of_ble_eq_true rfl) ?_
  show j2 G jM_X6_lastSeen 0 [(0, jl_vr G 200)] [] s0 _
  refine jr_iconst dX6_lastSeen_0 ?_
  refine jr_istore_n (lv := [(1, jl_vi (0 : Int)), (0, jl_vr G 200)]) dX6_lastSeen_1 rfl (Nat.le_of_ble_eq_true rfl) rfl ?_
  refine jr_iconst dX6_lastSeen_2 ?_
  refine jr_istore_n (lv := [(2, jl_vi (0 : Int)), (1, jl_vi (0 : Int)), (0, jl_vr G 200)]) dX6_lastSeen_3 rfl (Nat.le_of_ble_eq_true rfl) rfl ?_
  refine jr_sub [2, 1, 0] rfl ?_
  exact jj_X6_lastSeen_L4 G jl_fu (0 : Int) (0 : Int) (jl_nlit rfl) (jl_nlit rfl) s0
def jf_X6_gather_B70 (R26 : Int → Int → Int → jl_Mm → jl_O) (l1 : Int) (l2 : Int) (l3 : Int) (s0 : jl_Mm) : jl_O :=
  R26 l1 l2 (jl_add l3 1) s0
set_option maxRecDepth 20000 in
set_option maxHeartbeats 2000000 in
theorem jj_X6_gather_B70 (G : jl_GC) (R26 : Int → Int → Int → jl_Mm → jl_O) (hR26 : ∀ (l1 : Int) (l2 : Int) (l3 : Int) (_hl1 : jl_n3 l1) (_hl2 : jl_n3 l2) (_hl3 : jl_n3 l3) (s0 : jl_Mm), j2 G jM_X6_gather 26 [(0, jl_vr G 200), (1, jl_vi l1), (2, jl_vi l2), (3, jl_vi l3)] [] s0 (R26 l1 l2 l3 s0)) (l1 : Int) (l2 : Int) (l3 : Int) (hl1 : jl_n3 l1) (hl2 : jl_n3 l2) (hl3 : jl_n3 l3) (s0 : jl_Mm) : j2 G jM_X6_gather 70 [(0, jl_vr G 200), (1, jl_vi l1), (2, jl_vi l2), (3, jl_vi l3)] [] s0 (jf_X6_gather_B70 R26 l1 l2 l3 s0) := by
  refine jr_iinc (j := 3) (lv := [(3, jl_vi (jl_add l3 1)), (0, jl_vr G 200), (1, jl_vi l1), (2, jl_vi l2)]) dX6_gather_70 rfl (Nat.le_of_ble_eq_true rfl) rfl ?_
  refine jr_goto (t := 26) dX6_gather_73 (by decide) ?_
  refine jr_sub [1, 2, 3, 0] rfl ?_
  exact hR26 l1 l2 (jl_add l3 1) hl1 hl2 (jl_n3_to _) s0
def jf_X6_gather_L26 : Nat → Int → Int → Int → jl_Mm → jl_O
  | 0, _, _, _, _ => none
  | n + 1, l1, l2, l3, s0 =>
    if (99 : Int) < l3 then (some (0, s0)) else (jl_bd (jf_X1_restart s0) fun r8 s9 => if (jl_kd (r8).toNat).1 = 7 then if 0 ≤ l1 ∧ l1 < ((8 : Nat) : Int) then jl_lm (jl_up s9 (r8.toNat + 2) (l1).toNat l3) fun s12 => jl_bd (jf_X6_isAllSo l2 s12) fun r13 s14 => if r13 = (0 : Int) then (jf_X6_gather_B70 (jf_X6_gather_L26 n) l1 l2 l3 s14) else (jl_lm (jl_up s14 200 6 (jl_add (jl_g s14 200 6) (1 : Int))) fun s16 => if 0 ≤ jl_g s14 200 6 ∧ jl_g s14 200 6 < ((99 : Nat) : Int) then jl_lm (jl_up s16 202 (jl_g s14 200 6).toNat l3) fun s18 => jf_X6_gather_B70 (jf_X6_gather_L26 n) l1 l2 l3 s18 else none) else none else none)
set_option maxRecDepth 20000 in
set_option maxHeartbeats 2000000 in
theorem jj_X6_gather_L26 (G : jl_GC) : ∀ (n : Nat) (l1 : Int) (l2 : Int) (l3 : Int) (hl1 : jl_n3 l1) (hl2 : jl_n3 l2) (hl3 : jl_n3 l3) (s0 : jl_Mm), j2 G jM_X6_gather 26 [(0, jl_vr G 200), (1, jl_vi l1), (2, jl_vi l2), (3, jl_vi l3)] [] s0 (jf_X6_gather_L26 n l1 l2 l3 s0) := by
  intro n
  induction n with
  | zero =>
    intros
    exact jr_none
  | succ n ih =>
    intro l1 l2 l3 hl1 hl2 hl3 s0
    refine jr_iload_n dX6_gather_26 3 rfl ?_
    refine jr_bipush dX6_gather_27 (by decide) ?_
    refine jr_icmp_gt (t := 76) dX6_gather_29 (by decide) hl3 (jl_nlit rfl) (fun c7 => ?_) (fun c7 => ?_)
    · exact jr_ret_v rfl dX6_gather_76
    · refine jr_aload_n dX6_gather_32 0 rfl ?_
      refine jr_getk (i := 0) jc_6 jk_200 (by decide) (Nat.le_of_ble_eq_true rfl) jlk_200_0 jw_384 dX6_gather_33 ?_
      refine j2_callVa (As := []) dX6_gather_36 (jt_X1_restart G s0) jv_X1_restart ⟨rfl, rfl, rfl⟩ jw_1041 jk_195 (by decide) (by decide) rfl ⟨Nat.le_of_ble_eq_true rfl, Nat.le_of_ble_eq_true rfl⟩ rfl (Nat.le_of_ble_eq_true rfl) (fun r8 s9 hr8 => ?_)
      refine jr_grd (fun g10 => ?_)
      refine jr_getkN (i := 3) jc_7 (jl_kd1 g10) (jl_kdlt g10 (by decide)) (Nat.le_of_ble_eq_true rfl) (js7_3 g10) jw_250 dX6_gather_39 ?_
      refine jr_iload_n dX6_gather_42 1 rfl ?_
      refine jr_iload_n dX6_gather_43 3 rfl ?_
      refine jr_grd (fun g11 => ?_)
      refine jr_iastore (js7k_3 g10) (jl_kdl (js7k_3 g10) (by decide)) hl1 g11 dX6_gather_44 ?_
      refine jr_lm (fun s12 => ?_)
      refine jr_aload_n dX6_gather_45 0 rfl ?_
      refine jr_iload_n dX6_gather_46 2 rfl ?_
      refine j2_callVz (As := [jl_vi l2]) dX6_gather_47 (jt_X6_isAllSo G l2 hl2 s12) jv_X6_isAllSo ⟨rfl, rfl, rfl⟩ jw_1042 jk_200 (by decide) (by decide) rfl ⟨Nat.le_of_ble_eq_true rfl, Nat.le_of_ble_eq_true rfl⟩ rfl (Nat.le_of_ble_eq_true rfl) (fun r13 s14 hr13 => ?_)
      refine jr_if_eq (t := 70) dX6_gather_50 (by decide) (jl_nz hr13) (fun c15 => ?_) (fun c15 => ?_)
      · exact jj_X6_gather_B70 G (jf_X6_gather_L26 n) (ih) l1 l2 l3 hl1 hl2 hl3 s14
      · refine jr_aload_n dX6_gather_53 0 rfl ?_
        refine jr_getk (i := 5) jc_6 jk_200 (by decide) (Nat.le_of_ble_eq_true rfl) jlk_200_5 jw_390 dX6_gather_54 ?_
        refine jr_aload_n dX6_gather_57 0 rfl ?_
        refine jr_dup dX6_gather_58 rfl ?_
        refine jr_geti (i := 6) jc_6 jk_200 (by decide) (Nat.le_of_ble_eq_true rfl) jlk_200_6 jft_6_6 jw_392 dX6_gather_59 ?_
        refine jr_dup_x1 dX6_gather_62 rfl rfl ?_
        refine jr_iconst dX6_gather_63 ?_
        refine jr_iadd dX6_gather_64 ?_
        refine jr_puti (i := 6) jc_6 jk_200 (by decide) (Nat.le_of_ble_eq_true rfl) jlk_200_6 jft_6_6 rfl jw_392 rfl dX6_gather_65 ?_
        refine jr_lm (fun s16 => ?_)
        refine jr_iload_n dX6_gather_68 3 rfl ?_
        refine jr_grd (fun g17 => ?_)
        refine jr_iastore jk_202 (by decide) (jl_n3_to _) g17 dX6_gather_69 ?_
        refine jr_lm (fun s18 => ?_)
        exact jj_X6_gather_B70 G (jf_X6_gather_L26 n) (ih) l1 l2 l3 hl1 hl2 hl3 s18
def jf_X6_gather (v1 : Int) (s0 : jl_Mm) : jl_O :=
  jl_bd (jf_X6_lastSeen s0) fun r1 s2 => jl_lm (jl_up s2 200 6 (0 : Int)) fun s3 => jl_bd (jf_X1_reach (30 : Int) s3) fun r4 s5 => if r1 ≤ r4 then (jf_X6_gather_L26 jl_fu v1 r1 (1 : Int) s5) else (some (0, s5))
set_option maxRecDepth 20000 in
set_option maxHeartbeats 2000000 in
theorem jt_X6_gather (G : jl_GC) (v1 : Int) (h1 : jl_n3 v1) (s0 : jl_Mm) : jC2 G jM_X6_gather [jl_vr G 200, jl_vi v1] s0 (jf_X6_gather v1 s0) := by
  refine jl_met (plainFor_of_name rfl) (Nat.le_of_ble_eq_true rfl) ?_
  show j2 G jM_X6_gather 0 [(0, jl_vr G 200), (1, jl_vi v1)] [] s0 _
  refine jr_aload_n dX6_gather_0 0 rfl ?_
  refine j2_callVi (As := []) dX6_gather_1 (jt_X6_lastSeen G s0) jv_X6_lastSeen ⟨rfl, rfl, rfl⟩ jw_1035 jk_200 (by decide) (by decide) rfl ⟨Nat.le_of_ble_eq_true rfl, Nat.le_of_ble_eq_true rfl⟩ rfl (Nat.le_of_ble_eq_true rfl) (fun r1 s2 hr1 => ?_)
  refine jr_istore_n (lv := [(2, jl_vi r1), (0, jl_vr G 200), (1, jl_vi v1)]) dX6_gather_4 rfl (Nat.le_of_ble_eq_true rfl) rfl ?_
  refine jr_aload_n dX6_gather_5 1 rfl ?_
  refine jr_iconst dX6_gather_6 ?_
  refine jr_puti (i := 6) jc_6 jk_200 (by decide) (Nat.le_of_ble_eq_true rfl) jlk_200_6 jft_6_6 rfl jw_392 rfl dX6_gather_7 ?_
  refine jr_lm (fun s3 => ?_)
  refine jr_iload_n dX6_gather_10 0 rfl ?_
  refine jr_aload_n dX6_gather_11 1 rfl ?_
  refine jr_getk (i := 0) jc_6 jk_200 (by decide) (Nat.le_of_ble_eq_true rfl) jlk_200_0 jw_384 dX6_gather_12 ?_
  refine jr_bipush dX6_gather_15 (by decide) ?_
  refine j2_callVi (As := [jl_vi (30 : Int)]) dX6_gather_17 (jt_X1_reach G (30 : Int) (jl_nlit rfl) s3) jv_X1_reach ⟨rfl, rfl, rfl⟩ jw_1040 jk_195 (by decide) (by decide) rfl ⟨Nat.le_of_ble_eq_true rfl, Nat.le_of_ble_eq_true rfl⟩ rfl (Nat.le_of_ble_eq_true rfl) (fun r4 s5 hr4 => ?_)
  refine jr_icmp_le (t := 24) dX6_gather_20 (by decide) hr1 hr4 (fun c6 => ?_) (fun c6 => ?_)
  · refine jr_iconst dX6_gather_24 ?_
    refine jr_istore_n (lv := [(3, jl_vi (1 : Int)), (2, jl_vi r1), (0, jl_vr G 200), (1, jl_vi v1)]) dX6_gather_25 rfl (Nat.le_of_ble_eq_true rfl) rfl ?_
    refine jr_sub [2, 3, 1, 0] rfl ?_
    exact jj_X6_gather_L26 G jl_fu v1 r1 (1 : Int) h1 hr1 (jl_nlit rfl) s5
  · exact jr_ret_v rfl dX6_gather_23
def jf_X11_inches_B59 (k0 : Int) (s0 : jl_Mm) : jl_O :=
  some (k0, s0)
set_option maxRecDepth 20000 in
set_option maxHeartbeats 2000000 in
theorem jj_X11_inches_B59 (G : jl_GC) (k0 : Int) (hk0 : jl_n3 k0) (s0 : jl_Mm) : j2 G jM_X11_inches 59 [] [jl_vi k0] s0 (jf_X11_inches_B59 k0 s0) := by
  exact jr_ret_i rfl hk0 dX11_inches_59
def jf_X11_inches_B58 (s0 : jl_Mm) : jl_O :=
  jf_X11_inches_B59 (-1 : Int) s0
set_option maxRecDepth 20000 in
set_option maxHeartbeats 2000000 in
theorem jj_X11_inches_B58 (G : jl_GC) (s0 : jl_Mm) : j2 G jM_X11_inches 58 [] [] s0 (jf_X11_inches_B58 s0) := by
  refine jr_iconst dX11_inches_58 ?_
  exact jj_X11_inches_B59 G (-1 : Int) (jl_nlit rfl) s0
def jf_X11_inches (v1 : Int) (v2 : Int) (s0 : jl_Mm) : jl_O :=
  jl_bd (jf_X11_isLit v1 s0) fun r1 s2 => if r1 = (0 : Int) then (some ((-1 : Int), s2)) else (jl_bd (jf_X6_gather v1 s2) fun r4 s5 => if v2 = (-1 : Int) then (some (jl_g s5 200 6, s5)) else (if v2 < (0 : Int) then (jf_X11_inches_B58 s5) else (if jl_g s5 200 6 ≤ v2 then (jf_X11_inches_B58 s5) else (if 0 ≤ v2 ∧ v2 < ((99 : Nat) : Int) then jf_X11_inches_B59 (jl_g s5 202 (v2).toNat) s5 else none))))
set_option maxRecDepth 20000 in
set_option maxHeartbeats 2000000 in
theorem jt_X11_inches (G : jl_GC) (v1 : Int) (v2 : Int) (h1 : jl_n3 v1) (h2 : jl_n3 v2) (s0 : jl_Mm) : jC2 G jM_X11_inches [jl_vr G 0, jl_vi v1, jl_vi v2] s0 (jf_X11_inches v1 v2 s0) := by
  refine jl_met (plainFor_of_name rfl) (Nat.le_of_ble_eq_true rfl) ?_
  show j2 G jM_X11_inches 0 [(0, jl_vr G 0), (1, jl_vi v1), (2, jl_vi v2)] [] s0 _
  refine jr_aload_n dX11_inches_0 0 rfl ?_
  refine jr_iload_n dX11_inches_1 1 rfl ?_
  refine j2_callVz (As := [jl_vi v1]) dX11_inches_2 (jt_X11_isLit G v1 h1 s0) jv_X11_isLit ⟨rfl, rfl, rfl⟩ jw_940 jk_0 (by decide) (by decide) rfl ⟨Nat.le_of_ble_eq_true rfl, Nat.le_of_ble_eq_true rfl⟩ rfl (Nat.le_of_ble_eq_true rfl) (fun r1 s2 hr1 => ?_)
  refine jr_if_ne (t := 10) dX11_inches_5 (by decide) (jl_nz hr1) (fun c3 => ?_) (fun c3 => ?_)
  · refine jr_iconst dX11_inches_8 ?_
    exact jr_ret_i rfl (jl_nlit rfl) dX11_inches_9
  · refine jr_aload_n dX11_inches_10 0 rfl ?_
    refine jr_getk (i := 11) jc_11 jk_0 (by decide) (Nat.le_of_ble_eq_true rfl) jlk_0_11 jw_435 dX11_inches_11 ?_
    refine jr_iload_n dX11_inches_14 1 rfl ?_
    refine j2_callVv (As := [jl_vi v1]) dX11_inches_15 (jt_X6_gather G v1 h1 s2) jv_X6_gather ⟨rfl, rfl, rfl⟩ jw_1031 jk_200 (by decide) (by decide) rfl ⟨Nat.le_of_ble_eq_true rfl, Nat.le_of_ble_eq_true rfl⟩ rfl (Nat.le_of_ble_eq_true rfl) (fun r4 s5 hr4 => ?_)
    refine jr_iload_n dX11_inches_18 2 rfl ?_
    refine jr_iconst dX11_inches_19 ?_
    refine jr_icmp_ne (t := 31) dX11_inches_20 (by decide) h2 (jl_nlit rfl) (fun c6 => ?_) (fun c6 => ?_)
    · refine jr_aload_n dX11_inches_23 0 rfl ?_
      refine jr_getk (i := 11) jc_11 jk_0 (by decide) (Nat.le_of_ble_eq_true rfl) jlk_0_11 jw_435 dX11_inches_24 ?_
      refine jr_getiN (i := 6) jc_6 jk_200 (by decide) (Nat.le_of_ble_eq_true rfl) jlk_200_6 jft_6_6 jw_393 dX11_inches_27 ?_
      exact jr_ret_i rfl (jl_n3_to _) dX11_inches_30
    · refine jr_iload_n dX11_inches_31 2 rfl ?_
      refine jr_if_lt (t := 58) dX11_inches_32 (by decide) h2 (fun c7 => ?_) (fun c7 => ?_)
      · refine jr_sub [] rfl ?_
        exact jj_X11_inches_B58 G s5
      · refine jr_iload_n dX11_inches_35 2 rfl ?_
        refine jr_aload_n dX11_inches_36 0 rfl ?_
        refine jr_getk (i := 11) jc_11 jk_0 (by decide) (Nat.le_of_ble_eq_true rfl) jlk_0_11 jw_435 dX11_inches_37 ?_
        refine jr_getiN (i := 6) jc_6 jk_200 (by decide) (Nat.le_of_ble_eq_true rfl) jlk_200_6 jft_6_6 jw_393 dX11_inches_40 ?_
        refine jr_icmp_ge (t := 58) dX11_inches_43 (by decide) h2 (jl_n3_to _) (fun c8 => ?_) (fun c8 => ?_)
        · refine jr_sub [] rfl ?_
          exact jj_X11_inches_B58 G s5
        · refine jr_aload_n dX11_inches_46 0 rfl ?_
          refine jr_getk (i := 11) jc_11 jk_0 (by decide) (Nat.le_of_ble_eq_true rfl) jlk_0_11 jw_435 dX11_inches_47 ?_
          refine jr_getkN (i := 5) jc_6 jk_200 (by decide) (Nat.le_of_ble_eq_true rfl) jlk_200_5 jw_391 dX11_inches_50 ?_
          refine jr_iload_n dX11_inches_53 2 rfl ?_
          refine jr_grd (fun g9 => ?_)
          refine jr_iaload jk_202 (by decide) h2 g9 dX11_inches_54 ?_
          refine jr_goto (t := 59) dX11_inches_55 (by decide) ?_
          refine jr_sub [] rfl ?_
          exact jj_X11_inches_B59 G (jl_g s5 202 (v2).toNat) (jl_n3_to _) s5
def jf_X6_tallyFrom (v1 : Int) (v2 : Int) (s0 : jl_Mm) : jl_O :=
  some (jl_mul (jl_add (jl_mul (jl_sub v1 (1 : Int)) (6 : Int)) v2) (9 : Int), s0)
set_option maxRecDepth 20000 in
set_option maxHeartbeats 2000000 in
theorem jt_X6_tallyFrom (G : jl_GC) (v1 : Int) (v2 : Int) (h1 : jl_n3 v1) (h2 : jl_n3 v2) (s0 : jl_Mm) : jC2 G jM_X6_tallyFrom [jl_vi v1, jl_vi v2] s0 (jf_X6_tallyFrom v1 v2 s0) := by
  refine jl_met (plainFor_of_name rfl) (Nat.le_of_ble_eq_true rfl) ?_
  show j2 G jM_X6_tallyFrom 0 [(0, jl_vi v1), (1, jl_vi v2)] [] s0 _
  refine jr_iload_n dX6_tallyFrom_0 0 rfl ?_
  refine jr_iconst dX6_tallyFrom_1 ?_
  refine jr_isub dX6_tallyFrom_2 ?_
  refine jr_bipush dX6_tallyFrom_3 (by decide) ?_
  refine jr_imul dX6_tallyFrom_5 ?_
  refine jr_iload_n dX6_tallyFrom_6 1 rfl ?_
  refine jr_iadd dX6_tallyFrom_7 ?_
  refine jr_bipush dX6_tallyFrom_8 (by decide) ?_
  refine jr_imul dX6_tallyFrom_10 ?_
  exact jr_ret_i rfl (jl_n3_to _) dX6_tallyFrom_11
def jf_X6_mostLeft_L43 : Nat → Int → Int → Int → jl_Mm → jl_O
  | 0, _, _, _, _ => none
  | n + 1, l4, l5, l6, s0 =>
    if jl_add l4 (8 : Int) < l6 then (some (l5, s0)) else (if 0 ≤ l6 ∧ l6 < ((1620 : Nat) : Int) then jl_bd (jf_J9_max_7cf53 l5 (jl_g s0 203 (l6).toNat) s0) fun r9 s10 => jf_X6_mostLeft_L43 n l4 r9 (jl_add l6 1) s10 else none)
set_option maxRecDepth 20000 in
set_option maxHeartbeats 2000000 in
theorem jj_X6_mostLeft_L43 (G : jl_GC) : ∀ (n : Nat) (l4 : Int) (l5 : Int) (l6 : Int) (hl4 : jl_n3 l4) (hl5 : jl_n3 l5) (hl6 : jl_n3 l6) (s0 : jl_Mm), j2 G jM_X6_mostLeft 43 [(0, jl_vr G 200), (4, jl_vi l4), (5, jl_vi l5), (6, jl_vi l6)] [] s0 (jf_X6_mostLeft_L43 n l4 l5 l6 s0) := by
  intro n
  induction n with
  | zero =>
    intros
    exact jr_none
  | succ n ih =>
    intro l4 l5 l6 hl4 hl5 hl6 s0
    refine jr_iload dX6_mostLeft_43 3 rfl ?_
    refine jr_iload dX6_mostLeft_45 1 rfl ?_
    refine jr_bipush dX6_mostLeft_47 (by decide) ?_
    refine jr_iadd dX6_mostLeft_49 ?_
    refine jr_icmp_gt (t := 73) dX6_mostLeft_50 (by decide) hl6 (jl_n3_to _) (fun c7 => ?_) (fun c7 => ?_)
    · refine jr_iload dX6_mostLeft_73 2 rfl ?_
      exact jr_ret_i rfl hl5 dX6_mostLeft_75
    · refine jr_iload dX6_mostLeft_53 2 rfl ?_
      refine jr_aload_n dX6_mostLeft_55 0 rfl ?_
      refine jr_getk (i := 7) jc_6 jk_200 (by decide) (Nat.le_of_ble_eq_true rfl) jlk_200_7 jw_394 dX6_mostLeft_56 ?_
      refine jr_iload dX6_mostLeft_59 3 rfl ?_
      refine jr_grd (fun g8 => ?_)
      refine jr_iaload jk_203 (by decide) hl6 g8 dX6_mostLeft_61 ?_
      refine j2_callSi (As := [jl_vi l5, jl_vi (jl_g s0 203 (l6).toNat)]) dX6_mostLeft_62 (jt_J9_max_7cf53 G l5 (jl_g s0 203 (l6).toNat) hl5 (jl_n3_to _) s0) jv_J9_max_7cf53 ⟨rfl, rfl, rfl⟩ jw_1039 ⟨Nat.le_of_ble_eq_true rfl, Nat.le_of_ble_eq_true rfl⟩ rfl (Nat.le_of_ble_eq_true rfl) (fun r9 s10 hr9 => ?_)
      refine jr_istore (lv := [(5, jl_vi r9), (0, jl_vr G 200), (4, jl_vi l4), (6, jl_vi l6)]) dX6_mostLeft_65 (Nat.le_of_ble_eq_true rfl) rfl ?_
      refine jr_iinc (j := 3) (lv := [(6, jl_vi (jl_add l6 1)), (5, jl_vi r9), (0, jl_vr G 200), (4, jl_vi l4)]) dX6_mostLeft_67 rfl (Nat.le_of_ble_eq_true rfl) rfl ?_
      refine jr_goto (t := 43) dX6_mostLeft_70 (by decide) ?_
      refine jr_sub [2, 3, 1, 0] rfl ?_
      exact ih l4 r9 (jl_add l6 1) hl4 hr9 (jl_n3_to _) s10
def jf_X6_mostLeft_L2 : Nat → Int → Int → Int → jl_Mm → jl_O
  | 0, _, _, _, _ => none
  | n + 1, l1, l2, l3, s0 =>
    if 0 ≤ s0 190 0 ∧ (jl_kd (jl_gr s0 190 0)).1 = 8 then if jl_g s0 (jl_gr s0 190 0) 2 ≤ l3 then (some (jl_g s0 200 6, s0)) else (if 0 ≤ l3 ∧ l3 < ((6 : Nat) : Int) then if jl_g s0 197 (l3).toNat = l2 then (jl_bd (jf_X6_tallyFrom l1 l3 s0) fun r5 s6 => jf_X6_mostLeft_L43 jl_fu r5 (0 : Int) r5 s6) else (jf_X6_mostLeft_L2 n l1 l2 (jl_add l3 1) s0) else none) else none
set_option maxRecDepth 20000 in
set_option maxHeartbeats 2000000 in
theorem jj_X6_mostLeft_L2 (G : jl_GC) : ∀ (n : Nat) (l1 : Int) (l2 : Int) (l3 : Int) (hl1 : jl_n3 l1) (hl2 : jl_n3 l2) (hl3 : jl_n3 l3) (s0 : jl_Mm), j2 G jM_X6_mostLeft 2 [(0, jl_vr G 200), (1, jl_vi l1), (2, jl_vi l2), (3, jl_vi l3)] [] s0 (jf_X6_mostLeft_L2 n l1 l2 l3 s0) := by
  intro n
  induction n with
  | zero =>
    intros
    exact jr_none
  | succ n ih =>
    intro l1 l2 l3 hl1 hl2 hl3 s0
    refine jr_iload_n dX6_mostLeft_2 3 rfl ?_
    refine jr_aload_n dX6_mostLeft_3 0 rfl ?_
    refine jr_getk (i := 1) jc_6 jk_200 (by decide) (Nat.le_of_ble_eq_true rfl) jlk_200_1 jw_385 dX6_mostLeft_4 ?_
    refine jr_grd (fun g1 => ?_)
    refine jr_getrN (i := 0) jc_5 jk_190 (by decide) (Nat.le_of_ble_eq_true rfl) jlk_190_0 jft_5_0 g1.1 jw_321 dX6_mostLeft_7 ?_
    refine jr_getiN (i := 2) jc_8 (jl_kd1 g1.2) (jl_kdlt g1.2 (by decide)) (Nat.le_of_ble_eq_true rfl) (js8n_2 g1.2) jft_8_2 jw_98 dX6_mostLeft_10 ?_
    refine jr_icmp_ge (t := 82) dX6_mostLeft_13 (by decide) hl3 (jl_n3_to _) (fun c2 => ?_) (fun c2 => ?_)
    · refine jr_aload_n dX6_mostLeft_82 0 rfl ?_
      refine jr_geti (i := 6) jc_6 jk_200 (by decide) (Nat.le_of_ble_eq_true rfl) jlk_200_6 jft_6_6 jw_392 dX6_mostLeft_83 ?_
      exact jr_ret_i rfl (jl_n3_to _) dX6_mostLeft_86
    · refine jr_aload_n dX6_mostLeft_16 0 rfl ?_
      refine jr_getk (i := 2) jc_6 jk_200 (by decide) (Nat.le_of_ble_eq_true rfl) jlk_200_2 jw_386 dX6_mostLeft_17 ?_
      refine jr_getkN (i := 2) jc_7 jk_196 (by decide) (Nat.le_of_ble_eq_true rfl) jlk_196_2 jw_246 dX6_mostLeft_20 ?_
      refine jr_iload_n dX6_mostLeft_23 3 rfl ?_
      refine jr_grd (fun g3 => ?_)
      refine jr_iaload jk_197 (by decide) hl3 g3 dX6_mostLeft_24 ?_
      refine jr_iload_n dX6_mostLeft_25 2 rfl ?_
      refine jr_icmp_ne (t := 76) dX6_mostLeft_26 (by decide) (jl_n3_to _) hl2 (fun c4 => ?_) (fun c4 => ?_)
      · refine jr_iload_n dX6_mostLeft_29 1 rfl ?_
        refine jr_iload_n dX6_mostLeft_30 3 rfl ?_
        refine j2_callSi (As := [jl_vi l1, jl_vi l3]) dX6_mostLeft_31 (jt_X6_tallyFrom G l1 l3 hl1 hl3 s0) jv_X6_tallyFrom ⟨rfl, rfl, rfl⟩ jw_1063 ⟨Nat.le_of_ble_eq_true rfl, Nat.le_of_ble_eq_true rfl⟩ rfl (Nat.le_of_ble_eq_true rfl) (fun r5 s6 hr5 => ?_)
        refine jr_istore (lv := [(4, jl_vi r5), (0, jl_vr G 200), (1, jl_vi l1), (2, jl_vi l2), (3, jl_vi l3)]) dX6_mostLeft_34 (Nat.le_of_ble_eq_true rfl) rfl ?_
        refine jr_iconst dX6_mostLeft_36 ?_
        refine jr_istore (lv := [(5, jl_vi (0 : Int)), (4, jl_vi r5), (0, jl_vr G 200), (1, jl_vi l1), (2, jl_vi l2), (3, jl_vi l3)]) dX6_mostLeft_37 (Nat.le_of_ble_eq_true rfl) rfl ?_
        refine jr_iload dX6_mostLeft_39 1 rfl ?_
        refine jr_istore (lv := [(6, jl_vi r5), (5, jl_vi (0 : Int)), (4, jl_vi r5), (0, jl_vr G 200), (1, jl_vi l1), (2, jl_vi l2), (3, jl_vi l3)]) dX6_mostLeft_41 (Nat.le_of_ble_eq_true rfl) rfl ?_
        refine jr_sub [3, 2, 1, 0] rfl ?_
        exact jj_X6_mostLeft_L43 G jl_fu r5 (0 : Int) r5 hr5 (jl_nlit rfl) hr5 s6
      · refine jr_iinc (j := 3) (lv := [(3, jl_vi (jl_add l3 1)), (0, jl_vr G 200), (1, jl_vi l1), (2, jl_vi l2)]) dX6_mostLeft_76 rfl (Nat.le_of_ble_eq_true rfl) rfl ?_
        refine jr_goto (t := 2) dX6_mostLeft_79 (by decide) ?_
        refine jr_sub [1, 2, 3, 0] rfl ?_
        exact ih l1 l2 (jl_add l3 1) hl1 hl2 (jl_n3_to _) s0
def jf_X6_mostLeft (v1 : Int) (v2 : Int) (s0 : jl_Mm) : jl_O :=
  jf_X6_mostLeft_L2 jl_fu v1 v2 (0 : Int) s0
set_option maxRecDepth 20000 in
set_option maxHeartbeats 2000000 in
theorem jt_X6_mostLeft (G : jl_GC) (v1 : Int) (v2 : Int) (h1 : jl_n3 v1) (h2 : jl_n3 v2) (s0 : jl_Mm) : jC2 G jM_X6_mostLeft [jl_vr G 200, jl_vi v1, jl_vi v2] s0 (jf_X6_mostLeft v1 v2 s0) := by
  refine jl_met (plainFor_of_name rfl) (Nat.le_of_ble_eq_true rfl) ?_
  show j2 G jM_X6_mostLeft 0 [(0, jl_vr G 200), (1, jl_vi v1), (2, jl_vi v2)] [] s0 _
  refine jr_iconst dX6_mostLeft_0 ?_
  refine jr_istore_n (lv := [(3, jl_vi (0 : Int)), (0, jl_vr G 200), (1, jl_vi v1), (2, jl_vi v2)]) dX6_mostLeft_1 rfl (Nat.le_of_ble_eq_true rfl) rfl ?_
  refine jr_sub [1, 2, 3, 0] rfl ?_
  exact jj_X6_mostLeft_L2 G jl_fu v1 v2 (0 : Int) h1 h2 (jl_nlit rfl) s0
def jf_X6_tallyAll_L93 (R41 : Int → Int → Int → Int → jl_Mm → jl_O) (R72 : Int → Int → Int → Int → Int → jl_Mm → jl_O) : Nat → Int → Int → Int → Int → Int → Int → jl_Mm → jl_O
  | 0, _, _, _, _, _, _, _ => none
  | n + 1, l1, l2, l3, l4, l5, l6, s0 =>
    if l3 ≤ l6 then (R72 l1 l2 l3 l4 (jl_add l5 1) s0) else (jl_bd (jf_X6_tallyFrom l5 l6 s0) fun r15 s16 => if 0 ≤ l6 ∧ l6 < ((6 : Nat) : Int) then jl_bd (jf_X5_litIn 196 (jl_g s16 197 (l6).toNat) s16) fun r18 s19 => if 0 ≤ jl_add r15 r18 ∧ jl_add r15 r18 < ((1620 : Nat) : Int) then if 0 ≤ jl_add r15 r18 ∧ jl_add r15 r18 < ((1620 : Nat) : Int) then jl_lm (jl_up s19 203 (jl_add r15 r18).toNat (jl_add (jl_g s19 203 (jl_add r15 r18).toNat) (1 : Int))) fun s22 => jf_X6_tallyAll_L93 R41 R72 n l1 l2 l3 l4 l5 (jl_add l6 1) s22 else none else none else none)
set_option maxRecDepth 20000 in
set_option maxHeartbeats 2000000 in
theorem jj_X6_tallyAll_L93 (G : jl_GC) (R41 : Int → Int → Int → Int → jl_Mm → jl_O) (R72 : Int → Int → Int → Int → Int → jl_Mm → jl_O) (hR41 : ∀ (l1 : Int) (l2 : Int) (l3 : Int) (l4 : Int) (_hl1 : jl_n3 l1) (_hl2 : jl_n3 l2) (_hl3 : jl_n3 l3) (_hl4 : jl_n3 l4) (s0 : jl_Mm), j2 G jM_X6_tallyAll 41 [(0, jl_vr G 200), (1, jl_vi l1), (2, jl_vi l2), (3, jl_vi l3), (4, jl_vi l4)] [] s0 (R41 l1 l2 l3 l4 s0)) (hR72 : ∀ (l1 : Int) (l2 : Int) (l3 : Int) (l4 : Int) (l5 : Int) (_hl1 : jl_n3 l1) (_hl2 : jl_n3 l2) (_hl3 : jl_n3 l3) (_hl4 : jl_n3 l4) (_hl5 : jl_n3 l5) (s0 : jl_Mm), j2 G jM_X6_tallyAll 72 [(0, jl_vr G 200), (1, jl_vi l1), (2, jl_vi l2), (3, jl_vi l3), (4, jl_vi l4), (5, jl_vi l5)] [] s0 (R72 l1 l2 l3 l4 l5 s0)) : ∀ (n : Nat) (l1 : Int) (l2 : Int) (l3 : Int) (l4 : Int) (l5 : Int) (l6 : Int) (hl1 : jl_n3 l1) (hl2 : jl_n3 l2) (hl3 : jl_n3 l3) (hl4 : jl_n3 l4) (hl5 : jl_n3 l5) (hl6 : jl_n3 l6) (s0 : jl_Mm), j2 G jM_X6_tallyAll 93 [(0, jl_vr G 200), (1, jl_vi l1), (2, jl_vi l2), (3, jl_vi l3), (4, jl_vi l4), (5, jl_vi l5), (6, jl_vi l6)] [] s0 (jf_X6_tallyAll_L93 R41 R72 n l1 l2 l3 l4 l5 l6 s0) := by
  intro n
  induction n with
  | zero =>
    intros
    exact jr_none
  | succ n ih =>
    intro l1 l2 l3 l4 l5 l6 hl1 hl2 hl3 hl4 hl5 hl6 s0
    refine jr_iload dX6_tallyAll_93 6 rfl ?_
    refine jr_iload_n dX6_tallyAll_95 3 rfl ?_
    refine jr_icmp_ge (t := 143) dX6_tallyAll_96 (by decide) hl6 hl3 (fun c14 => ?_) (fun c14 => ?_)
    · refine jr_iinc (j := 5) (lv := [(5, jl_vi (jl_add l5 1)), (0, jl_vr G 200), (1, jl_vi l1), (2, jl_vi l2), (3, jl_vi l3), (4, jl_vi l4), (6, jl_vi l6)]) dX6_tallyAll_143 rfl (Nat.le_of_ble_eq_true rfl) rfl ?_
      refine jr_goto (t := 72) dX6_tallyAll_146 (by decide) ?_
      refine jr_sub [1, 2, 3, 4, 5, 0] rfl ?_
      exact hR72 l1 l2 l3 l4 (jl_add l5 1) hl1 hl2 hl3 hl4 (jl_n3_to _) s0
    · refine jr_aload_n dX6_tallyAll_99 0 rfl ?_
      refine jr_getk (i := 7) jc_6 jk_200 (by decide) (Nat.le_of_ble_eq_true rfl) jlk_200_7 jw_394 dX6_tallyAll_100 ?_
      refine jr_iload dX6_tallyAll_103 5 rfl ?_
      refine jr_iload dX6_tallyAll_105 6 rfl ?_
      refine j2_callSi (As := [jl_vi l5, jl_vi l6]) dX6_tallyAll_107 (jt_X6_tallyFrom G l5 l6 hl5 hl6 s0) jv_X6_tallyFrom ⟨rfl, rfl, rfl⟩ jw_1063 ⟨Nat.le_of_ble_eq_true rfl, Nat.le_of_ble_eq_true rfl⟩ rfl (Nat.le_of_ble_eq_true rfl) (fun r15 s16 hr15 => ?_)
      refine jr_aload_n dX6_tallyAll_110 0 rfl ?_
      refine jr_getk (i := 1) jc_6 jk_200 (by decide) (Nat.le_of_ble_eq_true rfl) jlk_200_1 jw_385 dX6_tallyAll_111 ?_
      refine jr_aload_n dX6_tallyAll_114 0 rfl ?_
      refine jr_getk (i := 2) jc_6 jk_200 (by decide) (Nat.le_of_ble_eq_true rfl) jlk_200_2 jw_386 dX6_tallyAll_115 ?_
      refine jr_aload_n dX6_tallyAll_118 0 rfl ?_
      refine jr_getk (i := 2) jc_6 jk_200 (by decide) (Nat.le_of_ble_eq_true rfl) jlk_200_2 jw_386 dX6_tallyAll_119 ?_
      refine jr_getkN (i := 2) jc_7 jk_196 (by decide) (Nat.le_of_ble_eq_true rfl) jlk_196_2 jw_246 dX6_tallyAll_122 ?_
      refine jr_iload dX6_tallyAll_125 6 rfl ?_
      refine jr_grd (fun g17 => ?_)
      refine jr_iaload jk_197 (by decide) hl6 g17 dX6_tallyAll_127 ?_
      refine j2_callVi (As := [jl_vr G 196, jl_vi (jl_g s16 197 (l6).toNat)]) dX6_tallyAll_128 (jt_X5_litIn G 196 (jl_g s16 197 (l6).toNat) (jl_n3_to _) s16) jv_X5_litIn ⟨rfl, rfl, rfl⟩ jw_1047 jk_190 (by decide) (by decide) rfl ⟨Nat.le_of_ble_eq_true rfl, Nat.le_of_ble_eq_true rfl⟩ rfl (Nat.le_of_ble_eq_true rfl) (fun r18 s19 hr18 => ?_)
      refine jr_iadd dX6_tallyAll_131 ?_
      refine jr_dup2_11 dX6_tallyAll_132 rfl rfl ?_
      refine jr_grd (fun g20 => ?_)
      refine jr_iaload jk_203 (by decide) (jl_n3_to _) g20 dX6_tallyAll_133 ?_
      refine jr_iconst dX6_tallyAll_134 ?_
      refine jr_iadd dX6_tallyAll_135 ?_
      refine jr_grd (fun g21 => ?_)
      refine jr_iastore jk_203 (by decide) (jl_n3_to _) g21 dX6_tallyAll_136 ?_
      refine jr_lm (fun s22 => ?_)
      refine jr_iinc (j := 6) (lv := [(6, jl_vi (jl_add l6 1)), (0, jl_vr G 200), (1, jl_vi l1), (2, jl_vi l2), (3, jl_vi l3), (4, jl_vi l4), (5, jl_vi l5)]) dX6_tallyAll_137 rfl (Nat.le_of_ble_eq_true rfl) rfl ?_
      refine jr_goto (t := 93) dX6_tallyAll_140 (by decide) ?_
      refine jr_sub [1, 2, 3, 4, 5, 6, 0] rfl ?_
      exact ih l1 l2 l3 l4 l5 (jl_add l6 1) hl1 hl2 hl3 hl4 hl5 (jl_n3_to _) s22
def jf_X6_tallyAll_L72 (R41 : Int → Int → Int → Int → jl_Mm → jl_O) : Nat → Int → Int → Int → Int → Int → jl_Mm → jl_O
  | 0, _, _, _, _, _, _ => none
  | n + 1, l1, l2, l3, l4, l5, s0 =>
    if l2 < l5 then (R41 l1 l2 l3 (jl_add l4 1) s0) else (jl_bd (jf_X5_pass 196 s0) fun r12 s13 => jf_X6_tallyAll_L93 (R41) (jf_X6_tallyAll_L72 R41 n) jl_fu l1 l2 l3 l4 l5 (0 : Int) s13)
set_option maxRecDepth 20000 in
set_option maxHeartbeats 2000000 in
theorem jj_X6_tallyAll_L72 (G : jl_GC) (R41 : Int → Int → Int → Int → jl_Mm → jl_O) (hR41 : ∀ (l1 : Int) (l2 : Int) (l3 : Int) (l4 : Int) (_hl1 : jl_n3 l1) (_hl2 : jl_n3 l2) (_hl3 : jl_n3 l3) (_hl4 : jl_n3 l4) (s0 : jl_Mm), j2 G jM_X6_tallyAll 41 [(0, jl_vr G 200), (1, jl_vi l1), (2, jl_vi l2), (3, jl_vi l3), (4, jl_vi l4)] [] s0 (R41 l1 l2 l3 l4 s0)) : ∀ (n : Nat) (l1 : Int) (l2 : Int) (l3 : Int) (l4 : Int) (l5 : Int) (hl1 : jl_n3 l1) (hl2 : jl_n3 l2) (hl3 : jl_n3 l3) (hl4 : jl_n3 l4) (hl5 : jl_n3 l5) (s0 : jl_Mm), j2 G jM_X6_tallyAll 72 [(0, jl_vr G 200), (1, jl_vi l1), (2, jl_vi l2), (3, jl_vi l3), (4, jl_vi l4), (5, jl_vi l5)] [] s0 (jf_X6_tallyAll_L72 R41 n l1 l2 l3 l4 l5 s0) := by
  intro n
  induction n with
  | zero =>
    intros
    exact jr_none
  | succ n ih =>
    intro l1 l2 l3 l4 l5 hl1 hl2 hl3 hl4 hl5 s0
    refine jr_iload dX6_tallyAll_72 5 rfl ?_
    refine jr_iload_n dX6_tallyAll_74 2 rfl ?_
    refine jr_icmp_gt (t := 149) dX6_tallyAll_75 (by decide) hl5 hl2 (fun c11 => ?_) (fun c11 => ?_)
    · refine jr_iinc (j := 4) (lv := [(4, jl_vi (jl_add l4 1)), (0, jl_vr G 200), (1, jl_vi l1), (2, jl_vi l2), (3, jl_vi l3), (5, jl_vi l5)]) dX6_tallyAll_149 rfl (Nat.le_of_ble_eq_true rfl) rfl ?_
      refine jr_goto (t := 41) dX6_tallyAll_152 (by decide) ?_
      refine jr_sub [1, 2, 3, 4, 0] rfl ?_
      exact hR41 l1 l2 l3 (jl_add l4 1) hl1 hl2 hl3 (jl_n3_to _) s0
    · refine jr_aload_n dX6_tallyAll_78 0 rfl ?_
      refine jr_getk (i := 1) jc_6 jk_200 (by decide) (Nat.le_of_ble_eq_true rfl) jlk_200_1 jw_385 dX6_tallyAll_79 ?_
      refine jr_aload_n dX6_tallyAll_82 0 rfl ?_
      refine jr_getk (i := 2) jc_6 jk_200 (by decide) (Nat.le_of_ble_eq_true rfl) jlk_200_2 jw_386 dX6_tallyAll_83 ?_
      refine j2_callVi (As := [jl_vr G 196]) dX6_tallyAll_86 (jt_X5_pass G 196 s0) jv_X5_pass ⟨rfl, rfl, rfl⟩ jw_1046 jk_190 (by decide) (by decide) rfl ⟨Nat.le_of_ble_eq_true rfl, Nat.le_of_ble_eq_true rfl⟩ rfl (Nat.le_of_ble_eq_true rfl) (fun r12 s13 hr12 => ?_)
      refine jr_pop dX6_tallyAll_89 rfl ?_
      refine jr_iconst dX6_tallyAll_90 ?_
      refine jr_istore (lv := [(6, jl_vi (0 : Int)), (0, jl_vr G 200), (1, jl_vi l1), (2, jl_vi l2), (3, jl_vi l3), (4, jl_vi l4), (5, jl_vi l5)]) dX6_tallyAll_91 (Nat.le_of_ble_eq_true rfl) rfl ?_
      refine jr_sub [1, 2, 3, 4, 5, 6, 0] rfl ?_
      exact jj_X6_tallyAll_L93 G (R41) (jf_X6_tallyAll_L72 R41 n) (hR41) (ih) jl_fu l1 l2 l3 l4 l5 (0 : Int) hl1 hl2 hl3 hl4 hl5 (jl_nlit rfl) s13
def jf_X6_tallyAll_L41 : Nat → Int → Int → Int → Int → jl_Mm → jl_O
  | 0, _, _, _, _, _ => none
  | n + 1, l1, l2, l3, l4, s0 =>
    if jl_g s0 200 6 ≤ l4 then (some (0, s0)) else (jl_bd (jf_X1_restart s0) fun r5 s6 => if (jl_kd (r5).toNat).1 = 7 then if 0 ≤ l4 ∧ l4 < ((99 : Nat) : Int) then if 0 ≤ l1 ∧ l1 < ((8 : Nat) : Int) then jl_lm (jl_up s6 (r5.toNat + 2) (l1).toNat (jl_g s6 202 (l4).toNat)) fun s10 => jf_X6_tallyAll_L72 (jf_X6_tallyAll_L41 n) jl_fu l1 l2 l3 l4 (1 : Int) s10 else none else none else none)
set_option maxRecDepth 20000 in
set_option maxHeartbeats 2000000 in
theorem jj_X6_tallyAll_L41 (G : jl_GC) : ∀ (n : Nat) (l1 : Int) (l2 : Int) (l3 : Int) (l4 : Int) (hl1 : jl_n3 l1) (hl2 : jl_n3 l2) (hl3 : jl_n3 l3) (hl4 : jl_n3 l4) (s0 : jl_Mm), j2 G jM_X6_tallyAll 41 [(0, jl_vr G 200), (1, jl_vi l1), (2, jl_vi l2), (3, jl_vi l3), (4, jl_vi l4)] [] s0 (jf_X6_tallyAll_L41 n l1 l2 l3 l4 s0) := by
  intro n
  induction n with
  | zero =>
    intros
    exact jr_none
  | succ n ih =>
    intro l1 l2 l3 l4 hl1 hl2 hl3 hl4 s0
    refine jr_iload dX6_tallyAll_41 4 rfl ?_
    refine jr_aload_n dX6_tallyAll_43 0 rfl ?_
    refine jr_geti (i := 6) jc_6 jk_200 (by decide) (Nat.le_of_ble_eq_true rfl) jlk_200_6 jft_6_6 jw_392 dX6_tallyAll_44 ?_
    refine jr_icmp_ge (t := 155) dX6_tallyAll_47 (by decide) hl4 (jl_n3_to _) (fun c4 => ?_) (fun c4 => ?_)
    · exact jr_ret_v rfl dX6_tallyAll_155
    · refine jr_aload_n dX6_tallyAll_50 0 rfl ?_
      refine jr_getk (i := 0) jc_6 jk_200 (by decide) (Nat.le_of_ble_eq_true rfl) jlk_200_0 jw_384 dX6_tallyAll_51 ?_
      refine j2_callVa (As := []) dX6_tallyAll_54 (jt_X1_restart G s0) jv_X1_restart ⟨rfl, rfl, rfl⟩ jw_1041 jk_195 (by decide) (by decide) rfl ⟨Nat.le_of_ble_eq_true rfl, Nat.le_of_ble_eq_true rfl⟩ rfl (Nat.le_of_ble_eq_true rfl) (fun r5 s6 hr5 => ?_)
      refine jr_grd (fun g7 => ?_)
      refine jr_getkN (i := 3) jc_7 (jl_kd1 g7) (jl_kdlt g7 (by decide)) (Nat.le_of_ble_eq_true rfl) (js7_3 g7) jw_250 dX6_tallyAll_57 ?_
      refine jr_iload_n dX6_tallyAll_60 1 rfl ?_
      refine jr_aload_n dX6_tallyAll_61 0 rfl ?_
      refine jr_getk (i := 5) jc_6 jk_200 (by decide) (Nat.le_of_ble_eq_true rfl) jlk_200_5 jw_390 dX6_tallyAll_62 ?_
      refine jr_iload dX6_tallyAll_65 4 rfl ?_
      refine jr_grd (fun g8 => ?_)
      refine jr_iaload jk_202 (by decide) hl4 g8 dX6_tallyAll_67 ?_
      refine jr_grd (fun g9 => ?_)
      refine jr_iastore (js7k_3 g7) (jl_kdl (js7k_3 g7) (by decide)) hl1 g9 dX6_tallyAll_68 ?_
      refine jr_lm (fun s10 => ?_)
      refine jr_iconst dX6_tallyAll_69 ?_
      refine jr_istore (lv := [(5, jl_vi (1 : Int)), (0, jl_vr G 200), (1, jl_vi l1), (2, jl_vi l2), (3, jl_vi l3), (4, jl_vi l4)]) dX6_tallyAll_70 (Nat.le_of_ble_eq_true rfl) rfl ?_
      refine jr_sub [1, 2, 3, 4, 5, 0] rfl ?_
      exact jj_X6_tallyAll_L72 G (jf_X6_tallyAll_L41 n) (ih) jl_fu l1 l2 l3 l4 (1 : Int) hl1 hl2 hl3 hl4 (jl_nlit rfl) s10
def jf_X6_tallyAll_L14 : Nat → Int → Int → Int → Int → jl_Mm → jl_O
  | 0, _, _, _, _, _ => none
  | n + 1, l1, l2, l3, l4, s0 =>
    if ((1620 : Nat) : Int) ≤ l4 then (jf_X6_tallyAll_L41 jl_fu l1 l2 l3 (0 : Int) s0) else (if 0 ≤ l4 ∧ l4 < ((1620 : Nat) : Int) then jl_lm (jl_up s0 203 (l4).toNat (0 : Int)) fun s24 => jf_X6_tallyAll_L14 n l1 l2 l3 (jl_add l4 1) s24 else none)
set_option maxRecDepth 20000 in
set_option maxHeartbeats 2000000 in
theorem jj_X6_tallyAll_L14 (G : jl_GC) : ∀ (n : Nat) (l1 : Int) (l2 : Int) (l3 : Int) (l4 : Int) (hl1 : jl_n3 l1) (hl2 : jl_n3 l2) (hl3 : jl_n3 l3) (hl4 : jl_n3 l4) (s0 : jl_Mm), j2 G jM_X6_tallyAll 14 [(0, jl_vr G 200), (1, jl_vi l1), (2, jl_vi l2), (3, jl_vi l3), (4, jl_vi l4)] [] s0 (jf_X6_tallyAll_L14 n l1 l2 l3 l4 s0) := by
  intro n
  induction n with
  | zero =>
    intros
    exact jr_none
  | succ n ih =>
    intro l1 l2 l3 l4 hl1 hl2 hl3 hl4 s0
    refine jr_iload dX6_tallyAll_14 4 rfl ?_
    refine jr_aload_n dX6_tallyAll_16 0 rfl ?_
    refine jr_getk (i := 7) jc_6 jk_200 (by decide) (Nat.le_of_ble_eq_true rfl) jlk_200_7 jw_394 dX6_tallyAll_17 ?_
    refine jr_alen jk_203 (Or.inl ⟨rfl, rfl⟩) (by decide) dX6_tallyAll_20 ?_
    refine jr_icmp_ge (t := 38) dX6_tallyAll_21 (by decide) hl4 (jl_nlit rfl) (fun c3 => ?_) (fun c3 => ?_)
    · refine jr_iconst dX6_tallyAll_38 ?_
      refine jr_istore (lv := [(4, jl_vi (0 : Int)), (0, jl_vr G 200), (1, jl_vi l1), (2, jl_vi l2), (3, jl_vi l3)]) dX6_tallyAll_39 (Nat.le_of_ble_eq_true rfl) rfl ?_
      refine jr_sub [1, 2, 3, 4, 0] rfl ?_
      exact jj_X6_tallyAll_L41 G jl_fu l1 l2 l3 (0 : Int) hl1 hl2 hl3 (jl_nlit rfl) s0
    · refine jr_aload_n dX6_tallyAll_24 0 rfl ?_
      refine jr_getk (i := 7) jc_6 jk_200 (by decide) (Nat.le_of_ble_eq_true rfl) jlk_200_7 jw_394 dX6_tallyAll_25 ?_
      refine jr_iload dX6_tallyAll_28 4 rfl ?_
      refine jr_iconst dX6_tallyAll_30 ?_
      refine jr_grd (fun g23 => ?_)
      refine jr_iastore jk_203 (by decide) hl4 g23 dX6_tallyAll_31 ?_
      refine jr_lm (fun s24 => ?_)
      refine jr_iinc (j := 4) (lv := [(4, jl_vi (jl_add l4 1)), (0, jl_vr G 200), (1, jl_vi l1), (2, jl_vi l2), (3, jl_vi l3)]) dX6_tallyAll_32 rfl (Nat.le_of_ble_eq_true rfl) rfl ?_
      refine jr_goto (t := 14) dX6_tallyAll_35 (by decide) ?_
      refine jr_sub [1, 2, 3, 4, 0] rfl ?_
      exact ih l1 l2 l3 (jl_add l4 1) hl1 hl2 hl3 (jl_n3_to _) s24
def jf_X6_tallyAll (v1 : Int) (v2 : Int) (s0 : jl_Mm) : jl_O :=
  if 0 ≤ s0 190 0 ∧ (jl_kd (jl_gr s0 190 0)).1 = 8 then jl_let (jl_g s0 (jl_gr s0 190 0) 2) fun x2 => jf_X6_tallyAll_L14 jl_fu v1 v2 x2 (0 : Int) s0 else none
set_option maxRecDepth 20000 in
set_option maxHeartbeats 2000000 in
theorem jt_X6_tallyAll (G : jl_GC) (v1 : Int) (v2 : Int) (h1 : jl_n3 v1) (h2 : jl_n3 v2) (s0 : jl_Mm) : jC2 G jM_X6_tallyAll [jl_vr G 200, jl_vi v1, jl_vi v2] s0 (jf_X6_tallyAll v1 v2 s0) := by
  refine jl_met (plainFor_of_name rfl) (Nat.le_of_ble_eq_true rfl) ?_
  show j2 G jM_X6_tallyAll 0 [(0, jl_vr G 200), (1, jl_vi v1), (2, jl_vi v2)] [] s0 _
  refine jr_aload_n dX6_tallyAll_0 0 rfl ?_
  refine jr_getk (i := 1) jc_6 jk_200 (by decide) (Nat.le_of_ble_eq_true rfl) jlk_200_1 jw_385 dX6_tallyAll_1 ?_
  refine jr_grd (fun g1 => ?_)
  refine jr_getrN (i := 0) jc_5 jk_190 (by decide) (Nat.le_of_ble_eq_true rfl) jlk_190_0 jft_5_0 g1.1 jw_321 dX6_tallyAll_4 ?_
  refine jr_getiN (i := 2) jc_8 (jl_kd1 g1.2) (jl_kdlt g1.2 (by decide)) (Nat.le_of_ble_eq_true rfl) (js8n_2 g1.2) jft_8_2 jw_98 dX6_tallyAll_7 ?_
  refine jr_let (jl_n3_to _) (fun x2 hx2 => ?_)
  refine jr_istore_n (lv := [(3, jl_vi x2), (0, jl_vr G 200), (1, jl_vi v1), (2, jl_vi v2)]) dX6_tallyAll_10 rfl (Nat.le_of_ble_eq_true rfl) rfl ?_
  refine jr_iconst dX6_tallyAll_11 ?_
  refine jr_istore (lv := [(4, jl_vi (0 : Int)), (3, jl_vi x2), (0, jl_vr G 200), (1, jl_vi v1), (2, jl_vi v2)]) dX6_tallyAll_12 (Nat.le_of_ble_eq_true rfl) rfl ?_
  refine jr_sub [2, 3, 4, 1, 0] rfl ?_
  exact jj_X6_tallyAll_L14 G jl_fu v1 v2 x2 (0 : Int) h1 h2 hx2 (jl_nlit rfl) s0
