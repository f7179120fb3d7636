def jf_X12_qCode (v1 : Int) (s0 : jl_Mm) : jl_O :=
  if 0 ≤ jl_g s0 206 100 ∧ jl_g s0 206 100 < ((1700 : Nat) : Int) then jl_lm (jl_up s0 282 (jl_g s0 206 100).toNat v1) fun s2 => jl_lm (jl_up s2 206 100 (jl_add (jl_g s2 206 100) (1 : Int))) fun s3 => some (0, s3) else none
set_option maxRecDepth 20000 in
set_option maxHeartbeats 2000000 in
theorem jt_X12_qCode (G : jl_GC) (v1 : Int) (h1 : jl_n3 v1) (s0 : jl_Mm) : jC2 G jM_X12_qCode [jl_vr G 206, jl_vi v1] s0 (jf_X12_qCode v1 s0) := by
  refine jl_met (plainFor_of_name rfl) (Nat.le_of_ble_eq_true rfl) ?_
  show j2 G jM_X12_qCode 0 [(0, jl_vr G 206), (1, jl_vi v1)] [] s0 _
  refine jr_aload_n dX12_qCode_0 0 rfl ?_
  refine jr_getk (i := 99) jc_12 jk_206 (by decide) (Nat.le_of_ble_eq_true rfl) jlk_206_99 jw_1304 dX12_qCode_1 ?_
  refine jr_aload_n dX12_qCode_4 0 rfl ?_
  refine jr_geti (i := 100) jc_12 jk_206 (by decide) (Nat.le_of_ble_eq_true rfl) jlk_206_100 jft_12_100 jw_1305 dX12_qCode_5 ?_
  refine jr_iload_n dX12_qCode_8 1 rfl ?_
  refine jr_grd (fun g1 => ?_)
  refine jr_iastore jk_282 (by decide) (jl_n3_to _) g1 dX12_qCode_9 ?_
  refine jr_lm (fun s2 => ?_)
  refine jr_aload_n dX12_qCode_10 0 rfl ?_
  refine jr_dup dX12_qCode_11 rfl ?_
  refine jr_geti (i := 100) jc_12 jk_206 (by decide) (Nat.le_of_ble_eq_true rfl) jlk_206_100 jft_12_100 jw_1305 dX12_qCode_12 ?_
  refine jr_iconst dX12_qCode_15 ?_
  refine jr_iadd dX12_qCode_16 ?_
  refine jr_puti (i := 100) jc_12 jk_206 (by decide) (Nat.le_of_ble_eq_true rfl) jlk_206_100 jft_12_100 rfl jw_1305 rfl dX12_qCode_17 ?_
  refine jr_lm (fun s3 => ?_)
  exact jr_ret_v rfl dX12_qCode_20
def jf_X12_qDrops (s0 : jl_Mm) : jl_O :=
  jl_lm (jl_up s0 206 102 (jl_sub (jl_g s0 206 102) (1 : Int))) fun s1 => if 0 ≤ jl_g s1 206 102 ∧ jl_g s1 206 102 < ((1700 : Nat) : Int) then jl_bd (jf_X12_qCode (jl_g s1 283 (jl_g s1 206 102).toNat) s1) fun r3 s4 => some (0, s4) else none
set_option maxRecDepth 20000 in
set_option maxHeartbeats 2000000 in
theorem jt_X12_qDrops (G : jl_GC) (s0 : jl_Mm) : jC2 G jM_X12_qDrops [jl_vr G 206] s0 (jf_X12_qDrops s0) := by
  refine jl_met (plainFor_of_name rfl) (Nat.le_of_ble_eq_true rfl) ?_
  show j2 G jM_X12_qDrops 0 [(0, jl_vr G 206)] [] s0 _
  refine jr_aload_n dX12_qDrops_0 0 rfl ?_
  refine jr_dup dX12_qDrops_1 rfl ?_
  refine jr_geti (i := 102) jc_12 jk_206 (by decide) (Nat.le_of_ble_eq_true rfl) jlk_206_102 jft_12_102 jw_1307 dX12_qDrops_2 ?_
  refine jr_iconst dX12_qDrops_5 ?_
  refine jr_isub dX12_qDrops_6 ?_
  refine jr_puti (i := 102) jc_12 jk_206 (by decide) (Nat.le_of_ble_eq_true rfl) jlk_206_102 jft_12_102 rfl jw_1307 rfl dX12_qDrops_7 ?_
  refine jr_lm (fun s1 => ?_)
  refine jr_aload_n dX12_qDrops_10 0 rfl ?_
  refine jr_aload_n dX12_qDrops_11 0 rfl ?_
  refine jr_getk (i := 101) jc_12 jk_206 (by decide) (Nat.le_of_ble_eq_true rfl) jlk_206_101 jw_1306 dX12_qDrops_12 ?_
  refine jr_aload_n dX12_qDrops_15 0 rfl ?_
  refine jr_geti (i := 102) jc_12 jk_206 (by decide) (Nat.le_of_ble_eq_true rfl) jlk_206_102 jft_12_102 jw_1307 dX12_qDrops_16 ?_
  refine jr_grd (fun g2 => ?_)
  refine jr_iaload jk_283 (by decide) (jl_n3_to _) g2 dX12_qDrops_19 ?_
  refine j2_callVv (As := [jl_vi (jl_g s1 283 (jl_g s1 206 102).toNat)]) dX12_qDrops_20 (jt_X12_qCode G (jl_g s1 283 (jl_g s1 206 102).toNat) (jl_n3_to _) s1) jv_X12_qCode ⟨rfl, rfl, rfl⟩ jw_1657 jk_206 (by decide) (by decide) rfl ⟨Nat.le_of_ble_eq_true rfl, Nat.le_of_ble_eq_true rfl⟩ rfl (Nat.le_of_ble_eq_true rfl) (fun r3 s4 hr3 => ?_)
  exact jr_ret_v rfl dX12_qDrops_23
def jf_X12_qIsBracket_B17 (k0 : Int) (s0 : jl_Mm) : jl_O :=
  jl_zb k0 s0
set_option maxRecDepth 20000 in
set_option maxHeartbeats 2000000 in
theorem jj_X12_qIsBracket_B17 (G : jl_GC) (k0 : Int) (hk0 : jl_n3 k0) (s0 : jl_Mm) : j2 G jM_X12_qIsBracket 17 [] [jl_vi k0] s0 (jf_X12_qIsBracket_B17 k0 s0) := by
  exact jr_ret_z rfl dX12_qIsBracket_17
def jf_X12_qIsBracket_B16 (s0 : jl_Mm) : jl_O :=
  jf_X12_qIsBracket_B17 (0 : Int) s0
set_option maxRecDepth 20000 in
set_option maxHeartbeats 2000000 in
theorem jj_X12_qIsBracket_B16 (G : jl_GC) (s0 : jl_Mm) : j2 G jM_X12_qIsBracket 16 [] [] s0 (jf_X12_qIsBracket_B16 s0) := by
  refine jr_iconst dX12_qIsBracket_16 ?_
  exact jj_X12_qIsBracket_B17 G (0 : Int) (jl_nlit rfl) s0
def jf_X12_qIsBracket (v1 : Int) (s0 : jl_Mm) : jl_O :=
  if v1 < (20 : Int) then (jf_X12_qIsBracket_B16 s0) else (if (24 : Int) < v1 then (jf_X12_qIsBracket_B16 s0) else (jf_X12_qIsBracket_B17 (1 : Int) s0))
set_option maxRecDepth 20000 in
set_option maxHeartbeats 2000000 in
theorem jt_X12_qIsBracket (G : jl_GC) (v1 : Int) (h1 : jl_n3 v1) (s0 : jl_Mm) : jC2 G jM_X12_qIsBracket [jl_vi v1] s0 (jf_X12_qIsBracket v1 s0) := by
  refine jl_met (plainFor_of_name rfl) (Nat.le_of_ble_eq_true rfl) ?_
  show j2 G jM_X12_qIsBracket 0 [(0, jl_vi v1)] [] s0 _
  refine jr_iload_n dX12_qIsBracket_0 0 rfl ?_
  refine jr_bipush dX12_qIsBracket_1 (by decide) ?_
  refine jr_icmp_lt (t := 16) dX12_qIsBracket_3 (by decide) h1 (jl_nlit rfl) (fun c1 => ?_) (fun c1 => ?_)
  · refine jr_sub [] rfl ?_
    exact jj_X12_qIsBracket_B16 G s0
  · refine jr_iload_n dX12_qIsBracket_6 0 rfl ?_
    refine jr_bipush dX12_qIsBracket_7 (by decide) ?_
    refine jr_icmp_gt (t := 16) dX12_qIsBracket_9 (by decide) h1 (jl_nlit rfl) (fun c2 => ?_) (fun c2 => ?_)
    · refine jr_sub [] rfl ?_
      exact jj_X12_qIsBracket_B16 G s0
    · refine jr_iconst dX12_qIsBracket_12 ?_
      refine jr_goto (t := 17) dX12_qIsBracket_13 (by decide) ?_
      refine jr_sub [] rfl ?_
      exact jj_X12_qIsBracket_B17 G (1 : Int) (jl_nlit rfl) s0
def jf_X12_qBracket_B51 (k0 : Int) (s0 : jl_Mm) : jl_O :=
  some (k0, s0)
set_option maxRecDepth 20000 in
set_option maxHeartbeats 2000000 in
theorem jj_X12_qBracket_B51 (G : jl_GC) (k0 : Int) (hk0 : jl_n3 k0) (s0 : jl_Mm) : j2 G jM_X12_qBracket 51 [] [jl_vi k0] s0 (jf_X12_qBracket_B51 k0 s0) := by
  exact jr_ret_i rfl hk0 dX12_qBracket_51
def jf_X12_qBracket_B33 (l1 : Int) (s0 : jl_Mm) : jl_O :=
  if l1 < jl_g s0 206 104 then (jf_X12_qBracket_B51 (-1 : Int) s0) else (if 0 ≤ l1 ∧ l1 < ((1700 : Nat) : Int) then jf_X12_qBracket_B51 (jl_g s0 283 (l1).toNat) s0 else none)
set_option maxRecDepth 20000 in
set_option maxHeartbeats 2000000 in
theorem jj_X12_qBracket_B33 (G : jl_GC) (l1 : Int) (hl1 : jl_n3 l1) (s0 : jl_Mm) : j2 G jM_X12_qBracket 33 [(0, jl_vr G 206), (1, jl_vi l1)] [] s0 (jf_X12_qBracket_B33 l1 s0) := by
  refine jr_iload_n dX12_qBracket_33 1 rfl ?_
  refine jr_aload_n dX12_qBracket_34 0 rfl ?_
  refine jr_geti (i := 104) jc_12 jk_206 (by decide) (Nat.le_of_ble_eq_true rfl) jlk_206_104 jft_12_104 jw_1309 dX12_qBracket_35 ?_
  refine jr_icmp_lt (t := 50) dX12_qBracket_38 (by decide) hl1 (jl_n3_to _) (fun c3 => ?_) (fun c3 => ?_)
  · refine jr_iconst dX12_qBracket_50 ?_
    refine jr_sub [] rfl ?_
    exact jj_X12_qBracket_B51 G (-1 : Int) (jl_nlit rfl) s0
  · refine jr_aload_n dX12_qBracket_41 0 rfl ?_
    refine jr_getk (i := 101) jc_12 jk_206 (by decide) (Nat.le_of_ble_eq_true rfl) jlk_206_101 jw_1306 dX12_qBracket_42 ?_
    refine jr_iload_n dX12_qBracket_45 1 rfl ?_
    refine jr_grd (fun g4 => ?_)
    refine jr_iaload jk_283 (by decide) hl1 g4 dX12_qBracket_46 ?_
    refine jr_goto (t := 51) dX12_qBracket_47 (by decide) ?_
    refine jr_sub [] rfl ?_
    exact jj_X12_qBracket_B51 G (jl_g s0 283 (l1).toNat) (jl_n3_to _) s0
def jf_X12_qBracket_L7 : Nat → Int → jl_Mm → jl_O
  | 0, _, _ => none
  | n + 1, l1, s0 =>
    if l1 < jl_g s0 206 104 then (jf_X12_qBracket_B33 l1 s0) else (if 0 ≤ l1 ∧ l1 < ((1700 : Nat) : Int) then jl_bd (jf_X12_qIsBracket (jl_g s0 283 (l1).toNat) s0) fun r6 s7 => if r6 = (0 : Int) then (jf_X12_qBracket_L7 n (jl_add l1 (-1)) s7) else (jf_X12_qBracket_B33 l1 s7) else none)
set_option maxRecDepth 20000 in
set_option maxHeartbeats 2000000 in
theorem jj_X12_qBracket_L7 (G : jl_GC) : ∀ (n : Nat) (l1 : Int) (hl1 : jl_n3 l1) (s0 : jl_Mm), j2 G jM_X12_qBracket 7 [(0, jl_vr G 206), (1, jl_vi l1)] [] s0 (jf_X12_qBracket_L7 n l1 s0) := by
  intro n
  induction n with
  | zero =>
    intros
    exact jr_none
  | succ n ih =>
    intro l1 hl1 s0
    refine jr_iload_n dX12_qBracket_7 1 rfl ?_
    refine jr_aload_n dX12_qBracket_8 0 rfl ?_
    refine jr_geti (i := 104) jc_12 jk_206 (by decide) (Nat.le_of_ble_eq_true rfl) jlk_206_104 jft_12_104 jw_1309 dX12_qBracket_9 ?_
    refine jr_icmp_lt (t := 33) dX12_qBracket_12 (by decide) hl1 (jl_n3_to _) (fun c2 => ?_) (fun c2 => ?_)
    · exact jj_X12_qBracket_B33 G l1 hl1 s0
    · refine jr_aload_n dX12_qBracket_15 0 rfl ?_
      refine jr_getk (i := 101) jc_12 jk_206 (by decide) (Nat.le_of_ble_eq_true rfl) jlk_206_101 jw_1306 dX12_qBracket_16 ?_
      refine jr_iload_n dX12_qBracket_19 1 rfl ?_
      refine jr_grd (fun g5 => ?_)
      refine jr_iaload jk_283 (by decide) hl1 g5 dX12_qBracket_20 ?_
      refine j2_callSz (As := [jl_vi (jl_g s0 283 (l1).toNat)]) dX12_qBracket_21 (jt_X12_qIsBracket G (jl_g s0 283 (l1).toNat) (jl_n3_to _) s0) jv_X12_qIsBracket ⟨rfl, rfl, rfl⟩ jw_1704 ⟨Nat.le_of_ble_eq_true rfl, Nat.le_of_ble_eq_true rfl⟩ rfl (Nat.le_of_ble_eq_true rfl) (fun r6 s7 hr6 => ?_)
      refine jr_if_ne (t := 33) dX12_qBracket_24 (by decide) (jl_nz hr6) (fun c8 => ?_) (fun c8 => ?_)
      · refine jr_iinc (j := 1) (lv := [(1, jl_vi (jl_add l1 (-1))), (0, jl_vr G 206)]) dX12_qBracket_27 rfl (Nat.le_of_ble_eq_true rfl) rfl ?_
        refine jr_goto (t := 7) dX12_qBracket_30 (by decide) ?_
        refine jr_sub [1, 0] rfl ?_
        exact ih (jl_add l1 (-1)) (jl_n3_to _) s7
      · exact jj_X12_qBracket_B33 G l1 hl1 s7
def jf_X12_qBracket (s0 : jl_Mm) : jl_O :=
  jl_let (jl_sub (jl_g s0 206 102) (1 : Int)) fun x1 => jf_X12_qBracket_L7 jl_fu x1 s0
set_option maxRecDepth 20000 in
set_option maxHeartbeats 2000000 in
theorem jt_X12_qBracket (G : jl_GC) (s0 : jl_Mm) : jC2 G jM_X12_qBracket [jl_vr G 206] s0 (jf_X12_qBracket s0) := by
  refine jl_met (plainFor_of_name rfl) (Nat.le_of_ble_eq_true rfl) ?_
  show j2 G jM_X12_qBracket 0 [(0, jl_vr G 206)] [] s0 _
  refine jr_aload_n dX12_qBracket_0 0 rfl ?_
  refine jr_geti (i := 102) jc_12 jk_206 (by decide) (Nat.le_of_ble_eq_true rfl) jlk_206_102 jft_12_102 jw_1307 dX12_qBracket_1 ?_
  refine jr_iconst dX12_qBracket_4 ?_
  refine jr_isub dX12_qBracket_5 ?_
  refine jr_let (jl_n3_to _) (fun x1 hx1 => ?_)
  refine jr_istore_n (lv := [(1, jl_vi x1), (0, jl_vr G 206)]) dX12_qBracket_6 rfl (Nat.le_of_ble_eq_true rfl) rfl ?_
  refine jr_sub [1, 0] rfl ?_
  exact jj_X12_qBracket_L7 G jl_fu x1 hx1 s0
def jf_X12_qDropsToBracket_B35 (s0 : jl_Mm) : jl_O :=
  some (0, s0)
set_option maxRecDepth 20000 in
set_option maxHeartbeats 2000000 in
theorem jj_X12_qDropsToBracket_B35 (G : jl_GC) (s0 : jl_Mm) : j2 G jM_X12_qDropsToBracket 35 [] [] s0 (jf_X12_qDropsToBracket_B35 s0) := by
  exact jr_ret_v rfl dX12_qDropsToBracket_35
def jf_X12_qDropsToBracket_L0 : Nat → jl_Mm → jl_O
  | 0, _ => none
  | n + 1, s0 =>
    if jl_g s0 206 102 ≤ jl_g s0 206 104 then (jf_X12_qDropsToBracket_B35 s0) else (if 0 ≤ jl_sub (jl_g s0 206 102) (1 : Int) ∧ jl_sub (jl_g s0 206 102) (1 : Int) < ((1700 : Nat) : Int) then jl_bd (jf_X12_qIsBracket (jl_g s0 283 (jl_sub (jl_g s0 206 102) (1 : Int)).toNat) s0) fun r3 s4 => if r3 = (0 : Int) then (jl_bd (jf_X12_qDrops s4) fun r6 s7 => jf_X12_qDropsToBracket_L0 n s7) else (jf_X12_qDropsToBracket_B35 s4) else none)
set_option maxRecDepth 20000 in
set_option maxHeartbeats 2000000 in
theorem jj_X12_qDropsToBracket_L0 (G : jl_GC) : ∀ (n : Nat) (s0 : jl_Mm), j2 G jM_X12_qDropsToBracket 0 [(0, jl_vr G 206)] [] s0 (jf_X12_qDropsToBracket_L0 n s0) := by
  intro n
  induction n with
  | zero =>
    intros
    exact jr_none
  | succ n ih =>
    intro s0
    refine jr_aload_n dX12_qDropsToBracket_0 0 rfl ?_
    refine jr_geti (i := 102) jc_12 jk_206 (by decide) (Nat.le_of_ble_eq_true rfl) jlk_206_102 jft_12_102 jw_1307 dX12_qDropsToBracket_1 ?_
    refine jr_aload_n dX12_qDropsToBracket_4 0 rfl ?_
    refine jr_geti (i := 104) jc_12 jk_206 (by decide) (Nat.le_of_ble_eq_true rfl) jlk_206_104 jft_12_104 jw_1309 dX12_qDropsToBracket_5 ?_
    refine jr_icmp_le (t := 35) dX12_qDropsToBracket_8 (by decide) (jl_n3_to _) (jl_n3_to _) (fun c1 => ?_) (fun c1 => ?_)
    · refine jr_sub [] rfl ?_
      exact jj_X12_qDropsToBracket_B35 G s0
    · refine jr_aload_n dX12_qDropsToBracket_11 0 rfl ?_
      refine jr_getk (i := 101) jc_12 jk_206 (by decide) (Nat.le_of_ble_eq_true rfl) jlk_206_101 jw_1306 dX12_qDropsToBracket_12 ?_
      refine jr_aload_n dX12_qDropsToBracket_15 0 rfl ?_
      refine jr_geti (i := 102) jc_12 jk_206 (by decide) (Nat.le_of_ble_eq_true rfl) jlk_206_102 jft_12_102 jw_1307 dX12_qDropsToBracket_16 ?_
      refine jr_iconst dX12_qDropsToBracket_19 ?_
      refine jr_isub dX12_qDropsToBracket_20 ?_
      refine jr_grd (fun g2 => ?_)
      refine jr_iaload jk_283 (by decide) (jl_n3_to _) g2 dX12_qDropsToBracket_21 ?_
      refine j2_callSz (As := [jl_vi (jl_g s0 283 (jl_sub (jl_g s0 206 102) (1 : Int)).toNat)]) dX12_qDropsToBracket_22 (jt_X12_qIsBracket G (jl_g s0 283 (jl_sub (jl_g s0 206 102) (1 : Int)).toNat) (jl_n3_to _) s0) jv_X12_qIsBracket ⟨rfl, rfl, rfl⟩ jw_1704 ⟨Nat.le_of_ble_eq_true rfl, Nat.le_of_ble_eq_true rfl⟩ rfl (Nat.le_of_ble_eq_true rfl) (fun r3 s4 hr3 => ?_)
      refine jr_if_ne (t := 35) dX12_qDropsToBracket_25 (by decide) (jl_nz hr3) (fun c5 => ?_) (fun c5 => ?_)
      · refine jr_aload_n dX12_qDropsToBracket_28 0 rfl ?_
        refine j2_callVv (As := []) dX12_qDropsToBracket_29 (jt_X12_qDrops G s4) jv_X12_qDrops ⟨rfl, rfl, rfl⟩ jw_1692 jk_206 (by decide) (by decide) rfl ⟨Nat.le_of_ble_eq_true rfl, Nat.le_of_ble_eq_true rfl⟩ rfl (Nat.le_of_ble_eq_true rfl) (fun r6 s7 hr6 => ?_)
        refine jr_goto (t := 0) dX12_qDropsToBracket_32 (by decide) ?_
        exact ih s7
      · refine jr_sub [] rfl ?_
        exact jj_X12_qDropsToBracket_B35 G s4
def jf_X12_qDropsToBracket (s0 : jl_Mm) : jl_O :=
  jf_X12_qDropsToBracket_L0 jl_fu s0
set_option maxRecDepth 20000 in
set_option maxHeartbeats 2000000 in
theorem jt_X12_qDropsToBracket (G : jl_GC) (s0 : jl_Mm) : jC2 G jM_X12_qDropsToBracket [jl_vr G 206] s0 (jf_X12_qDropsToBracket s0) := by
  refine jl_met (plainFor_of_name rfl) (Nat.le_of_ble_eq_true rfl) ?_
  show j2 G jM_X12_qDropsToBracket 0 [(0, jl_vr G 206)] [] s0 _
  exact jj_X12_qDropsToBracket_L0 G jl_fu s0
def jf_X12_qEndsPart_B51 (s0 : jl_Mm) : jl_O :=
  some (0, s0)
set_option maxRecDepth 20000 in
set_option maxHeartbeats 2000000 in
theorem jj_X12_qEndsPart_B51 (G : jl_GC) (s0 : jl_Mm) : j2 G jM_X12_qEndsPart 51 [] [] s0 (jf_X12_qEndsPart_B51 s0) := by
  exact jr_ret_v rfl dX12_qEndsPart_51
def jf_X12_qEndsPart_L0 : Nat → jl_Mm → jl_O
  | 0, _ => none
  | n + 1, s0 =>
    if jl_g s0 206 5 = (0 : Int) then (if jl_g s0 206 102 ≤ jl_g s0 206 104 then (jf_X12_qEndsPart_B51 s0) else (if 0 ≤ jl_sub (jl_g s0 206 102) (1 : Int) ∧ jl_sub (jl_g s0 206 102) (1 : Int) < ((1700 : Nat) : Int) then if jl_g s0 283 (jl_sub (jl_g s0 206 102) (1 : Int)).toNat < (60 : Int) then (jf_X12_qEndsPart_B51 s0) else (jl_lm (jl_up s0 206 103 (jl_sub (jl_g s0 206 103) (1 : Int))) fun s5 => jl_bd (jf_X12_qDrops s5) fun r6 s7 => jf_X12_qEndsPart_L0 n s7) else none)) else (jf_X12_qEndsPart_B51 s0)
set_option maxRecDepth 20000 in
set_option maxHeartbeats 2000000 in
theorem jj_X12_qEndsPart_L0 (G : jl_GC) : ∀ (n : Nat) (s0 : jl_Mm), j2 G jM_X12_qEndsPart 0 [(0, jl_vr G 206)] [] s0 (jf_X12_qEndsPart_L0 n s0) := by
  intro n
  induction n with
  | zero =>
    intros
    exact jr_none
  | succ n ih =>
    intro s0
    refine jr_aload_n dX12_qEndsPart_0 0 rfl ?_
    refine jr_geti (i := 5) jc_12 jk_206 (by decide) (Nat.le_of_ble_eq_true rfl) jlk_206_5 jft_12_5 jw_1210 dX12_qEndsPart_1 ?_
    refine jr_if_ne (t := 51) dX12_qEndsPart_4 (by decide) (jl_n3_to _) (fun c1 => ?_) (fun c1 => ?_)
    · refine jr_aload_n dX12_qEndsPart_7 0 rfl ?_
      refine jr_geti (i := 102) jc_12 jk_206 (by decide) (Nat.le_of_ble_eq_true rfl) jlk_206_102 jft_12_102 jw_1307 dX12_qEndsPart_8 ?_
      refine jr_aload_n dX12_qEndsPart_11 0 rfl ?_
      refine jr_geti (i := 104) jc_12 jk_206 (by decide) (Nat.le_of_ble_eq_true rfl) jlk_206_104 jft_12_104 jw_1309 dX12_qEndsPart_12 ?_
      refine jr_icmp_le (t := 51) dX12_qEndsPart_15 (by decide) (jl_n3_to _) (jl_n3_to _) (fun c2 => ?_) (fun c2 => ?_)
      · refine jr_sub [] rfl ?_
        exact jj_X12_qEndsPart_B51 G s0
      · refine jr_aload_n dX12_qEndsPart_18 0 rfl ?_
        refine jr_getk (i := 101) jc_12 jk_206 (by decide) (Nat.le_of_ble_eq_true rfl) jlk_206_101 jw_1306 dX12_qEndsPart_19 ?_
        refine jr_aload_n dX12_qEndsPart_22 0 rfl ?_
        refine jr_geti (i := 102) jc_12 jk_206 (by decide) (Nat.le_of_ble_eq_true rfl) jlk_206_102 jft_12_102 jw_1307 dX12_qEndsPart_23 ?_
        refine jr_iconst dX12_qEndsPart_26 ?_
        refine jr_isub dX12_qEndsPart_27 ?_
        refine jr_grd (fun g3 => ?_)
        refine jr_iaload jk_283 (by decide) (jl_n3_to _) g3 dX12_qEndsPart_28 ?_
        refine jr_bipush dX12_qEndsPart_29 (by decide) ?_
        refine jr_icmp_lt (t := 51) dX12_qEndsPart_31 (by decide) (jl_n3_to _) (jl_nlit rfl) (fun c4 => ?_) (fun c4 => ?_)
        · refine jr_sub [] rfl ?_
          exact jj_X12_qEndsPart_B51 G s0
        · refine jr_aload_n dX12_qEndsPart_34 0 rfl ?_
          refine jr_dup dX12_qEndsPart_35 rfl ?_
          refine jr_geti (i := 103) jc_12 jk_206 (by decide) (Nat.le_of_ble_eq_true rfl) jlk_206_103 jft_12_103 jw_1308 dX12_qEndsPart_36 ?_
          refine jr_iconst dX12_qEndsPart_39 ?_
          refine jr_isub dX12_qEndsPart_40 ?_
          refine jr_puti (i := 103) jc_12 jk_206 (by decide) (Nat.le_of_ble_eq_true rfl) jlk_206_103 jft_12_103 rfl jw_1308 rfl dX12_qEndsPart_41 ?_
          refine jr_lm (fun s5 => ?_)
          refine jr_aload_n dX12_qEndsPart_44 0 rfl ?_
          refine j2_callVv (As := []) dX12_qEndsPart_45 (jt_X12_qDrops G s5) jv_X12_qDrops ⟨rfl, rfl, rfl⟩ jw_1692 jk_206 (by decide) (by decide) rfl ⟨Nat.le_of_ble_eq_true rfl, Nat.le_of_ble_eq_true rfl⟩ rfl (Nat.le_of_ble_eq_true rfl) (fun r6 s7 hr6 => ?_)
          refine jr_goto (t := 0) dX12_qEndsPart_48 (by decide) ?_
          exact ih s7
    · refine jr_sub [] rfl ?_
      exact jj_X12_qEndsPart_B51 G s0
def jf_X12_qEndsPart (s0 : jl_Mm) : jl_O :=
  jf_X12_qEndsPart_L0 jl_fu s0
set_option maxRecDepth 20000 in
set_option maxHeartbeats 2000000 in
theorem jt_X12_qEndsPart (G : jl_GC) (s0 : jl_Mm) : jC2 G jM_X12_qEndsPart [jl_vr G 206] s0 (jf_X12_qEndsPart s0) := by
  refine jl_met (plainFor_of_name rfl) (Nat.le_of_ble_eq_true rfl) ?_
  show j2 G jM_X12_qEndsPart 0 [(0, jl_vr G 206)] [] s0 _
  exact jj_X12_qEndsPart_L0 G jl_fu s0
def jf_X12_qIsOn_B27 (k0 : Int) (s0 : jl_Mm) : jl_O :=
  jl_zb k0 s0
set_option maxRecDepth 20000 in
set_option maxHeartbeats 2000000 in
theorem jj_X12_qIsOn_B27 (G : jl_GC) (k0 : Int) (hk0 : jl_n3 k0) (s0 : jl_Mm) : j2 G jM_X12_qIsOn 27 [] [jl_vi k0] s0 (jf_X12_qIsOn_B27 k0 s0) := by
  exact jr_ret_z rfl dX12_qIsOn_27
def jf_X12_qIsOn_B26 (s0 : jl_Mm) : jl_O :=
  jf_X12_qIsOn_B27 (0 : Int) s0
set_option maxRecDepth 20000 in
set_option maxHeartbeats 2000000 in
theorem jj_X12_qIsOn_B26 (G : jl_GC) (s0 : jl_Mm) : j2 G jM_X12_qIsOn 26 [] [] s0 (jf_X12_qIsOn_B26 s0) := by
  refine jr_iconst dX12_qIsOn_26 ?_
  exact jj_X12_qIsOn_B27 G (0 : Int) (jl_nlit rfl) s0
def jf_X12_qIsOn (v1 : Int) (s0 : jl_Mm) : jl_O :=
  if jl_g s0 206 102 ≤ (0 : Int) then (jf_X12_qIsOn_B26 s0) else (if 0 ≤ jl_sub (jl_g s0 206 102) (1 : Int) ∧ jl_sub (jl_g s0 206 102) (1 : Int) < ((1700 : Nat) : Int) then if jl_g s0 283 (jl_sub (jl_g s0 206 102) (1 : Int)).toNat = v1 then (jf_X12_qIsOn_B27 (1 : Int) s0) else (jf_X12_qIsOn_B26 s0) else none)
set_option maxRecDepth 20000 in
set_option maxHeartbeats 2000000 in
theorem jt_X12_qIsOn (G : jl_GC) (v1 : Int) (h1 : jl_n3 v1) (s0 : jl_Mm) : jC2 G jM_X12_qIsOn [jl_vr G 206, jl_vi v1] s0 (jf_X12_qIsOn v1 s0) := by
  refine jl_met (plainFor_of_name rfl) (Nat.le_of_ble_eq_true rfl) ?_
  show j2 G jM_X12_qIsOn 0 [(0, jl_vr G 206), (1, jl_vi v1)] [] s0 _
  refine jr_aload_n dX12_qIsOn_0 0 rfl ?_
  refine jr_geti (i := 102) jc_12 jk_206 (by decide) (Nat.le_of_ble_eq_true rfl) jlk_206_102 jft_12_102 jw_1307 dX12_qIsOn_1 ?_
  refine jr_if_le (t := 26) dX12_qIsOn_4 (by decide) (jl_n3_to _) (fun c1 => ?_) (fun c1 => ?_)
  · refine jr_sub [] rfl ?_
    exact jj_X12_qIsOn_B26 G s0
  · refine jr_aload_n dX12_qIsOn_7 0 rfl ?_
    refine jr_getk (i := 101) jc_12 jk_206 (by decide) (Nat.le_of_ble_eq_true rfl) jlk_206_101 jw_1306 dX12_qIsOn_8 ?_
    refine jr_aload_n dX12_qIsOn_11 0 rfl ?_
    refine jr_geti (i := 102) jc_12 jk_206 (by decide) (Nat.le_of_ble_eq_true rfl) jlk_206_102 jft_12_102 jw_1307 dX12_qIsOn_12 ?_
    refine jr_iconst dX12_qIsOn_15 ?_
    refine jr_isub dX12_qIsOn_16 ?_
    refine jr_grd (fun g2 => ?_)
    refine jr_iaload jk_283 (by decide) (jl_n3_to _) g2 dX12_qIsOn_17 ?_
    refine jr_iload_n dX12_qIsOn_18 1 rfl ?_
    refine jr_icmp_ne (t := 26) dX12_qIsOn_19 (by decide) (jl_n3_to _) h1 (fun c3 => ?_) (fun c3 => ?_)
    · refine jr_iconst dX12_qIsOn_22 ?_
      refine jr_goto (t := 27) dX12_qIsOn_23 (by decide) ?_
      refine jr_sub [] rfl ?_
      exact jj_X12_qIsOn_B27 G (1 : Int) (jl_nlit rfl) s0
    · refine jr_sub [] rfl ?_
      exact jj_X12_qIsOn_B26 G s0
def jf_X12_qGoesOn_B178 (R162 : Int → jl_Mm → jl_O) (l1 : Int) (s0 : jl_Mm) : jl_O :=
  jl_bd (jf_X12_qDrops s0) fun r10 s11 => R162 l1 s11
set_option maxRecDepth 20000 in
set_option maxHeartbeats 2000000 in
theorem jj_X12_qGoesOn_B178 (G : jl_GC) (R162 : Int → jl_Mm → jl_O) (hR162 : ∀ (l1 : Int) (_hl1 : jl_n3 l1) (s0 : jl_Mm), j2 G jM_X12_qGoesOn 162 [(0, jl_vr G 206), (1, jl_vi l1)] [] s0 (R162 l1 s0)) (l1 : Int) (hl1 : jl_n3 l1) (s0 : jl_Mm) : j2 G jM_X12_qGoesOn 178 [(0, jl_vr G 206), (1, jl_vi l1)] [] s0 (jf_X12_qGoesOn_B178 R162 l1 s0) := by
  refine jr_aload_n dX12_qGoesOn_178 0 rfl ?_
  refine j2_callVv (As := []) dX12_qGoesOn_179 (jt_X12_qDrops G s0) jv_X12_qDrops ⟨rfl, rfl, rfl⟩ jw_1692 jk_206 (by decide) (by decide) rfl ⟨Nat.le_of_ble_eq_true rfl, Nat.le_of_ble_eq_true rfl⟩ rfl (Nat.le_of_ble_eq_true rfl) (fun r10 s11 hr10 => ?_)
  refine jr_goto (t := 162) dX12_qGoesOn_182 (by decide) ?_
  exact hR162 l1 hl1 s11
def jf_X12_qGoesOn_L162 : Nat → Int → jl_Mm → jl_O
  | 0, _, _ => none
  | n + 1, l1, s0 =>
    jl_bd (jf_X12_qIsOn (3 : Int) s0) fun r7 s8 => if r7 = (0 : Int) then (jl_bd (jf_X12_qIsOn (4 : Int) s8) fun r12 s13 => if r12 = (0 : Int) then (if 0 ≤ jl_g s13 206 102 ∧ jl_g s13 206 102 < ((1700 : Nat) : Int) then jl_lm (jl_up s13 283 (jl_g s13 206 102).toNat l1) fun s16 => jl_lm (jl_up s16 206 102 (jl_add (jl_g s16 206 102) (1 : Int))) fun s17 => jl_zb (1 : Int) s17 else none) else (jf_X12_qGoesOn_B178 (jf_X12_qGoesOn_L162 n) l1 s13)) else (jf_X12_qGoesOn_B178 (jf_X12_qGoesOn_L162 n) l1 s8)
set_option maxRecDepth 20000 in
set_option maxHeartbeats 2000000 in
theorem jj_X12_qGoesOn_L162 (G : jl_GC) : ∀ (n : Nat) (l1 : Int) (hl1 : jl_n3 l1) (s0 : jl_Mm), j2 G jM_X12_qGoesOn 162 [(0, jl_vr G 206), (1, jl_vi l1)] [] s0 (jf_X12_qGoesOn_L162 n l1 s0) := by
  intro n
  induction n with
  | zero =>
    intros
    exact jr_none
  | succ n ih =>
    intro l1 hl1 s0
    refine jr_aload_n dX12_qGoesOn_162 0 rfl ?_
    refine jr_iconst dX12_qGoesOn_163 ?_
    refine j2_callVz (As := [jl_vi (3 : Int)]) dX12_qGoesOn_164 (jt_X12_qIsOn G (3 : Int) (jl_nlit rfl) s0) jv_X12_qIsOn ⟨rfl, rfl, rfl⟩ jw_1711 jk_206 (by decide) (by decide) rfl ⟨Nat.le_of_ble_eq_true rfl, Nat.le_of_ble_eq_true rfl⟩ rfl (Nat.le_of_ble_eq_true rfl) (fun r7 s8 hr7 => ?_)
    refine jr_if_ne (t := 178) dX12_qGoesOn_167 (by decide) (jl_nz hr7) (fun c9 => ?_) (fun c9 => ?_)
    · refine jr_aload_n dX12_qGoesOn_170 0 rfl ?_
      refine jr_iconst dX12_qGoesOn_171 ?_
      refine j2_callVz (As := [jl_vi (4 : Int)]) dX12_qGoesOn_172 (jt_X12_qIsOn G (4 : Int) (jl_nlit rfl) s8) jv_X12_qIsOn ⟨rfl, rfl, rfl⟩ jw_1711 jk_206 (by decide) (by decide) rfl ⟨Nat.le_of_ble_eq_true rfl, Nat.le_of_ble_eq_true rfl⟩ rfl (Nat.le_of_ble_eq_true rfl) (fun r12 s13 hr12 => ?_)
      refine jr_if_eq (t := 185) dX12_qGoesOn_175 (by decide) (jl_nz hr12) (fun c14 => ?_) (fun c14 => ?_)
      · refine jr_aload_n dX12_qGoesOn_185 0 rfl ?_
        refine jr_getk (i := 101) jc_12 jk_206 (by decide) (Nat.le_of_ble_eq_true rfl) jlk_206_101 jw_1306 dX12_qGoesOn_186 ?_
        refine jr_aload_n dX12_qGoesOn_189 0 rfl ?_
        refine jr_geti (i := 102) jc_12 jk_206 (by decide) (Nat.le_of_ble_eq_true rfl) jlk_206_102 jft_12_102 jw_1307 dX12_qGoesOn_190 ?_
        refine jr_iload_n dX12_qGoesOn_193 1 rfl ?_
        refine jr_grd (fun g15 => ?_)
        refine jr_iastore jk_283 (by decide) (jl_n3_to _) g15 dX12_qGoesOn_194 ?_
        refine jr_lm (fun s16 => ?_)
        refine jr_aload_n dX12_qGoesOn_195 0 rfl ?_
        refine jr_dup dX12_qGoesOn_196 rfl ?_
        refine jr_geti (i := 102) jc_12 jk_206 (by decide) (Nat.le_of_ble_eq_true rfl) jlk_206_102 jft_12_102 jw_1307 dX12_qGoesOn_197 ?_
        refine jr_iconst dX12_qGoesOn_200 ?_
        refine jr_iadd dX12_qGoesOn_201 ?_
        refine jr_puti (i := 102) jc_12 jk_206 (by decide) (Nat.le_of_ble_eq_true rfl) jlk_206_102 jft_12_102 rfl jw_1307 rfl dX12_qGoesOn_202 ?_
        refine jr_lm (fun s17 => ?_)
        refine jr_iconst dX12_qGoesOn_205 ?_
        exact jr_ret_z rfl dX12_qGoesOn_206
      · exact jj_X12_qGoesOn_B178 G (jf_X12_qGoesOn_L162 n) (ih) l1 hl1 s13
    · exact jj_X12_qGoesOn_B178 G (jf_X12_qGoesOn_L162 n) (ih) l1 hl1 s8
def jf_X12_qGoesOn_B161 (k0 : Int) (s0 : jl_Mm) : jl_O :=
  jf_X12_qGoesOn_L162 jl_fu k0 s0
set_option maxRecDepth 20000 in
set_option maxHeartbeats 2000000 in
theorem jj_X12_qGoesOn_B161 (G : jl_GC) (k0 : Int) (hk0 : jl_n3 k0) (s0 : jl_Mm) : j2 G jM_X12_qGoesOn 161 [(0, jl_vr G 206)] [jl_vi k0] s0 (jf_X12_qGoesOn_B161 k0 s0) := by
  refine jr_istore_n (lv := [(1, jl_vi k0), (0, jl_vr G 206)]) dX12_qGoesOn_161 rfl (Nat.le_of_ble_eq_true rfl) rfl ?_
  refine jr_sub [1, 0] rfl ?_
  exact jj_X12_qGoesOn_L162 G jl_fu k0 hk0 s0
def jf_X12_qGoesOn_B140 (s0 : jl_Mm) : jl_O :=
  if 0 ≤ jl_sub (jl_g s0 206 2) (1 : Int) ∧ jl_sub (jl_g s0 206 2) (1 : Int) < ((1600 : Nat) : Int) then if jl_g s0 207 (jl_sub (jl_g s0 206 2) (1 : Int)).toNat = (42 : Int) then (jf_X12_qGoesOn_B161 (3 : Int) s0) else (jf_X12_qGoesOn_B161 (4 : Int) s0) else none
set_option maxRecDepth 20000 in
set_option maxHeartbeats 2000000 in
theorem jj_X12_qGoesOn_B140 (G : jl_GC) (s0 : jl_Mm) : j2 G jM_X12_qGoesOn 140 [(0, jl_vr G 206)] [] s0 (jf_X12_qGoesOn_B140 s0) := by
  refine jr_aload_n dX12_qGoesOn_140 0 rfl ?_
  refine jr_getk (i := 0) jc_12 jk_206 (by decide) (Nat.le_of_ble_eq_true rfl) jlk_206_0 jw_1205 dX12_qGoesOn_141 ?_
  refine jr_aload_n dX12_qGoesOn_144 0 rfl ?_
  refine jr_geti (i := 2) jc_12 jk_206 (by decide) (Nat.le_of_ble_eq_true rfl) jlk_206_2 jft_12_2 jw_1207 dX12_qGoesOn_145 ?_
  refine jr_iconst dX12_qGoesOn_148 ?_
  refine jr_isub dX12_qGoesOn_149 ?_
  refine jr_grd (fun g5 => ?_)
  refine jr_iaload jk_207 (by decide) (jl_n3_to _) g5 dX12_qGoesOn_150 ?_
  refine jr_bipush dX12_qGoesOn_151 (by decide) ?_
  refine jr_icmp_ne (t := 160) dX12_qGoesOn_153 (by decide) (jl_n3_to _) (jl_nlit rfl) (fun c6 => ?_) (fun c6 => ?_)
  · refine jr_iconst dX12_qGoesOn_156 ?_
    refine jr_goto (t := 161) dX12_qGoesOn_157 (by decide) ?_
    exact jj_X12_qGoesOn_B161 G (3 : Int) (jl_nlit rfl) s0
  · refine jr_iconst dX12_qGoesOn_160 ?_
    exact jj_X12_qGoesOn_B161 G (4 : Int) (jl_nlit rfl) s0
def jf_X12_qGoesOn_B279 (R247 : Int → jl_Mm → jl_O) (l1 : Int) (s0 : jl_Mm) : jl_O :=
  jl_bd (jf_X12_qDrops s0) fun r29 s30 => R247 l1 s30
set_option maxRecDepth 20000 in
set_option maxHeartbeats 2000000 in
theorem jj_X12_qGoesOn_B279 (G : jl_GC) (R247 : Int → jl_Mm → jl_O) (hR247 : ∀ (l1 : Int) (_hl1 : jl_n3 l1) (s0 : jl_Mm), j2 G jM_X12_qGoesOn 247 [(0, jl_vr G 206), (1, jl_vi l1)] [] s0 (R247 l1 s0)) (l1 : Int) (hl1 : jl_n3 l1) (s0 : jl_Mm) : j2 G jM_X12_qGoesOn 279 [(0, jl_vr G 206), (1, jl_vi l1)] [] s0 (jf_X12_qGoesOn_B279 R247 l1 s0) := by
  refine jr_aload_n dX12_qGoesOn_279 0 rfl ?_
  refine j2_callVv (As := []) dX12_qGoesOn_280 (jt_X12_qDrops G s0) jv_X12_qDrops ⟨rfl, rfl, rfl⟩ jw_1692 jk_206 (by decide) (by decide) rfl ⟨Nat.le_of_ble_eq_true rfl, Nat.le_of_ble_eq_true rfl⟩ rfl (Nat.le_of_ble_eq_true rfl) (fun r29 s30 hr29 => ?_)
  refine jr_goto (t := 247) dX12_qGoesOn_283 (by decide) ?_
  exact hR247 l1 hl1 s30
def jf_X12_qGoesOn_L247 : Nat → Int → jl_Mm → jl_O
  | 0, _, _ => none
  | n + 1, l1, s0 =>
    jl_bd (jf_X12_qIsOn (3 : Int) s0) fun r26 s27 => if r26 = (0 : Int) then (jl_bd (jf_X12_qIsOn (4 : Int) s27) fun r31 s32 => if r31 = (0 : Int) then (jl_bd (jf_X12_qIsOn (1 : Int) s32) fun r34 s35 => if r34 = (0 : Int) then (jl_bd (jf_X12_qIsOn (2 : Int) s35) fun r37 s38 => if r37 = (0 : Int) then (if 0 ≤ jl_g s38 206 102 ∧ jl_g s38 206 102 < ((1700 : Nat) : Int) then jl_lm (jl_up s38 283 (jl_g s38 206 102).toNat l1) fun s41 => jl_lm (jl_up s41 206 102 (jl_add (jl_g s41 206 102) (1 : Int))) fun s42 => jl_zb (1 : Int) s42 else none) else (jf_X12_qGoesOn_B279 (jf_X12_qGoesOn_L247 n) l1 s38)) else (jf_X12_qGoesOn_B279 (jf_X12_qGoesOn_L247 n) l1 s35)) else (jf_X12_qGoesOn_B279 (jf_X12_qGoesOn_L247 n) l1 s32)) else (jf_X12_qGoesOn_B279 (jf_X12_qGoesOn_L247 n) l1 s27)
set_option maxRecDepth 20000 in
set_option maxHeartbeats 2000000 in
theorem jj_X12_qGoesOn_L247 (G : jl_GC) : ∀ (n : Nat) (l1 : Int) (hl1 : jl_n3 l1) (s0 : jl_Mm), j2 G jM_X12_qGoesOn 247 [(0, jl_vr G 206), (1, jl_vi l1)] [] s0 (jf_X12_qGoesOn_L247 n l1 s0) := by
  intro n
  induction n with
  | zero =>
    intros
    exact jr_none
  | succ n ih =>
    intro l1 hl1 s0
    refine jr_aload_n dX12_qGoesOn_247 0 rfl ?_
    refine jr_iconst dX12_qGoesOn_248 ?_
    refine j2_callVz (As := [jl_vi (3 : Int)]) dX12_qGoesOn_249 (jt_X12_qIsOn G (3 : Int) (jl_nlit rfl) s0) jv_X12_qIsOn ⟨rfl, rfl, rfl⟩ jw_1711 jk_206 (by decide) (by decide) rfl ⟨Nat.le_of_ble_eq_true rfl, Nat.le_of_ble_eq_true rfl⟩ rfl (Nat.le_of_ble_eq_true rfl) (fun r26 s27 hr26 => ?_)
    refine jr_if_ne (t := 279) dX12_qGoesOn_252 (by decide) (jl_nz hr26) (fun c28 => ?_) (fun c28 => ?_)
    · refine jr_aload_n dX12_qGoesOn_255 0 rfl ?_
      refine jr_iconst dX12_qGoesOn_256 ?_
      refine j2_callVz (As := [jl_vi (4 : Int)]) dX12_qGoesOn_257 (jt_X12_qIsOn G (4 : Int) (jl_nlit rfl) s27) jv_X12_qIsOn ⟨rfl, rfl, rfl⟩ jw_1711 jk_206 (by decide) (by decide) rfl ⟨Nat.le_of_ble_eq_true rfl, Nat.le_of_ble_eq_true rfl⟩ rfl (Nat.le_of_ble_eq_true rfl) (fun r31 s32 hr31 => ?_)
      refine jr_if_ne (t := 279) dX12_qGoesOn_260 (by decide) (jl_nz hr31) (fun c33 => ?_) (fun c33 => ?_)
      · refine jr_aload_n dX12_qGoesOn_263 0 rfl ?_
        refine jr_iconst dX12_qGoesOn_264 ?_
        refine j2_callVz (As := [jl_vi (1 : Int)]) dX12_qGoesOn_265 (jt_X12_qIsOn G (1 : Int) (jl_nlit rfl) s32) jv_X12_qIsOn ⟨rfl, rfl, rfl⟩ jw_1711 jk_206 (by decide) (by decide) rfl ⟨Nat.le_of_ble_eq_true rfl, Nat.le_of_ble_eq_true rfl⟩ rfl (Nat.le_of_ble_eq_true rfl) (fun r34 s35 hr34 => ?_)
        refine jr_if_ne (t := 279) dX12_qGoesOn_268 (by decide) (jl_nz hr34) (fun c36 => ?_) (fun c36 => ?_)
        · refine jr_aload_n dX12_qGoesOn_271 0 rfl ?_
          refine jr_iconst dX12_qGoesOn_272 ?_
          refine j2_callVz (As := [jl_vi (2 : Int)]) dX12_qGoesOn_273 (jt_X12_qIsOn G (2 : Int) (jl_nlit rfl) s35) jv_X12_qIsOn ⟨rfl, rfl, rfl⟩ jw_1711 jk_206 (by decide) (by decide) rfl ⟨Nat.le_of_ble_eq_true rfl, Nat.le_of_ble_eq_true rfl⟩ rfl (Nat.le_of_ble_eq_true rfl) (fun r37 s38 hr37 => ?_)
          refine jr_if_eq (t := 286) dX12_qGoesOn_276 (by decide) (jl_nz hr37) (fun c39 => ?_) (fun c39 => ?_)
          · refine jr_aload_n dX12_qGoesOn_286 0 rfl ?_
            refine jr_getk (i := 101) jc_12 jk_206 (by decide) (Nat.le_of_ble_eq_true rfl) jlk_206_101 jw_1306 dX12_qGoesOn_287 ?_
            refine jr_aload_n dX12_qGoesOn_290 0 rfl ?_
            refine jr_geti (i := 102) jc_12 jk_206 (by decide) (Nat.le_of_ble_eq_true rfl) jlk_206_102 jft_12_102 jw_1307 dX12_qGoesOn_291 ?_
            refine jr_iload_n dX12_qGoesOn_294 1 rfl ?_
            refine jr_grd (fun g40 => ?_)
            refine jr_iastore jk_283 (by decide) (jl_n3_to _) g40 dX12_qGoesOn_295 ?_
            refine jr_lm (fun s41 => ?_)
            refine jr_aload_n dX12_qGoesOn_296 0 rfl ?_
            refine jr_dup dX12_qGoesOn_297 rfl ?_
            refine jr_geti (i := 102) jc_12 jk_206 (by decide) (Nat.le_of_ble_eq_true rfl) jlk_206_102 jft_12_102 jw_1307 dX12_qGoesOn_298 ?_
            refine jr_iconst dX12_qGoesOn_301 ?_
            refine jr_iadd dX12_qGoesOn_302 ?_
            refine jr_puti (i := 102) jc_12 jk_206 (by decide) (Nat.le_of_ble_eq_true rfl) jlk_206_102 jft_12_102 rfl jw_1307 rfl dX12_qGoesOn_303 ?_
            refine jr_lm (fun s42 => ?_)
            refine jr_iconst dX12_qGoesOn_306 ?_
            exact jr_ret_z rfl dX12_qGoesOn_307
          · exact jj_X12_qGoesOn_B279 G (jf_X12_qGoesOn_L247 n) (ih) l1 hl1 s38
        · exact jj_X12_qGoesOn_B279 G (jf_X12_qGoesOn_L247 n) (ih) l1 hl1 s35
      · exact jj_X12_qGoesOn_B279 G (jf_X12_qGoesOn_L247 n) (ih) l1 hl1 s32
    · exact jj_X12_qGoesOn_B279 G (jf_X12_qGoesOn_L247 n) (ih) l1 hl1 s27
def jf_X12_qGoesOn_B246 (k0 : Int) (s0 : jl_Mm) : jl_O :=
  jf_X12_qGoesOn_L247 jl_fu k0 s0
set_option maxRecDepth 20000 in
set_option maxHeartbeats 2000000 in
theorem jj_X12_qGoesOn_B246 (G : jl_GC) (k0 : Int) (hk0 : jl_n3 k0) (s0 : jl_Mm) : j2 G jM_X12_qGoesOn 246 [(0, jl_vr G 206)] [jl_vi k0] s0 (jf_X12_qGoesOn_B246 k0 s0) := by
  refine jr_istore_n (lv := [(1, jl_vi k0), (0, jl_vr G 206)]) dX12_qGoesOn_246 rfl (Nat.le_of_ble_eq_true rfl) rfl ?_
  refine jr_sub [1, 0] rfl ?_
  exact jj_X12_qGoesOn_L247 G jl_fu k0 hk0 s0
def jf_X12_qGoesOn_B225 (s0 : jl_Mm) : jl_O :=
  if 0 ≤ jl_sub (jl_g s0 206 2) (1 : Int) ∧ jl_sub (jl_g s0 206 2) (1 : Int) < ((1600 : Nat) : Int) then if jl_g s0 207 (jl_sub (jl_g s0 206 2) (1 : Int)).toNat = (43 : Int) then (jf_X12_qGoesOn_B246 (1 : Int) s0) else (jf_X12_qGoesOn_B246 (2 : Int) s0) else none
set_option maxRecDepth 20000 in
set_option maxHeartbeats 2000000 in
theorem jj_X12_qGoesOn_B225 (G : jl_GC) (s0 : jl_Mm) : j2 G jM_X12_qGoesOn 225 [(0, jl_vr G 206)] [] s0 (jf_X12_qGoesOn_B225 s0) := by
  refine jr_aload_n dX12_qGoesOn_225 0 rfl ?_
  refine jr_getk (i := 0) jc_12 jk_206 (by decide) (Nat.le_of_ble_eq_true rfl) jlk_206_0 jw_1205 dX12_qGoesOn_226 ?_
  refine jr_aload_n dX12_qGoesOn_229 0 rfl ?_
  refine jr_geti (i := 2) jc_12 jk_206 (by decide) (Nat.le_of_ble_eq_true rfl) jlk_206_2 jft_12_2 jw_1207 dX12_qGoesOn_230 ?_
  refine jr_iconst dX12_qGoesOn_233 ?_
  refine jr_isub dX12_qGoesOn_234 ?_
  refine jr_grd (fun g24 => ?_)
  refine jr_iaload jk_207 (by decide) (jl_n3_to _) g24 dX12_qGoesOn_235 ?_
  refine jr_bipush dX12_qGoesOn_236 (by decide) ?_
  refine jr_icmp_ne (t := 245) dX12_qGoesOn_238 (by decide) (jl_n3_to _) (jl_nlit rfl) (fun c25 => ?_) (fun c25 => ?_)
  · refine jr_iconst dX12_qGoesOn_241 ?_
    refine jr_goto (t := 246) dX12_qGoesOn_242 (by decide) ?_
    exact jj_X12_qGoesOn_B246 G (1 : Int) (jl_nlit rfl) s0
  · refine jr_iconst dX12_qGoesOn_245 ?_
    exact jj_X12_qGoesOn_B246 G (2 : Int) (jl_nlit rfl) s0
def jf_X12_qGoesOn_B326 (s0 : jl_Mm) : jl_O :=
  jl_bd (jf_X12_asksSign (44 : Int) s0) fun r49 s50 => if jl_g s50 206 5 = (0 : Int) then (jl_bd (jf_X12_qDropsToBracket s50) fun r52 s53 => if 0 ≤ jl_sub (jl_g s53 206 102) (1 : Int) ∧ jl_sub (jl_g s53 206 102) (1 : Int) < ((1700 : Nat) : Int) then if 0 ≤ jl_sub (jl_g s53 206 102) (1 : Int) ∧ jl_sub (jl_g s53 206 102) (1 : Int) < ((1700 : Nat) : Int) then jl_lm (jl_up s53 283 (jl_sub (jl_g s53 206 102) (1 : Int)).toNat (jl_add (jl_g s53 283 (jl_sub (jl_g s53 206 102) (1 : Int)).toNat) (2 : Int))) fun s56 => jl_zb (1 : Int) s56 else none else none) else (jl_zb (0 : Int) s50)
set_option maxRecDepth 20000 in
set_option maxHeartbeats 2000000 in
theorem jj_X12_qGoesOn_B326 (G : jl_GC) (s0 : jl_Mm) : j2 G jM_X12_qGoesOn 326 [(0, jl_vr G 206)] [] s0 (jf_X12_qGoesOn_B326 s0) := by
  refine jr_aload_n dX12_qGoesOn_326 0 rfl ?_
  refine jr_bipush dX12_qGoesOn_327 (by decide) ?_
  refine j2_callVv (As := [jl_vi (44 : Int)]) dX12_qGoesOn_329 (jt_X12_asksSign G (44 : Int) (jl_nlit rfl) s0) jv_X12_asksSign ⟨rfl, rfl, rfl⟩ jw_1591 jk_206 (by decide) (by decide) rfl ⟨Nat.le_of_ble_eq_true rfl, Nat.le_of_ble_eq_true rfl⟩ rfl (Nat.le_of_ble_eq_true rfl) (fun r49 s50 hr49 => ?_)
  refine jr_aload_n dX12_qGoesOn_332 0 rfl ?_
  refine jr_geti (i := 5) jc_12 jk_206 (by decide) (Nat.le_of_ble_eq_true rfl) jlk_206_5 jft_12_5 jw_1210 dX12_qGoesOn_333 ?_
  refine jr_if_eq (t := 341) dX12_qGoesOn_336 (by decide) (jl_n3_to _) (fun c51 => ?_) (fun c51 => ?_)
  · refine jr_aload_n dX12_qGoesOn_341 0 rfl ?_
    refine j2_callVv (As := []) dX12_qGoesOn_342 (jt_X12_qDropsToBracket G s50) jv_X12_qDropsToBracket ⟨rfl, rfl, rfl⟩ jw_1707 jk_206 (by decide) (by decide) rfl ⟨Nat.le_of_ble_eq_true rfl, Nat.le_of_ble_eq_true rfl⟩ rfl (Nat.le_of_ble_eq_true rfl) (fun r52 s53 hr52 => ?_)
    refine jr_aload_n dX12_qGoesOn_345 0 rfl ?_
    refine jr_getk (i := 101) jc_12 jk_206 (by decide) (Nat.le_of_ble_eq_true rfl) jlk_206_101 jw_1306 dX12_qGoesOn_346 ?_
    refine jr_aload_n dX12_qGoesOn_349 0 rfl ?_
    refine jr_geti (i := 102) jc_12 jk_206 (by decide) (Nat.le_of_ble_eq_true rfl) jlk_206_102 jft_12_102 jw_1307 dX12_qGoesOn_350 ?_
    refine jr_iconst dX12_qGoesOn_353 ?_
    refine jr_isub dX12_qGoesOn_354 ?_
    refine jr_dup2_11 dX12_qGoesOn_355 rfl rfl ?_
    refine jr_grd (fun g54 => ?_)
    refine jr_iaload jk_283 (by decide) (jl_n3_to _) g54 dX12_qGoesOn_356 ?_
    refine jr_iconst dX12_qGoesOn_357 ?_
    refine jr_iadd dX12_qGoesOn_358 ?_
    refine jr_grd (fun g55 => ?_)
    refine jr_iastore jk_283 (by decide) (jl_n3_to _) g55 dX12_qGoesOn_359 ?_
    refine jr_lm (fun s56 => ?_)
    refine jr_iconst dX12_qGoesOn_360 ?_
    exact jr_ret_z rfl dX12_qGoesOn_361
  · refine jr_iconst dX12_qGoesOn_339 ?_
    exact jr_ret_z rfl dX12_qGoesOn_340
def jf_X12_qGoesOn_B386 (s0 : jl_Mm) : jl_O :=
  jl_zb (0 : Int) s0
set_option maxRecDepth 20000 in
set_option maxHeartbeats 2000000 in
theorem jj_X12_qGoesOn_B386 (G : jl_GC) (s0 : jl_Mm) : j2 G jM_X12_qGoesOn 386 [] [] s0 (jf_X12_qGoesOn_B386 s0) := by
  refine jr_iconst dX12_qGoesOn_386 ?_
  exact jr_ret_z rfl dX12_qGoesOn_387
def jf_X12_qGoesOn_B122 (s0 : jl_Mm) : jl_O :=
  jl_bd (jf_X12_takesSign (42 : Int) s0) fun r2 s3 => if r2 = (0 : Int) then (jl_bd (jf_X12_takesSign (47 : Int) s3) fun r18 s19 => if r18 = (0 : Int) then (jl_bd (jf_X12_takesSign (43 : Int) s19) fun r21 s22 => if r21 = (0 : Int) then (jl_bd (jf_X12_takesSign (45 : Int) s22) fun r43 s44 => if r43 = (0 : Int) then (jl_bd (jf_X12_qBracket s44) fun r46 s47 => if r46 = (21 : Int) then (jf_X12_qGoesOn_B326 s47) else (jl_bd (jf_X12_qBracket s47) fun r57 s58 => if r57 = (22 : Int) then (jf_X12_qGoesOn_B326 s58) else (jl_bd (jf_X12_qBracket s58) fun r60 s61 => if r60 = (-1 : Int) then (jf_X12_qGoesOn_B386 s61) else (if jl_g s61 206 5 = (0 : Int) then (jl_bd (jf_X12_fail (1 : Int) (jl_g s61 206 2) s61) fun r64 s65 => jf_X12_qGoesOn_B386 s65) else (jf_X12_qGoesOn_B386 s61))))) else (jf_X12_qGoesOn_B225 s44)) else (jf_X12_qGoesOn_B225 s22)) else (jf_X12_qGoesOn_B140 s19)) else (jf_X12_qGoesOn_B140 s3)
set_option maxRecDepth 20000 in
set_option maxHeartbeats 2000000 in
theorem jj_X12_qGoesOn_B122 (G : jl_GC) (s0 : jl_Mm) : j2 G jM_X12_qGoesOn 122 [(0, jl_vr G 206)] [] s0 (jf_X12_qGoesOn_B122 s0) := by
  refine jr_aload_n dX12_qGoesOn_122 0 rfl ?_
  refine jr_bipush dX12_qGoesOn_123 (by decide) ?_
  refine j2_callVz (As := [jl_vi (42 : Int)]) dX12_qGoesOn_125 (jt_X12_takesSign G (42 : Int) (jl_nlit rfl) s0) jv_X12_takesSign ⟨rfl, rfl, rfl⟩ jw_1595 jk_206 (by decide) (by decide) rfl ⟨Nat.le_of_ble_eq_true rfl, Nat.le_of_ble_eq_true rfl⟩ rfl (Nat.le_of_ble_eq_true rfl) (fun r2 s3 hr2 => ?_)
  refine jr_if_ne (t := 140) dX12_qGoesOn_128 (by decide) (jl_nz hr2) (fun c4 => ?_) (fun c4 => ?_)
  · refine jr_aload_n dX12_qGoesOn_131 0 rfl ?_
    refine jr_bipush dX12_qGoesOn_132 (by decide) ?_
    refine j2_callVz (As := [jl_vi (47 : Int)]) dX12_qGoesOn_134 (jt_X12_takesSign G (47 : Int) (jl_nlit rfl) s3) jv_X12_takesSign ⟨rfl, rfl, rfl⟩ jw_1595 jk_206 (by decide) (by decide) rfl ⟨Nat.le_of_ble_eq_true rfl, Nat.le_of_ble_eq_true rfl⟩ rfl (Nat.le_of_ble_eq_true rfl) (fun r18 s19 hr18 => ?_)
    refine jr_if_eq (t := 207) dX12_qGoesOn_137 (by decide) (jl_nz hr18) (fun c20 => ?_) (fun c20 => ?_)
    · refine jr_aload_n dX12_qGoesOn_207 0 rfl ?_
      refine jr_bipush dX12_qGoesOn_208 (by decide) ?_
      refine j2_callVz (As := [jl_vi (43 : Int)]) dX12_qGoesOn_210 (jt_X12_takesSign G (43 : Int) (jl_nlit rfl) s19) jv_X12_takesSign ⟨rfl, rfl, rfl⟩ jw_1595 jk_206 (by decide) (by decide) rfl ⟨Nat.le_of_ble_eq_true rfl, Nat.le_of_ble_eq_true rfl⟩ rfl (Nat.le_of_ble_eq_true rfl) (fun r21 s22 hr21 => ?_)
      refine jr_if_ne (t := 225) dX12_qGoesOn_213 (by decide) (jl_nz hr21) (fun c23 => ?_) (fun c23 => ?_)
      · refine jr_aload_n dX12_qGoesOn_216 0 rfl ?_
        refine jr_bipush dX12_qGoesOn_217 (by decide) ?_
        refine j2_callVz (As := [jl_vi (45 : Int)]) dX12_qGoesOn_219 (jt_X12_takesSign G (45 : Int) (jl_nlit rfl) s22) jv_X12_takesSign ⟨rfl, rfl, rfl⟩ jw_1595 jk_206 (by decide) (by decide) rfl ⟨Nat.le_of_ble_eq_true rfl, Nat.le_of_ble_eq_true rfl⟩ rfl (Nat.le_of_ble_eq_true rfl) (fun r43 s44 hr43 => ?_)
        refine jr_if_eq (t := 308) dX12_qGoesOn_222 (by decide) (jl_nz hr43) (fun c45 => ?_) (fun c45 => ?_)
        · refine jr_aload_n dX12_qGoesOn_308 0 rfl ?_
          refine j2_callVi (As := []) dX12_qGoesOn_309 (jt_X12_qBracket G s44) jv_X12_qBracket ⟨rfl, rfl, rfl⟩ jw_1700 jk_206 (by decide) (by decide) rfl ⟨Nat.le_of_ble_eq_true rfl, Nat.le_of_ble_eq_true rfl⟩ rfl (Nat.le_of_ble_eq_true rfl) (fun r46 s47 hr46 => ?_)
          refine jr_bipush dX12_qGoesOn_312 (by decide) ?_
          refine jr_icmp_eq (t := 326) dX12_qGoesOn_314 (by decide) hr46 (jl_nlit rfl) (fun c48 => ?_) (fun c48 => ?_)
          · exact jj_X12_qGoesOn_B326 G s47
          · refine jr_aload_n dX12_qGoesOn_317 0 rfl ?_
            refine j2_callVi (As := []) dX12_qGoesOn_318 (jt_X12_qBracket G s47) jv_X12_qBracket ⟨rfl, rfl, rfl⟩ jw_1700 jk_206 (by decide) (by decide) rfl ⟨Nat.le_of_ble_eq_true rfl, Nat.le_of_ble_eq_true rfl⟩ rfl (Nat.le_of_ble_eq_true rfl) (fun r57 s58 hr57 => ?_)
            refine jr_bipush dX12_qGoesOn_321 (by decide) ?_
            refine jr_icmp_ne (t := 362) dX12_qGoesOn_323 (by decide) hr57 (jl_nlit rfl) (fun c59 => ?_) (fun c59 => ?_)
            · exact jj_X12_qGoesOn_B326 G s58
            · refine jr_aload_n dX12_qGoesOn_362 0 rfl ?_
              refine j2_callVi (As := []) dX12_qGoesOn_363 (jt_X12_qBracket G s58) jv_X12_qBracket ⟨rfl, rfl, rfl⟩ jw_1700 jk_206 (by decide) (by decide) rfl ⟨Nat.le_of_ble_eq_true rfl, Nat.le_of_ble_eq_true rfl⟩ rfl (Nat.le_of_ble_eq_true rfl) (fun r60 s61 hr60 => ?_)
              refine jr_iconst dX12_qGoesOn_366 ?_
              refine jr_icmp_eq (t := 386) dX12_qGoesOn_367 (by decide) hr60 (jl_nlit rfl) (fun c62 => ?_) (fun c62 => ?_)
              · refine jr_sub [] rfl ?_
                exact jj_X12_qGoesOn_B386 G s61
              · refine jr_aload_n dX12_qGoesOn_370 0 rfl ?_
                refine jr_geti (i := 5) jc_12 jk_206 (by decide) (Nat.le_of_ble_eq_true rfl) jlk_206_5 jft_12_5 jw_1210 dX12_qGoesOn_371 ?_
                refine jr_if_ne (t := 386) dX12_qGoesOn_374 (by decide) (jl_n3_to _) (fun c63 => ?_) (fun c63 => ?_)
                · refine jr_aload_n dX12_qGoesOn_377 0 rfl ?_
                  refine jr_iconst dX12_qGoesOn_378 ?_
                  refine jr_aload_n dX12_qGoesOn_379 0 rfl ?_
                  refine jr_geti (i := 2) jc_12 jk_206 (by decide) (Nat.le_of_ble_eq_true rfl) jlk_206_2 jft_12_2 jw_1207 dX12_qGoesOn_380 ?_
                  refine j2_callVv (As := [jl_vi (1 : Int), jl_vi (jl_g s61 206 2)]) dX12_qGoesOn_383 (jt_X12_fail G (1 : Int) (jl_g s61 206 2) (jl_nlit rfl) (jl_n3_to _) s61) jv_X12_fail ⟨rfl, rfl, rfl⟩ jw_1577 jk_206 (by decide) (by decide) rfl ⟨Nat.le_of_ble_eq_true rfl, Nat.le_of_ble_eq_true rfl⟩ rfl (Nat.le_of_ble_eq_true rfl) (fun r64 s65 hr64 => ?_)
                  refine jr_sub [] rfl ?_
                  exact jj_X12_qGoesOn_B386 G s65
                · refine jr_sub [] rfl ?_
                  exact jj_X12_qGoesOn_B386 G s61
        · exact jj_X12_qGoesOn_B225 G s44
      · exact jj_X12_qGoesOn_B225 G s22
    · exact jj_X12_qGoesOn_B140 G s19
  · exact jj_X12_qGoesOn_B140 G s3
def jf_X12_qGoesOn_B115 (R0 : jl_Mm → jl_O) (s0 : jl_Mm) : jl_O :=
  jl_bd (jf_X12_qEndsPart s0) fun r79 s80 => R0 s80
set_option maxRecDepth 20000 in
set_option maxHeartbeats 2000000 in
theorem jj_X12_qGoesOn_B115 (G : jl_GC) (R0 : jl_Mm → jl_O) (hR0 : ∀ (s0 : jl_Mm), j2 G jM_X12_qGoesOn 0 [(0, jl_vr G 206)] [] s0 (R0 s0)) (s0 : jl_Mm) : j2 G jM_X12_qGoesOn 115 [(0, jl_vr G 206)] [] s0 (jf_X12_qGoesOn_B115 R0 s0) := by
  refine jr_aload_n dX12_qGoesOn_115 0 rfl ?_
  refine j2_callVv (As := []) dX12_qGoesOn_116 (jt_X12_qEndsPart G s0) jv_X12_qEndsPart ⟨rfl, rfl, rfl⟩ jw_1688 jk_206 (by decide) (by decide) rfl ⟨Nat.le_of_ble_eq_true rfl, Nat.le_of_ble_eq_true rfl⟩ rfl (Nat.le_of_ble_eq_true rfl) (fun r79 s80 hr79 => ?_)
  refine jr_goto (t := 0) dX12_qGoesOn_119 (by decide) ?_
  exact hR0 s80
def jf_X12_qGoesOn_B112 (R0 : jl_Mm → jl_O) (k1 : Int) (s0 : jl_Mm) : jl_O :=
  jl_bd (jf_X12_qCode k1 s0) fun r83 s84 => jf_X12_qGoesOn_B115 (R0) s84
set_option maxRecDepth 20000 in
set_option maxHeartbeats 2000000 in
theorem jj_X12_qGoesOn_B112 (G : jl_GC) (R0 : jl_Mm → jl_O) (hR0 : ∀ (s0 : jl_Mm), j2 G jM_X12_qGoesOn 0 [(0, jl_vr G 206)] [] s0 (R0 s0)) (k1 : Int) (hk1 : jl_n3 k1) (s0 : jl_Mm) : j2 G jM_X12_qGoesOn 112 [(0, jl_vr G 206)] [jl_vi k1, jl_vr G 206] s0 (jf_X12_qGoesOn_B112 R0 k1 s0) := by
  refine j2_callVv (As := [jl_vi k1]) dX12_qGoesOn_112 (jt_X12_qCode G k1 hk1 s0) jv_X12_qCode ⟨rfl, rfl, rfl⟩ jw_1657 jk_206 (by decide) (by decide) rfl ⟨Nat.le_of_ble_eq_true rfl, Nat.le_of_ble_eq_true rfl⟩ rfl (Nat.le_of_ble_eq_true rfl) (fun r83 s84 hr83 => ?_)
  exact jj_X12_qGoesOn_B115 G (R0) (hR0) s84
def jf_X12_qGoesOn_B43 (R0 : jl_Mm → jl_O) (s0 : jl_Mm) : jl_O :=
  jl_lm (jl_up s0 206 2 (jl_add (jl_g s0 206 2) (1 : Int))) fun s72 => jl_bd (jf_X12_qDropsToBracket s72) fun r73 s74 => jl_lm (jl_up s74 206 102 (jl_sub (jl_g s74 206 102) (1 : Int))) fun s75 => jl_lm (jl_up s75 206 103 (jl_sub (jl_g s75 206 103) (1 : Int))) fun s76 => if 0 ≤ jl_g s76 206 102 ∧ jl_g s76 206 102 < ((1700 : Nat) : Int) then if jl_g s76 283 (jl_g s76 206 102).toNat = (20 : Int) then (jf_X12_qGoesOn_B115 (R0) s76) else (if 0 ≤ jl_g s76 206 102 ∧ jl_g s76 206 102 < ((1700 : Nat) : Int) then if jl_g s76 283 (jl_g s76 206 102).toNat = (23 : Int) then (jf_X12_qGoesOn_B112 (R0) (5 : Int) s76) else (jf_X12_qGoesOn_B112 (R0) (6 : Int) s76) else none) else none
set_option maxRecDepth 20000 in
set_option maxHeartbeats 2000000 in
theorem jj_X12_qGoesOn_B43 (G : jl_GC) (R0 : jl_Mm → jl_O) (hR0 : ∀ (s0 : jl_Mm), j2 G jM_X12_qGoesOn 0 [(0, jl_vr G 206)] [] s0 (R0 s0)) (s0 : jl_Mm) : j2 G jM_X12_qGoesOn 43 [(0, jl_vr G 206)] [] s0 (jf_X12_qGoesOn_B43 R0 s0) := by
  refine jr_aload_n dX12_qGoesOn_43 0 rfl ?_
  refine jr_dup dX12_qGoesOn_44 rfl ?_
  refine jr_geti (i := 2) jc_12 jk_206 (by decide) (Nat.le_of_ble_eq_true rfl) jlk_206_2 jft_12_2 jw_1207 dX12_qGoesOn_45 ?_
  refine jr_iconst dX12_qGoesOn_48 ?_
  refine jr_iadd dX12_qGoesOn_49 ?_
  refine jr_puti (i := 2) jc_12 jk_206 (by decide) (Nat.le_of_ble_eq_true rfl) jlk_206_2 jft_12_2 rfl jw_1207 rfl dX12_qGoesOn_50 ?_
  refine jr_lm (fun s72 => ?_)
  refine jr_aload_n dX12_qGoesOn_53 0 rfl ?_
  refine j2_callVv (As := []) dX12_qGoesOn_54 (jt_X12_qDropsToBracket G s72) jv_X12_qDropsToBracket ⟨rfl, rfl, rfl⟩ jw_1707 jk_206 (by decide) (by decide) rfl ⟨Nat.le_of_ble_eq_true rfl, Nat.le_of_ble_eq_true rfl⟩ rfl (Nat.le_of_ble_eq_true rfl) (fun r73 s74 hr73 => ?_)
  refine jr_aload_n dX12_qGoesOn_57 0 rfl ?_
  refine jr_dup dX12_qGoesOn_58 rfl ?_
  refine jr_geti (i := 102) jc_12 jk_206 (by decide) (Nat.le_of_ble_eq_true rfl) jlk_206_102 jft_12_102 jw_1307 dX12_qGoesOn_59 ?_
  refine jr_iconst dX12_qGoesOn_62 ?_
  refine jr_isub dX12_qGoesOn_63 ?_
  refine jr_puti (i := 102) jc_12 jk_206 (by decide) (Nat.le_of_ble_eq_true rfl) jlk_206_102 jft_12_102 rfl jw_1307 rfl dX12_qGoesOn_64 ?_
  refine jr_lm (fun s75 => ?_)
  refine jr_aload_n dX12_qGoesOn_67 0 rfl ?_
  refine jr_dup dX12_qGoesOn_68 rfl ?_
  refine jr_geti (i := 103) jc_12 jk_206 (by decide) (Nat.le_of_ble_eq_true rfl) jlk_206_103 jft_12_103 jw_1308 dX12_qGoesOn_69 ?_
  refine jr_iconst dX12_qGoesOn_72 ?_
  refine jr_isub dX12_qGoesOn_73 ?_
  refine jr_puti (i := 103) jc_12 jk_206 (by decide) (Nat.le_of_ble_eq_true rfl) jlk_206_103 jft_12_103 rfl jw_1308 rfl dX12_qGoesOn_74 ?_
  refine jr_lm (fun s76 => ?_)
  refine jr_aload_n dX12_qGoesOn_77 0 rfl ?_
  refine jr_getk (i := 101) jc_12 jk_206 (by decide) (Nat.le_of_ble_eq_true rfl) jlk_206_101 jw_1306 dX12_qGoesOn_78 ?_
  refine jr_aload_n dX12_qGoesOn_81 0 rfl ?_
  refine jr_geti (i := 102) jc_12 jk_206 (by decide) (Nat.le_of_ble_eq_true rfl) jlk_206_102 jft_12_102 jw_1307 dX12_qGoesOn_82 ?_
  refine jr_grd (fun g77 => ?_)
  refine jr_iaload jk_283 (by decide) (jl_n3_to _) g77 dX12_qGoesOn_85 ?_
  refine jr_bipush dX12_qGoesOn_86 (by decide) ?_
  refine jr_icmp_eq (t := 115) dX12_qGoesOn_88 (by decide) (jl_n3_to _) (jl_nlit rfl) (fun c78 => ?_) (fun c78 => ?_)
  · exact jj_X12_qGoesOn_B115 G (R0) (hR0) s76
  · refine jr_aload_n dX12_qGoesOn_91 0 rfl ?_
    refine jr_aload_n dX12_qGoesOn_92 0 rfl ?_
    refine jr_getk (i := 101) jc_12 jk_206 (by decide) (Nat.le_of_ble_eq_true rfl) jlk_206_101 jw_1306 dX12_qGoesOn_93 ?_
    refine jr_aload_n dX12_qGoesOn_96 0 rfl ?_
    refine jr_geti (i := 102) jc_12 jk_206 (by decide) (Nat.le_of_ble_eq_true rfl) jlk_206_102 jft_12_102 jw_1307 dX12_qGoesOn_97 ?_
    refine jr_grd (fun g81 => ?_)
    refine jr_iaload jk_283 (by decide) (jl_n3_to _) g81 dX12_qGoesOn_100 ?_
    refine jr_bipush dX12_qGoesOn_101 (by decide) ?_
    refine jr_icmp_ne (t := 110) dX12_qGoesOn_103 (by decide) (jl_n3_to _) (jl_nlit rfl) (fun c82 => ?_) (fun c82 => ?_)
    · refine jr_iconst dX12_qGoesOn_106 ?_
      refine jr_goto (t := 112) dX12_qGoesOn_107 (by decide) ?_
      exact jj_X12_qGoesOn_B112 G (R0) (hR0) (5 : Int) (jl_nlit rfl) s76
    · refine jr_bipush dX12_qGoesOn_110 (by decide) ?_
      exact jj_X12_qGoesOn_B112 G (R0) (hR0) (6 : Int) (jl_nlit rfl) s76
def jf_X12_qGoesOn_L0 : Nat → jl_Mm → jl_O
  | 0, _ => none
  | n + 1, s0 =>
    if jl_g s0 206 5 = (0 : Int) then (jl_bd (jf_X12_look s0) fun r66 s67 => if r66 = (41 : Int) then (jl_bd (jf_X12_qBracket s67) fun r69 s70 => if r69 = (20 : Int) then (jf_X12_qGoesOn_B43 (jf_X12_qGoesOn_L0 n) s70) else (jl_bd (jf_X12_qBracket s70) fun r85 s86 => if r85 = (23 : Int) then (jf_X12_qGoesOn_B43 (jf_X12_qGoesOn_L0 n) s86) else (jl_bd (jf_X12_qBracket s86) fun r88 s89 => if r88 = (24 : Int) then (jf_X12_qGoesOn_B43 (jf_X12_qGoesOn_L0 n) s89) else (jf_X12_qGoesOn_B122 s89)))) else (jf_X12_qGoesOn_B122 s67)) else (jf_X12_qGoesOn_B122 s0)
set_option maxRecDepth 20000 in
set_option maxHeartbeats 2000000 in
theorem jj_X12_qGoesOn_L0 (G : jl_GC) : ∀ (n : Nat) (s0 : jl_Mm), j2 G jM_X12_qGoesOn 0 [(0, jl_vr G 206)] [] s0 (jf_X12_qGoesOn_L0 n s0) := by
  intro n
  induction n with
  | zero =>
    intros
    exact jr_none
  | succ n ih =>
    intro s0
    refine jr_aload_n dX12_qGoesOn_0 0 rfl ?_
    refine jr_geti (i := 5) jc_12 jk_206 (by decide) (Nat.le_of_ble_eq_true rfl) jlk_206_5 jft_12_5 jw_1210 dX12_qGoesOn_1 ?_
    refine jr_if_ne (t := 122) dX12_qGoesOn_4 (by decide) (jl_n3_to _) (fun c1 => ?_) (fun c1 => ?_)
    · refine jr_aload_n dX12_qGoesOn_7 0 rfl ?_
      refine j2_callVi (As := []) dX12_qGoesOn_8 (jt_X12_look G s0) jv_X12_look ⟨rfl, rfl, rfl⟩ jw_1570 jk_206 (by decide) (by decide) rfl ⟨Nat.le_of_ble_eq_true rfl, Nat.le_of_ble_eq_true rfl⟩ rfl (Nat.le_of_ble_eq_true rfl) (fun r66 s67 hr66 => ?_)
      refine jr_bipush dX12_qGoesOn_11 (by decide) ?_
      refine jr_icmp_ne (t := 122) dX12_qGoesOn_13 (by decide) hr66 (jl_nlit rfl) (fun c68 => ?_) (fun c68 => ?_)
      · refine jr_aload_n dX12_qGoesOn_16 0 rfl ?_
        refine j2_callVi (As := []) dX12_qGoesOn_17 (jt_X12_qBracket G s67) jv_X12_qBracket ⟨rfl, rfl, rfl⟩ jw_1700 jk_206 (by decide) (by decide) rfl ⟨Nat.le_of_ble_eq_true rfl, Nat.le_of_ble_eq_true rfl⟩ rfl (Nat.le_of_ble_eq_true rfl) (fun r69 s70 hr69 => ?_)
        refine jr_bipush dX12_qGoesOn_20 (by decide) ?_
        refine jr_icmp_eq (t := 43) dX12_qGoesOn_22 (by decide) hr69 (jl_nlit rfl) (fun c71 => ?_) (fun c71 => ?_)
        · exact jj_X12_qGoesOn_B43 G (jf_X12_qGoesOn_L0 n) (ih) s70
        · refine jr_aload_n dX12_qGoesOn_25 0 rfl ?_
          refine j2_callVi (As := []) dX12_qGoesOn_26 (jt_X12_qBracket G s70) jv_X12_qBracket ⟨rfl, rfl, rfl⟩ jw_1700 jk_206 (by decide) (by decide) rfl ⟨Nat.le_of_ble_eq_true rfl, Nat.le_of_ble_eq_true rfl⟩ rfl (Nat.le_of_ble_eq_true rfl) (fun r85 s86 hr85 => ?_)
          refine jr_bipush dX12_qGoesOn_29 (by decide) ?_
          refine jr_icmp_eq (t := 43) dX12_qGoesOn_31 (by decide) hr85 (jl_nlit rfl) (fun c87 => ?_) (fun c87 => ?_)
          · exact jj_X12_qGoesOn_B43 G (jf_X12_qGoesOn_L0 n) (ih) s86
          · refine jr_aload_n dX12_qGoesOn_34 0 rfl ?_
            refine j2_callVi (As := []) dX12_qGoesOn_35 (jt_X12_qBracket G s86) jv_X12_qBracket ⟨rfl, rfl, rfl⟩ jw_1700 jk_206 (by decide) (by decide) rfl ⟨Nat.le_of_ble_eq_true rfl, Nat.le_of_ble_eq_true rfl⟩ rfl (Nat.le_of_ble_eq_true rfl) (fun r88 s89 hr88 => ?_)
            refine jr_bipush dX12_qGoesOn_38 (by decide) ?_
            refine jr_icmp_ne (t := 122) dX12_qGoesOn_40 (by decide) hr88 (jl_nlit rfl) (fun c90 => ?_) (fun c90 => ?_)
            · exact jj_X12_qGoesOn_B43 G (jf_X12_qGoesOn_L0 n) (ih) s89
            · exact jj_X12_qGoesOn_B122 G s89
      · exact jj_X12_qGoesOn_B122 G s67
    · exact jj_X12_qGoesOn_B122 G s0
def jf_X12_qGoesOn (s0 : jl_Mm) : jl_O :=
  jf_X12_qGoesOn_L0 jl_fu s0
set_option maxRecDepth 20000 in
set_option maxHeartbeats 2000000 in
theorem jt_X12_qGoesOn (G : jl_GC) (s0 : jl_Mm) : jC2 G jM_X12_qGoesOn [jl_vr G 206] s0 (jf_X12_qGoesOn s0) := by
  refine jl_met (plainFor_of_name rfl) (Nat.le_of_ble_eq_true rfl) ?_
  show j2 G jM_X12_qGoesOn 0 [(0, jl_vr G 206)] [] s0 _
  exact jj_X12_qGoesOn_L0 G jl_fu s0
def jf_X12_qAsksWord_B189 (s0 : jl_Mm) : jl_O :=
  some (0, s0)
set_option maxRecDepth 20000 in
set_option maxHeartbeats 2000000 in
theorem jj_X12_qAsksWord_B189 (G : jl_GC) (s0 : jl_Mm) : j2 G jM_X12_qAsksWord 189 [] [] s0 (jf_X12_qAsksWord_B189 s0) := by
  exact jr_ret_v rfl dX12_qAsksWord_189
def jf_X12_qAsksWord (v1 : Int) (s0 : jl_Mm) : jl_O :=
  if v1 = 0 then (jl_bd (jf_X12_asks 270 s0) fun r2 s3 => jf_X12_qAsksWord_B189 s3) else if v1 = 1 then (jl_bd (jf_X12_asks 271 s0) fun r5 s6 => jf_X12_qAsksWord_B189 s6) else if v1 = 2 then (jl_bd (jf_X12_asks 272 s0) fun r8 s9 => jf_X12_qAsksWord_B189 s9) else if v1 = 3 then (jl_bd (jf_X12_asks 273 s0) fun r11 s12 => jf_X12_qAsksWord_B189 s12) else if v1 = 4 then (jl_bd (jf_X12_asks 274 s0) fun r14 s15 => jf_X12_qAsksWord_B189 s15) else if v1 = 5 then (jl_bd (jf_X12_asks 275 s0) fun r17 s18 => jf_X12_qAsksWord_B189 s18) else if v1 = 6 then (jl_bd (jf_X12_asks 276 s0) fun r20 s21 => jf_X12_qAsksWord_B189 s21) else if v1 = 7 then (jl_bd (jf_X12_asks 277 s0) fun r23 s24 => jf_X12_qAsksWord_B189 s24) else if v1 = 8 then (jl_bd (jf_X12_asks 278 s0) fun r26 s27 => jf_X12_qAsksWord_B189 s27) else if v1 = 9 then (jl_bd (jf_X12_asks 279 s0) fun r29 s30 => jf_X12_qAsksWord_B189 s30) else if v1 = 10 then (jl_bd (jf_X12_asks 280 s0) fun r32 s33 => jf_X12_qAsksWord_B189 s33) else (jl_bd (jf_X12_asks 281 s0) fun r34 s35 => jf_X12_qAsksWord_B189 s35)
set_option maxRecDepth 20000 in
set_option maxHeartbeats 2000000 in
theorem jt_X12_qAsksWord (G : jl_GC) (v1 : Int) (h1 : jl_n3 v1) (s0 : jl_Mm) : jC2 G jM_X12_qAsksWord [jl_vr G 206, jl_vi v1] s0 (jf_X12_qAsksWord v1 s0) := by
  refine jl_met (plainFor_of_name rfl) (Nat.le_of_ble_eq_true rfl) ?_
  show j2 G jM_X12_qAsksWord 0 [(0, jl_vr G 206), (1, jl_vi v1)] [] s0 _
  refine jr_iload_n dX12_qAsksWord_0 1 rfl ?_
  refine jr_ite (fun c1 => ?_) (fun c1 => ?_)
  · refine jr_tabIn (t := 60) dX12_qAsksWord_1 h1 (by omega) (by omega) (by rw [c1]; rfl) (by decide) ?_
    refine jr_aload_n dX12_qAsksWord_60 0 rfl ?_
    refine jr_aload_n dX12_qAsksWord_61 0 rfl ?_
    refine jr_getk (i := 87) jc_12 jk_206 (by decide) (Nat.le_of_ble_eq_true rfl) jlk_206_87 jw_1292 dX12_qAsksWord_62 ?_
    refine j2_callVv (As := [jl_vr G 270]) dX12_qAsksWord_65 (jt_X12_asks G 270 s0) jv_X12_asks ⟨rfl, rfl, rfl⟩ jw_1558 jk_206 (by decide) (by decide) rfl ⟨Nat.le_of_ble_eq_true rfl, Nat.le_of_ble_eq_true rfl⟩ rfl (Nat.le_of_ble_eq_true rfl) (fun r2 s3 hr2 => ?_)
    refine jr_goto (t := 189) dX12_qAsksWord_68 (by decide) ?_
    refine jr_sub [] rfl ?_
    exact jj_X12_qAsksWord_B189 G s3
  · skip
    refine jr_ite (fun c4 => ?_) (fun c4 => ?_)
    · refine jr_tabIn (t := 71) dX12_qAsksWord_1 h1 (by omega) (by omega) (by rw [c4]; rfl) (by decide) ?_
      refine jr_aload_n dX12_qAsksWord_71 0 rfl ?_
      refine jr_aload_n dX12_qAsksWord_72 0 rfl ?_
      refine jr_getk (i := 88) jc_12 jk_206 (by decide) (Nat.le_of_ble_eq_true rfl) jlk_206_88 jw_1293 dX12_qAsksWord_73 ?_
      refine j2_callVv (As := [jl_vr G 271]) dX12_qAsksWord_76 (jt_X12_asks G 271 s0) jv_X12_asks ⟨rfl, rfl, rfl⟩ jw_1558 jk_206 (by decide) (by decide) rfl ⟨Nat.le_of_ble_eq_true rfl, Nat.le_of_ble_eq_true rfl⟩ rfl (Nat.le_of_ble_eq_true rfl) (fun r5 s6 hr5 => ?_)
      refine jr_goto (t := 189) dX12_qAsksWord_79 (by decide) ?_
      refine jr_sub [] rfl ?_
      exact jj_X12_qAsksWord_B189 G s6
    · skip
      refine jr_ite (fun c7 => ?_) (fun c7 => ?_)
      · refine jr_tabIn (t := 82) dX12_qAsksWord_1 h1 (by omega) (by omega) (by rw [c7]; rfl) (by decide) ?_
        refine jr_aload_n dX12_qAsksWord_82 0 rfl ?_
        refine jr_aload_n dX12_qAsksWord_83 0 rfl ?_
        refine jr_getk (i := 89) jc_12 jk_206 (by decide) (Nat.le_of_ble_eq_true rfl) jlk_206_89 jw_1294 dX12_qAsksWord_84 ?_
        refine j2_callVv (As := [jl_vr G 272]) dX12_qAsksWord_87 (jt_X12_asks G 272 s0) jv_X12_asks ⟨rfl, rfl, rfl⟩ jw_1558 jk_206 (by decide) (by decide) rfl ⟨Nat.le_of_ble_eq_true rfl, Nat.le_of_ble_eq_true rfl⟩ rfl (Nat.le_of_ble_eq_true rfl) (fun r8 s9 hr8 => ?_)
        refine jr_goto (t := 189) dX12_qAsksWord_90 (by decide) ?_
        refine jr_sub [] rfl ?_
        exact jj_X12_qAsksWord_B189 G s9
      · skip
        refine jr_ite (fun c10 => ?_) (fun c10 => ?_)
        · refine jr_tabIn (t := 93) dX12_qAsksWord_1 h1 (by omega) (by omega) (by rw [c10]; rfl) (by decide) ?_
          refine jr_aload_n dX12_qAsksWord_93 0 rfl ?_
          refine jr_aload_n dX12_qAsksWord_94 0 rfl ?_
          refine jr_getk (i := 90) jc_12 jk_206 (by decide) (Nat.le_of_ble_eq_true rfl) jlk_206_90 jw_1295 dX12_qAsksWord_95 ?_
          refine j2_callVv (As := [jl_vr G 273]) dX12_qAsksWord_98 (jt_X12_asks G 273 s0) jv_X12_asks ⟨rfl, rfl, rfl⟩ jw_1558 jk_206 (by decide) (by decide) rfl ⟨Nat.le_of_ble_eq_true rfl, Nat.le_of_ble_eq_true rfl⟩ rfl (Nat.le_of_ble_eq_true rfl) (fun r11 s12 hr11 => ?_)
          refine jr_goto (t := 189) dX12_qAsksWord_101 (by decide) ?_
          refine jr_sub [] rfl ?_
          exact jj_X12_qAsksWord_B189 G s12
        · skip
          refine jr_ite (fun c13 => ?_) (fun c13 => ?_)
          · refine jr_tabIn (t := 104) dX12_qAsksWord_1 h1 (by omega) (by omega) (by rw [c13]; rfl) (by decide) ?_
            refine jr_aload_n dX12_qAsksWord_104 0 rfl ?_
            refine jr_aload_n dX12_qAsksWord_105 0 rfl ?_
            refine jr_getk (i := 91) jc_12 jk_206 (by decide) (Nat.le_of_ble_eq_true rfl) jlk_206_91 jw_1296 dX12_qAsksWord_106 ?_
            refine j2_callVv (As := [jl_vr G 274]) dX12_qAsksWord_109 (jt_X12_asks G 274 s0) jv_X12_asks ⟨rfl, rfl, rfl⟩ jw_1558 jk_206 (by decide) (by decide) rfl ⟨Nat.le_of_ble_eq_true rfl, Nat.le_of_ble_eq_true rfl⟩ rfl (Nat.le_of_ble_eq_true rfl) (fun r14 s15 hr14 => ?_)
            refine jr_goto (t := 189) dX12_qAsksWord_112 (by decide) ?_
            refine jr_sub [] rfl ?_
            exact jj_X12_qAsksWord_B189 G s15
          · skip
            refine jr_ite (fun c16 => ?_) (fun c16 => ?_)
            · refine jr_tabIn (t := 115) dX12_qAsksWord_1 h1 (by omega) (by omega) (by rw [c16]; rfl) (by decide) ?_
              refine jr_aload_n dX12_qAsksWord_115 0 rfl ?_
              refine jr_aload_n dX12_qAsksWord_116 0 rfl ?_
              refine jr_getk (i := 92) jc_12 jk_206 (by decide) (Nat.le_of_ble_eq_true rfl) jlk_206_92 jw_1297 dX12_qAsksWord_117 ?_
              refine j2_callVv (As := [jl_vr G 275]) dX12_qAsksWord_120 (jt_X12_asks G 275 s0) jv_X12_asks ⟨rfl, rfl, rfl⟩ jw_1558 jk_206 (by decide) (by decide) rfl ⟨Nat.le_of_ble_eq_true rfl, Nat.le_of_ble_eq_true rfl⟩ rfl (Nat.le_of_ble_eq_true rfl) (fun r17 s18 hr17 => ?_)
              refine jr_goto (t := 189) dX12_qAsksWord_123 (by decide) ?_
              refine jr_sub [] rfl ?_
              exact jj_X12_qAsksWord_B189 G s18
            · skip
              refine jr_ite (fun c19 => ?_) (fun c19 => ?_)
              · refine jr_tabIn (t := 126) dX12_qAsksWord_1 h1 (by omega) (by omega) (by rw [c19]; rfl) (by decide) ?_
                refine jr_aload_n dX12_qAsksWord_126 0 rfl ?_
                refine jr_aload_n dX12_qAsksWord_127 0 rfl ?_
                refine jr_getk (i := 93) jc_12 jk_206 (by decide) (Nat.le_of_ble_eq_true rfl) jlk_206_93 jw_1298 dX12_qAsksWord_128 ?_
                refine j2_callVv (As := [jl_vr G 276]) dX12_qAsksWord_131 (jt_X12_asks G 276 s0) jv_X12_asks ⟨rfl, rfl, rfl⟩ jw_1558 jk_206 (by decide) (by decide) rfl ⟨Nat.le_of_ble_eq_true rfl, Nat.le_of_ble_eq_true rfl⟩ rfl (Nat.le_of_ble_eq_true rfl) (fun r20 s21 hr20 => ?_)
                refine jr_goto (t := 189) dX12_qAsksWord_134 (by decide) ?_
                refine jr_sub [] rfl ?_
                exact jj_X12_qAsksWord_B189 G s21
              · skip
                refine jr_ite (fun c22 => ?_) (fun c22 => ?_)
                · refine jr_tabIn (t := 137) dX12_qAsksWord_1 h1 (by omega) (by omega) (by rw [c22]; rfl) (by decide) ?_
                  refine jr_aload_n dX12_qAsksWord_137 0 rfl ?_
                  refine jr_aload_n dX12_qAsksWord_138 0 rfl ?_
                  refine jr_getk (i := 94) jc_12 jk_206 (by decide) (Nat.le_of_ble_eq_true rfl) jlk_206_94 jw_1299 dX12_qAsksWord_139 ?_
                  refine j2_callVv (As := [jl_vr G 277]) dX12_qAsksWord_142 (jt_X12_asks G 277 s0) jv_X12_asks ⟨rfl, rfl, rfl⟩ jw_1558 jk_206 (by decide) (by decide) rfl ⟨Nat.le_of_ble_eq_true rfl, Nat.le_of_ble_eq_true rfl⟩ rfl (Nat.le_of_ble_eq_true rfl) (fun r23 s24 hr23 => ?_)
                  refine jr_goto (t := 189) dX12_qAsksWord_145 (by decide) ?_
                  refine jr_sub [] rfl ?_
                  exact jj_X12_qAsksWord_B189 G s24
                · skip
                  refine jr_ite (fun c25 => ?_) (fun c25 => ?_)
                  · refine jr_tabIn (t := 148) dX12_qAsksWord_1 h1 (by omega) (by omega) (by rw [c25]; rfl) (by decide) ?_
                    refine jr_aload_n dX12_qAsksWord_148 0 rfl ?_
                    refine jr_aload_n dX12_qAsksWord_149 0 rfl ?_
                    refine jr_getk (i := 95) jc_12 jk_206 (by decide) (Nat.le_of_ble_eq_true rfl) jlk_206_95 jw_1300 dX12_qAsksWord_150 ?_
                    refine j2_callVv (As := [jl_vr G 278]) dX12_qAsksWord_153 (jt_X12_asks G 278 s0) jv_X12_asks ⟨rfl, rfl, rfl⟩ jw_1558 jk_206 (by decide) (by decide) rfl ⟨Nat.le_of_ble_eq_true rfl, Nat.le_of_ble_eq_true rfl⟩ rfl (Nat.le_of_ble_eq_true rfl) (fun r26 s27 hr26 => ?_)
                    refine jr_goto (t := 189) dX12_qAsksWord_156 (by decide) ?_
                    refine jr_sub [] rfl ?_
                    exact jj_X12_qAsksWord_B189 G s27
                  · skip
                    refine jr_ite (fun c28 => ?_) (fun c28 => ?_)
                    · refine jr_tabIn (t := 159) dX12_qAsksWord_1 h1 (by omega) (by omega) (by rw [c28]; rfl) (by decide) ?_
                      refine jr_aload_n dX12_qAsksWord_159 0 rfl ?_
                      refine jr_aload_n dX12_qAsksWord_160 0 rfl ?_
                      refine jr_getk (i := 96) jc_12 jk_206 (by decide) (Nat.le_of_ble_eq_true rfl) jlk_206_96 jw_1301 dX12_qAsksWord_161 ?_
                      refine j2_callVv (As := [jl_vr G 279]) dX12_qAsksWord_164 (jt_X12_asks G 279 s0) jv_X12_asks ⟨rfl, rfl, rfl⟩ jw_1558 jk_206 (by decide) (by decide) rfl ⟨Nat.le_of_ble_eq_true rfl, Nat.le_of_ble_eq_true rfl⟩ rfl (Nat.le_of_ble_eq_true rfl) (fun r29 s30 hr29 => ?_)
                      refine jr_goto (t := 189) dX12_qAsksWord_167 (by decide) ?_
                      refine jr_sub [] rfl ?_
                      exact jj_X12_qAsksWord_B189 G s30
                    · skip
                      refine jr_ite (fun c31 => ?_) (fun c31 => ?_)
                      · refine jr_tabIn (t := 170) dX12_qAsksWord_1 h1 (by omega) (by omega) (by rw [c31]; rfl) (by decide) ?_
                        refine jr_aload_n dX12_qAsksWord_170 0 rfl ?_
                        refine jr_aload_n dX12_qAsksWord_171 0 rfl ?_
                        refine jr_getk (i := 97) jc_12 jk_206 (by decide) (Nat.le_of_ble_eq_true rfl) jlk_206_97 jw_1302 dX12_qAsksWord_172 ?_
                        refine j2_callVv (As := [jl_vr G 280]) dX12_qAsksWord_175 (jt_X12_asks G 280 s0) jv_X12_asks ⟨rfl, rfl, rfl⟩ jw_1558 jk_206 (by decide) (by decide) rfl ⟨Nat.le_of_ble_eq_true rfl, Nat.le_of_ble_eq_true rfl⟩ rfl (Nat.le_of_ble_eq_true rfl) (fun r32 s33 hr32 => ?_)
                        refine jr_goto (t := 189) dX12_qAsksWord_178 (by decide) ?_
                        refine jr_sub [] rfl ?_
                        exact jj_X12_qAsksWord_B189 G s33
                      · skip
                        refine jr_tabOut (t := 181) dX12_qAsksWord_1 h1 (by omega) (by decide) ?_
                        refine jr_aload_n dX12_qAsksWord_181 0 rfl ?_
                        refine jr_aload_n dX12_qAsksWord_182 0 rfl ?_
                        refine jr_getk (i := 98) jc_12 jk_206 (by decide) (Nat.le_of_ble_eq_true rfl) jlk_206_98 jw_1303 dX12_qAsksWord_183 ?_
                        refine j2_callVv (As := [jl_vr G 281]) dX12_qAsksWord_186 (jt_X12_asks G 281 s0) jv_X12_asks ⟨rfl, rfl, rfl⟩ jw_1558 jk_206 (by decide) (by decide) rfl ⟨Nat.le_of_ble_eq_true rfl, Nat.le_of_ble_eq_true rfl⟩ rfl (Nat.le_of_ble_eq_true rfl) (fun r34 s35 hr34 => ?_)
                        refine jr_sub [] rfl ?_
                        exact jj_X12_qAsksWord_B189 G s35
def jf_X12_qOpens (v1 : Int) (v2 : Int) (s0 : jl_Mm) : jl_O :=
  if jl_g s0 206 5 = (0 : Int) then (if jl_g s0 206 103 = (6 : Int) then (jl_bd (jf_X12_fail (4 : Int) v2 s0) fun r7 s8 => some (0, s8)) else (jl_lm (jl_up s0 206 103 (jl_add (jl_g s0 206 103) (1 : Int))) fun s3 => if 0 ≤ jl_g s3 206 102 ∧ jl_g s3 206 102 < ((1700 : Nat) : Int) then jl_lm (jl_up s3 283 (jl_g s3 206 102).toNat v1) fun s5 => jl_lm (jl_up s5 206 102 (jl_add (jl_g s5 206 102) (1 : Int))) fun s6 => some (0, s6) else none)) else (some (0, s0))
set_option maxRecDepth 20000 in
set_option maxHeartbeats 2000000 in
theorem jt_X12_qOpens (G : jl_GC) (v1 : Int) (v2 : Int) (h1 : jl_n3 v1) (h2 : jl_n3 v2) (s0 : jl_Mm) : jC2 G jM_X12_qOpens [jl_vr G 206, jl_vi v1, jl_vi v2] s0 (jf_X12_qOpens v1 v2 s0) := by
  refine jl_met (plainFor_of_name rfl) (Nat.le_of_ble_eq_true rfl) ?_
  show j2 G jM_X12_qOpens 0 [(0, jl_vr G 206), (1, jl_vi v1), (2, jl_vi v2)] [] s0 _
  refine jr_aload_n dX12_qOpens_0 0 rfl ?_
  refine jr_geti (i := 5) jc_12 jk_206 (by decide) (Nat.le_of_ble_eq_true rfl) jlk_206_5 jft_12_5 jw_1210 dX12_qOpens_1 ?_
  refine jr_if_eq (t := 8) dX12_qOpens_4 (by decide) (jl_n3_to _) (fun c1 => ?_) (fun c1 => ?_)
  · refine jr_aload_n dX12_qOpens_8 0 rfl ?_
    refine jr_geti (i := 103) jc_12 jk_206 (by decide) (Nat.le_of_ble_eq_true rfl) jlk_206_103 jft_12_103 jw_1308 dX12_qOpens_9 ?_
    refine jr_bipush dX12_qOpens_12 (by decide) ?_
    refine jr_icmp_ne (t := 24) dX12_qOpens_14 (by decide) (jl_n3_to _) (jl_nlit rfl) (fun c2 => ?_) (fun c2 => ?_)
    · refine jr_aload_n dX12_qOpens_17 0 rfl ?_
      refine jr_iconst dX12_qOpens_18 ?_
      refine jr_iload_n dX12_qOpens_19 2 rfl ?_
      refine j2_callVv (As := [jl_vi (4 : Int), jl_vi v2]) dX12_qOpens_20 (jt_X12_fail G (4 : Int) v2 (jl_nlit rfl) h2 s0) jv_X12_fail ⟨rfl, rfl, rfl⟩ jw_1577 jk_206 (by decide) (by decide) rfl ⟨Nat.le_of_ble_eq_true rfl, Nat.le_of_ble_eq_true rfl⟩ rfl (Nat.le_of_ble_eq_true rfl) (fun r7 s8 hr7 => ?_)
      exact jr_ret_v rfl dX12_qOpens_23
    · refine jr_aload_n dX12_qOpens_24 0 rfl ?_
      refine jr_dup dX12_qOpens_25 rfl ?_
      refine jr_geti (i := 103) jc_12 jk_206 (by decide) (Nat.le_of_ble_eq_true rfl) jlk_206_103 jft_12_103 jw_1308 dX12_qOpens_26 ?_
      refine jr_iconst dX12_qOpens_29 ?_
      refine jr_iadd dX12_qOpens_30 ?_
      refine jr_puti (i := 103) jc_12 jk_206 (by decide) (Nat.le_of_ble_eq_true rfl) jlk_206_103 jft_12_103 rfl jw_1308 rfl dX12_qOpens_31 ?_
      refine jr_lm (fun s3 => ?_)
      refine jr_aload_n dX12_qOpens_34 0 rfl ?_
      refine jr_getk (i := 101) jc_12 jk_206 (by decide) (Nat.le_of_ble_eq_true rfl) jlk_206_101 jw_1306 dX12_qOpens_35 ?_
      refine jr_aload_n dX12_qOpens_38 0 rfl ?_
      refine jr_geti (i := 102) jc_12 jk_206 (by decide) (Nat.le_of_ble_eq_true rfl) jlk_206_102 jft_12_102 jw_1307 dX12_qOpens_39 ?_
      refine jr_iload_n dX12_qOpens_42 1 rfl ?_
      refine jr_grd (fun g4 => ?_)
      refine jr_iastore jk_283 (by decide) (jl_n3_to _) g4 dX12_qOpens_43 ?_
      refine jr_lm (fun s5 => ?_)
      refine jr_aload_n dX12_qOpens_44 0 rfl ?_
      refine jr_dup dX12_qOpens_45 rfl ?_
      refine jr_geti (i := 102) jc_12 jk_206 (by decide) (Nat.le_of_ble_eq_true rfl) jlk_206_102 jft_12_102 jw_1307 dX12_qOpens_46 ?_
      refine jr_iconst dX12_qOpens_49 ?_
      refine jr_iadd dX12_qOpens_50 ?_
      refine jr_puti (i := 102) jc_12 jk_206 (by decide) (Nat.le_of_ble_eq_true rfl) jlk_206_102 jft_12_102 rfl jw_1307 rfl dX12_qOpens_51 ?_
      refine jr_lm (fun s6 => ?_)
      exact jr_ret_v rfl dX12_qOpens_54
  · exact jr_ret_v rfl dX12_qOpens_7
def jf_X12_qWordHere (s0 : jl_Mm) : jl_O :=
  jl_bd (jf_X12_isHere 270 s0) fun r1 s2 => if r1 = (0 : Int) then (jl_bd (jf_X12_isHere 271 s2) fun r4 s5 => if r4 = (0 : Int) then (jl_bd (jf_X12_isHere 272 s5) fun r7 s8 => if r7 = (0 : Int) then (jl_bd (jf_X12_isHere 273 s8) fun r10 s11 => if r10 = (0 : Int) then (jl_bd (jf_X12_isHere 274 s11) fun r13 s14 => if r13 = (0 : Int) then (jl_bd (jf_X12_isHere 275 s14) fun r16 s17 => if r16 = (0 : Int) then (jl_bd (jf_X12_isHere 276 s17) fun r19 s20 => if r19 = (0 : Int) then (jl_bd (jf_X12_isHere 277 s20) fun r22 s23 => if r22 = (0 : Int) then (jl_bd (jf_X12_isHere 278 s23) fun r25 s26 => if r25 = (0 : Int) then (jl_bd (jf_X12_isHere 279 s26) fun r28 s29 => if r28 = (0 : Int) then (jl_bd (jf_X12_isHere 280 s29) fun r31 s32 => if r31 = (0 : Int) then (jl_bd (jf_X12_isHere 281 s32) fun r34 s35 => if r34 = (0 : Int) then (some ((-1 : Int), s35)) else (some ((11 : Int), s35))) else (some ((10 : Int), s32))) else (some ((9 : Int), s29))) else (some ((8 : Int), s26))) else (some ((7 : Int), s23))) else (some ((6 : Int), s20))) else (some ((5 : Int), s17))) else (some ((4 : Int), s14))) else (some ((3 : Int), s11))) else (some ((2 : Int), s8))) else (some ((1 : Int), s5))) else (some ((0 : Int), s2))
set_option maxRecDepth 20000 in
set_option maxHeartbeats 2000000 in
theorem jt_X12_qWordHere (G : jl_GC) (s0 : jl_Mm) : jC2 G jM_X12_qWordHere [jl_vr G 206] s0 (jf_X12_qWordHere s0) := by
  refine jl_met (plainFor_of_name rfl) (Nat.le_of_ble_eq_true rfl) ?_
  show j2 G jM_X12_qWordHere 0 [(0, jl_vr G 206)] [] s0 _
  refine jr_aload_n dX12_qWordHere_0 0 rfl ?_
  refine jr_aload_n dX12_qWordHere_1 0 rfl ?_
  refine jr_getk (i := 87) jc_12 jk_206 (by decide) (Nat.le_of_ble_eq_true rfl) jlk_206_87 jw_1292 dX12_qWordHere_2 ?_
  refine j2_callVz (As := [jl_vr G 270]) dX12_qWordHere_5 (jt_X12_isHere G 270 s0) jv_X12_isHere ⟨rfl, rfl, rfl⟩ jw_1566 jk_206 (by decide) (by decide) rfl ⟨Nat.le_of_ble_eq_true rfl, Nat.le_of_ble_eq_true rfl⟩ rfl (Nat.le_of_ble_eq_true rfl) (fun r1 s2 hr1 => ?_)
  refine jr_if_eq (t := 13) dX12_qWordHere_8 (by decide) (jl_nz hr1) (fun c3 => ?_) (fun c3 => ?_)
  · refine jr_aload_n dX12_qWordHere_13 0 rfl ?_
    refine jr_aload_n dX12_qWordHere_14 0 rfl ?_
    refine jr_getk (i := 88) jc_12 jk_206 (by decide) (Nat.le_of_ble_eq_true rfl) jlk_206_88 jw_1293 dX12_qWordHere_15 ?_
    refine j2_callVz (As := [jl_vr G 271]) dX12_qWordHere_18 (jt_X12_isHere G 271 s2) jv_X12_isHere ⟨rfl, rfl, rfl⟩ jw_1566 jk_206 (by decide) (by decide) rfl ⟨Nat.le_of_ble_eq_true rfl, Nat.le_of_ble_eq_true rfl⟩ rfl (Nat.le_of_ble_eq_true rfl) (fun r4 s5 hr4 => ?_)
    refine jr_if_eq (t := 26) dX12_qWordHere_21 (by decide) (jl_nz hr4) (fun c6 => ?_) (fun c6 => ?_)
    · refine jr_aload_n dX12_qWordHere_26 0 rfl ?_
      refine jr_aload_n dX12_qWordHere_27 0 rfl ?_
      refine jr_getk (i := 89) jc_12 jk_206 (by decide) (Nat.le_of_ble_eq_true rfl) jlk_206_89 jw_1294 dX12_qWordHere_28 ?_
      refine j2_callVz (As := [jl_vr G 272]) dX12_qWordHere_31 (jt_X12_isHere G 272 s5) jv_X12_isHere ⟨rfl, rfl, rfl⟩ jw_1566 jk_206 (by decide) (by decide) rfl ⟨Nat.le_of_ble_eq_true rfl, Nat.le_of_ble_eq_true rfl⟩ rfl (Nat.le_of_ble_eq_true rfl) (fun r7 s8 hr7 => ?_)
      refine jr_if_eq (t := 39) dX12_qWordHere_34 (by decide) (jl_nz hr7) (fun c9 => ?_) (fun c9 => ?_)
      · refine jr_aload_n dX12_qWordHere_39 0 rfl ?_
        refine jr_aload_n dX12_qWordHere_40 0 rfl ?_
        refine jr_getk (i := 90) jc_12 jk_206 (by decide) (Nat.le_of_ble_eq_true rfl) jlk_206_90 jw_1295 dX12_qWordHere_41 ?_
        refine j2_callVz (As := [jl_vr G 273]) dX12_qWordHere_44 (jt_X12_isHere G 273 s8) jv_X12_isHere ⟨rfl, rfl, rfl⟩ jw_1566 jk_206 (by decide) (by decide) rfl ⟨Nat.le_of_ble_eq_true rfl, Nat.le_of_ble_eq_true rfl⟩ rfl (Nat.le_of_ble_eq_true rfl) (fun r10 s11 hr10 => ?_)
        refine jr_if_eq (t := 52) dX12_qWordHere_47 (by decide) (jl_nz hr10) (fun c12 => ?_) (fun c12 => ?_)
        · refine jr_aload_n dX12_qWordHere_52 0 rfl ?_
          refine jr_aload_n dX12_qWordHere_53 0 rfl ?_
          refine jr_getk (i := 91) jc_12 jk_206 (by decide) (Nat.le_of_ble_eq_true rfl) jlk_206_91 jw_1296 dX12_qWordHere_54 ?_
          refine j2_callVz (As := [jl_vr G 274]) dX12_qWordHere_57 (jt_X12_isHere G 274 s11) jv_X12_isHere ⟨rfl, rfl, rfl⟩ jw_1566 jk_206 (by decide) (by decide) rfl ⟨Nat.le_of_ble_eq_true rfl, Nat.le_of_ble_eq_true rfl⟩ rfl (Nat.le_of_ble_eq_true rfl) (fun r13 s14 hr13 => ?_)
          refine jr_if_eq (t := 65) dX12_qWordHere_60 (by decide) (jl_nz hr13) (fun c15 => ?_) (fun c15 => ?_)
          · refine jr_aload_n dX12_qWordHere_65 0 rfl ?_
            refine jr_aload_n dX12_qWordHere_66 0 rfl ?_
            refine jr_getk (i := 92) jc_12 jk_206 (by decide) (Nat.le_of_ble_eq_true rfl) jlk_206_92 jw_1297 dX12_qWordHere_67 ?_
            refine j2_callVz (As := [jl_vr G 275]) dX12_qWordHere_70 (jt_X12_isHere G 275 s14) jv_X12_isHere ⟨rfl, rfl, rfl⟩ jw_1566 jk_206 (by decide) (by decide) rfl ⟨Nat.le_of_ble_eq_true rfl, Nat.le_of_ble_eq_true rfl⟩ rfl (Nat.le_of_ble_eq_true rfl) (fun r16 s17 hr16 => ?_)
            refine jr_if_eq (t := 78) dX12_qWordHere_73 (by decide) (jl_nz hr16) (fun c18 => ?_) (fun c18 => ?_)
            · refine jr_aload_n dX12_qWordHere_78 0 rfl ?_
              refine jr_aload_n dX12_qWordHere_79 0 rfl ?_
              refine jr_getk (i := 93) jc_12 jk_206 (by decide) (Nat.le_of_ble_eq_true rfl) jlk_206_93 jw_1298 dX12_qWordHere_80 ?_
              refine j2_callVz (As := [jl_vr G 276]) dX12_qWordHere_83 (jt_X12_isHere G 276 s17) jv_X12_isHere ⟨rfl, rfl, rfl⟩ jw_1566 jk_206 (by decide) (by decide) rfl ⟨Nat.le_of_ble_eq_true rfl, Nat.le_of_ble_eq_true rfl⟩ rfl (Nat.le_of_ble_eq_true rfl) (fun r19 s20 hr19 => ?_)
              refine jr_if_eq (t := 92) dX12_qWordHere_86 (by decide) (jl_nz hr19) (fun c21 => ?_) (fun c21 => ?_)
              · refine jr_aload_n dX12_qWordHere_92 0 rfl ?_
                refine jr_aload_n dX12_qWordHere_93 0 rfl ?_
                refine jr_getk (i := 94) jc_12 jk_206 (by decide) (Nat.le_of_ble_eq_true rfl) jlk_206_94 jw_1299 dX12_qWordHere_94 ?_
                refine j2_callVz (As := [jl_vr G 277]) dX12_qWordHere_97 (jt_X12_isHere G 277 s20) jv_X12_isHere ⟨rfl, rfl, rfl⟩ jw_1566 jk_206 (by decide) (by decide) rfl ⟨Nat.le_of_ble_eq_true rfl, Nat.le_of_ble_eq_true rfl⟩ rfl (Nat.le_of_ble_eq_true rfl) (fun r22 s23 hr22 => ?_)
                refine jr_if_eq (t := 106) dX12_qWordHere_100 (by decide) (jl_nz hr22) (fun c24 => ?_) (fun c24 => ?_)
                · refine jr_aload_n dX12_qWordHere_106 0 rfl ?_
                  refine jr_aload_n dX12_qWordHere_107 0 rfl ?_
                  refine jr_getk (i := 95) jc_12 jk_206 (by decide) (Nat.le_of_ble_eq_true rfl) jlk_206_95 jw_1300 dX12_qWordHere_108 ?_
                  refine j2_callVz (As := [jl_vr G 278]) dX12_qWordHere_111 (jt_X12_isHere G 278 s23) jv_X12_isHere ⟨rfl, rfl, rfl⟩ jw_1566 jk_206 (by decide) (by decide) rfl ⟨Nat.le_of_ble_eq_true rfl, Nat.le_of_ble_eq_true rfl⟩ rfl (Nat.le_of_ble_eq_true rfl) (fun r25 s26 hr25 => ?_)
                  refine jr_if_eq (t := 120) dX12_qWordHere_114 (by decide) (jl_nz hr25) (fun c27 => ?_) (fun c27 => ?_)
                  · refine jr_aload_n dX12_qWordHere_120 0 rfl ?_
                    refine jr_aload_n dX12_qWordHere_121 0 rfl ?_
                    refine jr_getk (i := 96) jc_12 jk_206 (by decide) (Nat.le_of_ble_eq_true rfl) jlk_206_96 jw_1301 dX12_qWordHere_122 ?_
                    refine j2_callVz (As := [jl_vr G 279]) dX12_qWordHere_125 (jt_X12_isHere G 279 s26) jv_X12_isHere ⟨rfl, rfl, rfl⟩ jw_1566 jk_206 (by decide) (by decide) rfl ⟨Nat.le_of_ble_eq_true rfl, Nat.le_of_ble_eq_true rfl⟩ rfl (Nat.le_of_ble_eq_true rfl) (fun r28 s29 hr28 => ?_)
                    refine jr_if_eq (t := 134) dX12_qWordHere_128 (by decide) (jl_nz hr28) (fun c30 => ?_) (fun c30 => ?_)
                    · refine jr_aload_n dX12_qWordHere_134 0 rfl ?_
                      refine jr_aload_n dX12_qWordHere_135 0 rfl ?_
                      refine jr_getk (i := 97) jc_12 jk_206 (by decide) (Nat.le_of_ble_eq_true rfl) jlk_206_97 jw_1302 dX12_qWordHere_136 ?_
                      refine j2_callVz (As := [jl_vr G 280]) dX12_qWordHere_139 (jt_X12_isHere G 280 s29) jv_X12_isHere ⟨rfl, rfl, rfl⟩ jw_1566 jk_206 (by decide) (by decide) rfl ⟨Nat.le_of_ble_eq_true rfl, Nat.le_of_ble_eq_true rfl⟩ rfl (Nat.le_of_ble_eq_true rfl) (fun r31 s32 hr31 => ?_)
                      refine jr_if_eq (t := 148) dX12_qWordHere_142 (by decide) (jl_nz hr31) (fun c33 => ?_) (fun c33 => ?_)
                      · refine jr_aload_n dX12_qWordHere_148 0 rfl ?_
                        refine jr_aload_n dX12_qWordHere_149 0 rfl ?_
                        refine jr_getk (i := 98) jc_12 jk_206 (by decide) (Nat.le_of_ble_eq_true rfl) jlk_206_98 jw_1303 dX12_qWordHere_150 ?_
                        refine j2_callVz (As := [jl_vr G 281]) dX12_qWordHere_153 (jt_X12_isHere G 281 s32) jv_X12_isHere ⟨rfl, rfl, rfl⟩ jw_1566 jk_206 (by decide) (by decide) rfl ⟨Nat.le_of_ble_eq_true rfl, Nat.le_of_ble_eq_true rfl⟩ rfl (Nat.le_of_ble_eq_true rfl) (fun r34 s35 hr34 => ?_)
                        refine jr_if_eq (t := 162) dX12_qWordHere_156 (by decide) (jl_nz hr34) (fun c36 => ?_) (fun c36 => ?_)
                        · refine jr_iconst dX12_qWordHere_162 ?_
                          exact jr_ret_i rfl (jl_nlit rfl) dX12_qWordHere_163
                        · refine jr_bipush dX12_qWordHere_159 (by decide) ?_
                          exact jr_ret_i rfl (jl_nlit rfl) dX12_qWordHere_161
                      · refine jr_bipush dX12_qWordHere_145 (by decide) ?_
                        exact jr_ret_i rfl (jl_nlit rfl) dX12_qWordHere_147
                    · refine jr_bipush dX12_qWordHere_131 (by decide) ?_
                      exact jr_ret_i rfl (jl_nlit rfl) dX12_qWordHere_133
                  · refine jr_bipush dX12_qWordHere_117 (by decide) ?_
                    exact jr_ret_i rfl (jl_nlit rfl) dX12_qWordHere_119
                · refine jr_bipush dX12_qWordHere_103 (by decide) ?_
                  exact jr_ret_i rfl (jl_nlit rfl) dX12_qWordHere_105
              · refine jr_bipush dX12_qWordHere_89 (by decide) ?_
                exact jr_ret_i rfl (jl_nlit rfl) dX12_qWordHere_91
            · refine jr_iconst dX12_qWordHere_76 ?_
              exact jr_ret_i rfl (jl_nlit rfl) dX12_qWordHere_77
          · refine jr_iconst dX12_qWordHere_63 ?_
            exact jr_ret_i rfl (jl_nlit rfl) dX12_qWordHere_64
        · refine jr_iconst dX12_qWordHere_50 ?_
          exact jr_ret_i rfl (jl_nlit rfl) dX12_qWordHere_51
      · refine jr_iconst dX12_qWordHere_37 ?_
        exact jr_ret_i rfl (jl_nlit rfl) dX12_qWordHere_38
    · refine jr_iconst dX12_qWordHere_24 ?_
      exact jr_ret_i rfl (jl_nlit rfl) dX12_qWordHere_25
  · refine jr_iconst dX12_qWordHere_11 ?_
    exact jr_ret_i rfl (jl_nlit rfl) dX12_qWordHere_12
def jf_X12_qWordOf_B28 (k0 : Int) (s0 : jl_Mm) : jl_O :=
  some (k0, s0)
set_option maxRecDepth 20000 in
set_option maxHeartbeats 2000000 in
theorem jj_X12_qWordOf_B28 (G : jl_GC) (k0 : Int) (hk0 : jl_n3 k0) (s0 : jl_Mm) : j2 G jM_X12_qWordOf 28 [] [jl_vi k0] s0 (jf_X12_qWordOf_B28 k0 s0) := by
  exact jr_ret_i rfl hk0 dX12_qWordOf_28
def jf_X12_qWordOf_B27 (s0 : jl_Mm) : jl_O :=
  jf_X12_qWordOf_B28 (-1 : Int) s0
set_option maxRecDepth 20000 in
set_option maxHeartbeats 2000000 in
theorem jj_X12_qWordOf_B27 (G : jl_GC) (s0 : jl_Mm) : j2 G jM_X12_qWordOf 27 [] [] s0 (jf_X12_qWordOf_B27 s0) := by
  refine jr_iconst dX12_qWordOf_27 ?_
  exact jj_X12_qWordOf_B28 G (-1 : Int) (jl_nlit rfl) s0
def jf_X12_qWordOf (v1 : Int) (v2 : Int) (s0 : jl_Mm) : jl_O :=
  jl_bd (jf_X12_qWordHere s0) fun r1 s2 => if r1 < v1 then (jf_X12_qWordOf_B27 s2) else (if v2 ≤ r1 then (jf_X12_qWordOf_B27 s2) else (jl_bd (jf_X12_isAllowed r1 s2) fun r5 s6 => if r5 = (0 : Int) then (jf_X12_qWordOf_B27 s6) else (jf_X12_qWordOf_B28 r1 s6)))
set_option maxRecDepth 20000 in
set_option maxHeartbeats 2000000 in
theorem jt_X12_qWordOf (G : jl_GC) (v1 : Int) (v2 : Int) (h1 : jl_n3 v1) (h2 : jl_n3 v2) (s0 : jl_Mm) : jC2 G jM_X12_qWordOf [jl_vr G 206, jl_vi v1, jl_vi v2] s0 (jf_X12_qWordOf v1 v2 s0) := by
  refine jl_met (plainFor_of_name rfl) (Nat.le_of_ble_eq_true rfl) ?_
  show j2 G jM_X12_qWordOf 0 [(0, jl_vr G 206), (1, jl_vi v1), (2, jl_vi v2)] [] s0 _
  refine jr_aload_n dX12_qWordOf_0 0 rfl ?_
  refine j2_callVi (As := []) dX12_qWordOf_1 (jt_X12_qWordHere G s0) jv_X12_qWordHere ⟨rfl, rfl, rfl⟩ jw_1673 jk_206 (by decide) (by decide) rfl ⟨Nat.le_of_ble_eq_true rfl, Nat.le_of_ble_eq_true rfl⟩ rfl (Nat.le_of_ble_eq_true rfl) (fun r1 s2 hr1 => ?_)
  refine jr_istore_n (lv := [(3, jl_vi r1), (0, jl_vr G 206), (1, jl_vi v1), (2, jl_vi v2)]) dX12_qWordOf_4 rfl (Nat.le_of_ble_eq_true rfl) rfl ?_
  refine jr_iload_n dX12_qWordOf_5 0 rfl ?_
  refine jr_iload_n dX12_qWordOf_6 2 rfl ?_
  refine jr_icmp_lt (t := 27) dX12_qWordOf_7 (by decide) hr1 h1 (fun c3 => ?_) (fun c3 => ?_)
  · refine jr_sub [] rfl ?_
    exact jj_X12_qWordOf_B27 G s2
  · refine jr_iload_n dX12_qWordOf_10 0 rfl ?_
    refine jr_iload_n dX12_qWordOf_11 3 rfl ?_
    refine jr_icmp_ge (t := 27) dX12_qWordOf_12 (by decide) hr1 h2 (fun c4 => ?_) (fun c4 => ?_)
    · refine jr_sub [] rfl ?_
      exact jj_X12_qWordOf_B27 G s2
    · refine jr_aload_n dX12_qWordOf_15 1 rfl ?_
      refine jr_iload_n dX12_qWordOf_16 0 rfl ?_
      refine j2_callVz (As := [jl_vi r1]) dX12_qWordOf_17 (jt_X12_isAllowed G r1 hr1 s2) jv_X12_isAllowed ⟨rfl, rfl, rfl⟩ jw_1677 jk_206 (by decide) (by decide) rfl ⟨Nat.le_of_ble_eq_true rfl, Nat.le_of_ble_eq_true rfl⟩ rfl (Nat.le_of_ble_eq_true rfl) (fun r5 s6 hr5 => ?_)
      refine jr_if_eq (t := 27) dX12_qWordOf_20 (by decide) (jl_nz hr5) (fun c7 => ?_) (fun c7 => ?_)
      · refine jr_sub [] rfl ?_
        exact jj_X12_qWordOf_B27 G s6
      · refine jr_iload_n dX12_qWordOf_23 0 rfl ?_
        refine jr_goto (t := 28) dX12_qWordOf_24 (by decide) ?_
        refine jr_sub [] rfl ?_
        exact jj_X12_qWordOf_B28 G r1 hr1 s6
def jf_X12_qPartTold_B237 (k1 : Int) (s0 : jl_Mm) : jl_O :=
  jl_bd (jf_X12_qCode k1 s0) fun r9 s10 => jl_bd (jf_X12_qEndsPart s10) fun r11 s12 => some (0, s12)
set_option maxRecDepth 20000 in
set_option maxHeartbeats 2000000 in
theorem jj_X12_qPartTold_B237 (G : jl_GC) (k1 : Int) (hk1 : jl_n3 k1) (s0 : jl_Mm) : j2 G jM_X12_qPartTold 237 [(0, jl_vr G 206)] [jl_vi k1, jl_vr G 206] s0 (jf_X12_qPartTold_B237 k1 s0) := by
  refine j2_callVv (As := [jl_vi k1]) dX12_qPartTold_237 (jt_X12_qCode G k1 hk1 s0) jv_X12_qCode ⟨rfl, rfl, rfl⟩ jw_1657 jk_206 (by decide) (by decide) rfl ⟨Nat.le_of_ble_eq_true rfl, Nat.le_of_ble_eq_true rfl⟩ rfl (Nat.le_of_ble_eq_true rfl) (fun r9 s10 hr9 => ?_)
  refine jr_aload_n dX12_qPartTold_240 0 rfl ?_
  refine j2_callVv (As := []) dX12_qPartTold_241 (jt_X12_qEndsPart G s10) jv_X12_qEndsPart ⟨rfl, rfl, rfl⟩ jw_1688 jk_206 (by decide) (by decide) rfl ⟨Nat.le_of_ble_eq_true rfl, Nat.le_of_ble_eq_true rfl⟩ rfl (Nat.le_of_ble_eq_true rfl) (fun r11 s12 hr11 => ?_)
  exact jr_ret_v rfl dX12_qPartTold_244
def jf_X12_qPartTold_B212 (l2 : Int) (s0 : jl_Mm) : jl_O :=
  if l2 = (-1 : Int) then (jl_bd (jf_X12_number (0 : Int) (9999 : Int) s0) fun r7 s8 => jf_X12_qPartTold_B237 (jl_add (1000 : Int) r7) s8) else (jf_X12_qPartTold_B237 (jl_add (40 : Int) l2) s0)
set_option maxRecDepth 20000 in
set_option maxHeartbeats 2000000 in
theorem jj_X12_qPartTold_B212 (G : jl_GC) (l2 : Int) (hl2 : jl_n3 l2) (s0 : jl_Mm) : j2 G jM_X12_qPartTold 212 [(0, jl_vr G 206), (2, jl_vi l2)] [] s0 (jf_X12_qPartTold_B212 l2 s0) := by
  refine jr_aload_n dX12_qPartTold_212 0 rfl ?_
  refine jr_iload_n dX12_qPartTold_213 1 rfl ?_
  refine jr_iconst dX12_qPartTold_214 ?_
  refine jr_icmp_eq (t := 225) dX12_qPartTold_215 (by decide) hl2 (jl_nlit rfl) (fun c6 => ?_) (fun c6 => ?_)
  · refine jr_sipush dX12_qPartTold_225 (by decide) ?_
    refine jr_aload_n dX12_qPartTold_228 0 rfl ?_
    refine jr_iconst dX12_qPartTold_229 ?_
    refine jr_sipush dX12_qPartTold_230 (by decide) ?_
    refine j2_callVi (As := [jl_vi (0 : Int), jl_vi (9999 : Int)]) dX12_qPartTold_233 (jt_X12_number G (0 : Int) (9999 : Int) (jl_nlit rfl) (jl_nlit rfl) s0) jv_X12_number ⟨rfl, rfl, rfl⟩ jw_1581 jk_206 (by decide) (by decide) rfl ⟨Nat.le_of_ble_eq_true rfl, Nat.le_of_ble_eq_true rfl⟩ rfl (Nat.le_of_ble_eq_true rfl) (fun r7 s8 hr7 => ?_)
    refine jr_iadd dX12_qPartTold_236 ?_
    refine jr_sub [0] rfl ?_
    exact jj_X12_qPartTold_B237 G (jl_add (1000 : Int) r7) (jl_n3_to _) s8
  · refine jr_bipush dX12_qPartTold_218 (by decide) ?_
    refine jr_iload_n dX12_qPartTold_220 1 rfl ?_
    refine jr_iadd dX12_qPartTold_221 ?_
    refine jr_goto (t := 237) dX12_qPartTold_222 (by decide) ?_
    refine jr_sub [0] rfl ?_
    exact jj_X12_qPartTold_B237 G (jl_add (40 : Int) l2) (jl_n3_to _) s0
def jf_X12_qPartTold_B186 (s0 : jl_Mm) : jl_O :=
  if jl_g s0 206 5 = (0 : Int) then (jl_bd (jf_X12_qWordOf (0 : Int) (10 : Int) s0) fun r3 s4 => if r3 = (-1 : Int) then (jf_X12_qPartTold_B212 r3 s4) else (jl_bd (jf_X12_qAsksWord r3 s4) fun r13 s14 => jf_X12_qPartTold_B212 r3 s14)) else (some (0, s0))
set_option maxRecDepth 20000 in
set_option maxHeartbeats 2000000 in
theorem jj_X12_qPartTold_B186 (G : jl_GC) (s0 : jl_Mm) : j2 G jM_X12_qPartTold 186 [(0, jl_vr G 206)] [] s0 (jf_X12_qPartTold_B186 s0) := by
  refine jr_aload_n dX12_qPartTold_186 0 rfl ?_
  refine jr_geti (i := 5) jc_12 jk_206 (by decide) (Nat.le_of_ble_eq_true rfl) jlk_206_5 jft_12_5 jw_1210 dX12_qPartTold_187 ?_
  refine jr_if_eq (t := 194) dX12_qPartTold_190 (by decide) (jl_n3_to _) (fun c2 => ?_) (fun c2 => ?_)
  · refine jr_aload_n dX12_qPartTold_194 0 rfl ?_
    refine jr_iconst dX12_qPartTold_195 ?_
    refine jr_bipush dX12_qPartTold_196 (by decide) ?_
    refine j2_callVi (As := [jl_vi (0 : Int), jl_vi (10 : Int)]) dX12_qPartTold_198 (jt_X12_qWordOf G (0 : Int) (10 : Int) (jl_nlit rfl) (jl_nlit rfl) s0) jv_X12_qWordOf ⟨rfl, rfl, rfl⟩ jw_1669 jk_206 (by decide) (by decide) rfl ⟨Nat.le_of_ble_eq_true rfl, Nat.le_of_ble_eq_true rfl⟩ rfl (Nat.le_of_ble_eq_true rfl) (fun r3 s4 hr3 => ?_)
    refine jr_istore_n (lv := [(2, jl_vi r3), (0, jl_vr G 206)]) dX12_qPartTold_201 rfl (Nat.le_of_ble_eq_true rfl) rfl ?_
    refine jr_iload_n dX12_qPartTold_202 0 rfl ?_
    refine jr_iconst dX12_qPartTold_203 ?_
    refine jr_icmp_eq (t := 212) dX12_qPartTold_204 (by decide) hr3 (jl_nlit rfl) (fun c5 => ?_) (fun c5 => ?_)
    · refine jr_sub [1, 0] rfl ?_
      exact jj_X12_qPartTold_B212 G r3 hr3 s4
    · refine jr_aload_n dX12_qPartTold_207 1 rfl ?_
      refine jr_iload_n dX12_qPartTold_208 0 rfl ?_
      refine j2_callVv (As := [jl_vi r3]) dX12_qPartTold_209 (jt_X12_qAsksWord G r3 hr3 s4) jv_X12_qAsksWord ⟨rfl, rfl, rfl⟩ jw_1684 jk_206 (by decide) (by decide) rfl ⟨Nat.le_of_ble_eq_true rfl, Nat.le_of_ble_eq_true rfl⟩ rfl (Nat.le_of_ble_eq_true rfl) (fun r13 s14 hr13 => ?_)
      refine jr_sub [1, 0] rfl ?_
      exact jj_X12_qPartTold_B212 G r3 hr3 s14
  · exact jr_ret_v rfl dX12_qPartTold_193
def jf_X12_qPartTold_B183 (R2 : Int → jl_Mm → jl_O) (l1 : Int) (s0 : jl_Mm) : jl_O :=
  R2 l1 s0
set_option maxRecDepth 20000 in
set_option maxHeartbeats 2000000 in
theorem jj_X12_qPartTold_B183 (G : jl_GC) (R2 : Int → jl_Mm → jl_O) (hR2 : ∀ (l1 : Int) (_hl1 : jl_n3 l1) (s0 : jl_Mm), j2 G jM_X12_qPartTold 2 [(0, jl_vr G 206), (1, jl_vi l1)] [] s0 (R2 l1 s0)) (l1 : Int) (hl1 : jl_n3 l1) (s0 : jl_Mm) : j2 G jM_X12_qPartTold 183 [(0, jl_vr G 206), (1, jl_vi l1)] [] s0 (jf_X12_qPartTold_B183 R2 l1 s0) := by
  refine jr_goto (t := 2) dX12_qPartTold_183 (by decide) ?_
  exact hR2 l1 hl1 s0
def jf_X12_qPartTold_B144 (R2 : Int → jl_Mm → jl_O) (l1 : Int) (s0 : jl_Mm) : jl_O :=
  jl_bd (jf_X12_asksSign (40 : Int) s0) fun r31 s32 => jf_X12_qPartTold_B183 (R2) l1 s32
set_option maxRecDepth 20000 in
set_option maxHeartbeats 2000000 in
theorem jj_X12_qPartTold_B144 (G : jl_GC) (R2 : Int → jl_Mm → jl_O) (hR2 : ∀ (l1 : Int) (_hl1 : jl_n3 l1) (s0 : jl_Mm), j2 G jM_X12_qPartTold 2 [(0, jl_vr G 206), (1, jl_vi l1)] [] s0 (R2 l1 s0)) (l1 : Int) (hl1 : jl_n3 l1) (s0 : jl_Mm) : j2 G jM_X12_qPartTold 144 [(0, jl_vr G 206), (1, jl_vi l1)] [] s0 (jf_X12_qPartTold_B144 R2 l1 s0) := by
  refine jr_aload_n dX12_qPartTold_144 0 rfl ?_
  refine jr_bipush dX12_qPartTold_145 (by decide) ?_
  refine j2_callVv (As := [jl_vi (40 : Int)]) dX12_qPartTold_147 (jt_X12_asksSign G (40 : Int) (jl_nlit rfl) s0) jv_X12_asksSign ⟨rfl, rfl, rfl⟩ jw_1591 jk_206 (by decide) (by decide) rfl ⟨Nat.le_of_ble_eq_true rfl, Nat.le_of_ble_eq_true rfl⟩ rfl (Nat.le_of_ble_eq_true rfl) (fun r31 s32 hr31 => ?_)
  refine jr_goto (t := 183) dX12_qPartTold_150 (by decide) ?_
  exact jj_X12_qPartTold_B183 G (R2) (hR2) l1 hl1 s32
def jf_X12_qPartTold_B139 (R2 : Int → jl_Mm → jl_O) (l1 : Int) (l5 : Int) (k1 : Int) (s0 : jl_Mm) : jl_O :=
  jl_bd (jf_X12_qOpens k1 l5 s0) fun r34 s35 => jf_X12_qPartTold_B144 (R2) l1 s35
set_option maxRecDepth 20000 in
set_option maxHeartbeats 2000000 in
theorem jj_X12_qPartTold_B139 (G : jl_GC) (R2 : Int → jl_Mm → jl_O) (hR2 : ∀ (l1 : Int) (_hl1 : jl_n3 l1) (s0 : jl_Mm), j2 G jM_X12_qPartTold 2 [(0, jl_vr G 206), (1, jl_vi l1)] [] s0 (R2 l1 s0)) (l1 : Int) (l5 : Int) (k1 : Int) (hl1 : jl_n3 l1) (hl5 : jl_n3 l5) (hk1 : jl_n3 k1) (s0 : jl_Mm) : j2 G jM_X12_qPartTold 139 [(0, jl_vr G 206), (1, jl_vi l1), (5, jl_vi l5)] [jl_vi k1, jl_vr G 206] s0 (jf_X12_qPartTold_B139 R2 l1 l5 k1 s0) := by
  refine jr_iload dX12_qPartTold_139 2 rfl ?_
  refine j2_callVv (As := [jl_vi k1, jl_vi l5]) dX12_qPartTold_141 (jt_X12_qOpens G k1 l5 hk1 hl5 s0) jv_X12_qOpens ⟨rfl, rfl, rfl⟩ jw_1649 jk_206 (by decide) (by decide) rfl ⟨Nat.le_of_ble_eq_true rfl, Nat.le_of_ble_eq_true rfl⟩ rfl (Nat.le_of_ble_eq_true rfl) (fun r34 s35 hr34 => ?_)
  refine jr_sub [0, 1] rfl ?_
  exact jj_X12_qPartTold_B144 G (R2) (hR2) l1 hl1 s35
def jf_X12_qPartTold_B118 (R2 : Int → jl_Mm → jl_O) (l1 : Int) (l4 : Int) (k0 : Int) (s0 : jl_Mm) : jl_O :=
  if k0 = (-1 : Int) then (jf_X12_qPartTold_B144 (R2) l1 s0) else (if l4 = (0 : Int) then (jf_X12_qPartTold_B139 (R2) l1 k0 (22 : Int) s0) else (jf_X12_qPartTold_B139 (R2) l1 k0 (21 : Int) s0))
set_option maxRecDepth 20000 in
set_option maxHeartbeats 2000000 in
theorem jj_X12_qPartTold_B118 (G : jl_GC) (R2 : Int → jl_Mm → jl_O) (hR2 : ∀ (l1 : Int) (_hl1 : jl_n3 l1) (s0 : jl_Mm), j2 G jM_X12_qPartTold 2 [(0, jl_vr G 206), (1, jl_vi l1)] [] s0 (R2 l1 s0)) (l1 : Int) (l4 : Int) (k0 : Int) (hl1 : jl_n3 l1) (hl4 : jl_n3 l4) (hk0 : jl_n3 k0) (s0 : jl_Mm) : j2 G jM_X12_qPartTold 118 [(0, jl_vr G 206), (1, jl_vi l1), (4, jl_vi l4)] [jl_vi k0] s0 (jf_X12_qPartTold_B118 R2 l1 l4 k0 s0) := by
  refine jr_istore (lv := [(5, jl_vi k0), (0, jl_vr G 206), (1, jl_vi l1), (4, jl_vi l4)]) dX12_qPartTold_118 (Nat.le_of_ble_eq_true rfl) rfl ?_
  refine jr_iload dX12_qPartTold_120 0 rfl ?_
  refine jr_iconst dX12_qPartTold_122 ?_
  refine jr_icmp_eq (t := 144) dX12_qPartTold_123 (by decide) hk0 (jl_nlit rfl) (fun c30 => ?_) (fun c30 => ?_)
  · refine jr_sub [1, 2] rfl ?_
    exact jj_X12_qPartTold_B144 G (R2) (hR2) l1 hl1 s0
  · refine jr_aload_n dX12_qPartTold_126 1 rfl ?_
    refine jr_iload dX12_qPartTold_127 3 rfl ?_
    refine jr_if_eq (t := 137) dX12_qPartTold_129 (by decide) hl4 (fun c33 => ?_) (fun c33 => ?_)
    · refine jr_bipush dX12_qPartTold_137 (by decide) ?_
      refine jr_sub [1, 2, 0] rfl ?_
      exact jj_X12_qPartTold_B139 G (R2) (hR2) l1 k0 (22 : Int) hl1 hk0 (jl_nlit rfl) s0
    · refine jr_bipush dX12_qPartTold_132 (by decide) ?_
      refine jr_goto (t := 139) dX12_qPartTold_134 (by decide) ?_
      refine jr_sub [1, 2, 0] rfl ?_
      exact jj_X12_qPartTold_B139 G (R2) (hR2) l1 k0 (21 : Int) hl1 hk0 (jl_nlit rfl) s0
def jf_X12_qPartTold_B101 (R2 : Int → jl_Mm → jl_O) (l1 : Int) (l4 : Int) (s0 : jl_Mm) : jl_O :=
  jl_bd (jf_X12_look s0) fun r27 s28 => if r27 = (40 : Int) then (jf_X12_qPartTold_B118 (R2) l1 l4 (jl_g s28 206 2) s28) else (jf_X12_qPartTold_B118 (R2) l1 l4 (-1 : Int) s28)
set_option maxRecDepth 20000 in
set_option maxHeartbeats 2000000 in
theorem jj_X12_qPartTold_B101 (G : jl_GC) (R2 : Int → jl_Mm → jl_O) (hR2 : ∀ (l1 : Int) (_hl1 : jl_n3 l1) (s0 : jl_Mm), j2 G jM_X12_qPartTold 2 [(0, jl_vr G 206), (1, jl_vi l1)] [] s0 (R2 l1 s0)) (l1 : Int) (l4 : Int) (hl1 : jl_n3 l1) (hl4 : jl_n3 l4) (s0 : jl_Mm) : j2 G jM_X12_qPartTold 101 [(0, jl_vr G 206), (1, jl_vi l1), (4, jl_vi l4)] [] s0 (jf_X12_qPartTold_B101 R2 l1 l4 s0) := by
  refine jr_aload_n dX12_qPartTold_101 0 rfl ?_
  refine j2_callVi (As := []) dX12_qPartTold_102 (jt_X12_look G s0) jv_X12_look ⟨rfl, rfl, rfl⟩ jw_1570 jk_206 (by decide) (by decide) rfl ⟨Nat.le_of_ble_eq_true rfl, Nat.le_of_ble_eq_true rfl⟩ rfl (Nat.le_of_ble_eq_true rfl) (fun r27 s28 hr27 => ?_)
  refine jr_bipush dX12_qPartTold_105 (by decide) ?_
  refine jr_icmp_ne (t := 117) dX12_qPartTold_107 (by decide) hr27 (jl_nlit rfl) (fun c29 => ?_) (fun c29 => ?_)
  · refine jr_aload_n dX12_qPartTold_110 0 rfl ?_
    refine jr_geti (i := 2) jc_12 jk_206 (by decide) (Nat.le_of_ble_eq_true rfl) jlk_206_2 jft_12_2 jw_1207 dX12_qPartTold_111 ?_
    refine jr_goto (t := 118) dX12_qPartTold_114 (by decide) ?_
    exact jj_X12_qPartTold_B118 G (R2) (hR2) l1 l4 (jl_g s28 206 2) hl1 hl4 (jl_n3_to _) s28
  · refine jr_iconst dX12_qPartTold_117 ?_
    exact jj_X12_qPartTold_B118 G (R2) (hR2) l1 l4 (-1 : Int) hl1 hl4 (jl_nlit rfl) s28
def jf_X12_qPartTold_B78 (R2 : Int → jl_Mm → jl_O) (l1 : Int) (s0 : jl_Mm) : jl_O :=
  jl_bd (jf_X12_takes 268 s0) fun r24 s25 => if r24 = (0 : Int) then (jl_bd (jf_X12_asks 269 s25) fun r36 s37 => jf_X12_qPartTold_B101 (R2) l1 r24 s37) else (jf_X12_qPartTold_B101 (R2) l1 r24 s25)
set_option maxRecDepth 20000 in
set_option maxHeartbeats 2000000 in
theorem jj_X12_qPartTold_B78 (G : jl_GC) (R2 : Int → jl_Mm → jl_O) (hR2 : ∀ (l1 : Int) (_hl1 : jl_n3 l1) (s0 : jl_Mm), j2 G jM_X12_qPartTold 2 [(0, jl_vr G 206), (1, jl_vi l1)] [] s0 (R2 l1 s0)) (l1 : Int) (hl1 : jl_n3 l1) (s0 : jl_Mm) : j2 G jM_X12_qPartTold 78 [(0, jl_vr G 206), (1, jl_vi l1)] [] s0 (jf_X12_qPartTold_B78 R2 l1 s0) := by
  refine jr_aload_n dX12_qPartTold_78 0 rfl ?_
  refine jr_aload_n dX12_qPartTold_79 0 rfl ?_
  refine jr_getk (i := 85) jc_12 jk_206 (by decide) (Nat.le_of_ble_eq_true rfl) jlk_206_85 jw_1290 dX12_qPartTold_80 ?_
  refine j2_callVz (As := [jl_vr G 268]) dX12_qPartTold_83 (jt_X12_takes G 268 s0) jv_X12_takes ⟨rfl, rfl, rfl⟩ jw_1562 jk_206 (by decide) (by decide) rfl ⟨Nat.le_of_ble_eq_true rfl, Nat.le_of_ble_eq_true rfl⟩ rfl (Nat.le_of_ble_eq_true rfl) (fun r24 s25 hr24 => ?_)
  refine jr_istore (lv := [(4, jl_vi r24), (0, jl_vr G 206), (1, jl_vi l1)]) dX12_qPartTold_86 (Nat.le_of_ble_eq_true rfl) rfl ?_
  refine jr_iload dX12_qPartTold_88 0 rfl ?_
  refine jr_if_ne (t := 101) dX12_qPartTold_90 (by decide) (jl_nz hr24) (fun c26 => ?_) (fun c26 => ?_)
  · refine jr_aload_n dX12_qPartTold_93 1 rfl ?_
    refine jr_aload_n dX12_qPartTold_94 1 rfl ?_
    refine jr_getk (i := 86) jc_12 jk_206 (by decide) (Nat.le_of_ble_eq_true rfl) jlk_206_86 jw_1291 dX12_qPartTold_95 ?_
    refine j2_callVv (As := [jl_vr G 269]) dX12_qPartTold_98 (jt_X12_asks G 269 s25) jv_X12_asks ⟨rfl, rfl, rfl⟩ jw_1558 jk_206 (by decide) (by decide) rfl ⟨Nat.le_of_ble_eq_true rfl, Nat.le_of_ble_eq_true rfl⟩ rfl (Nat.le_of_ble_eq_true rfl) (fun r36 s37 hr36 => ?_)
    refine jr_sub [1, 2, 0] rfl ?_
    exact jj_X12_qPartTold_B101 G (R2) (hR2) l1 r24 hl1 (jl_nz hr24) s37
  · refine jr_sub [1, 2, 0] rfl ?_
    exact jj_X12_qPartTold_B101 G (R2) (hR2) l1 r24 hl1 (jl_nz hr24) s25
def jf_X12_qPartTold_L2 : Nat → Int → jl_Mm → jl_O
  | 0, _, _ => none
  | n + 1, l1, s0 =>
    if l1 = (0 : Int) then (jf_X12_qPartTold_B186 s0) else (if jl_g s0 206 5 = (0 : Int) then (jl_bd (jf_X12_look s0) fun r16 s17 => jl_bd (jf_X12_qWordOf (10 : Int) (12 : Int) s17) fun r18 s19 => if r16 = (40 : Int) then (jl_bd (jf_X12_qOpens (20 : Int) (jl_g s19 206 2) s19) fun r46 s47 => jl_lm (jl_up s47 206 2 (jl_add (jl_g s47 206 2) (1 : Int))) fun s48 => jf_X12_qPartTold_B183 (jf_X12_qPartTold_L2 n) l1 s48) else (jl_bd (jf_X12_isHere 268 s19) fun r21 s22 => if r21 = (0 : Int) then (jl_bd (jf_X12_isHere 269 s22) fun r38 s39 => if r38 = (0 : Int) then (if r18 = (-1 : Int) then (jf_X12_qPartTold_B183 (jf_X12_qPartTold_L2 n) (0 : Int) s39) else (jl_bd (jf_X12_qOpens (jl_sub (jl_add (60 : Int) r18) (10 : Int)) (jl_g s39 206 2) s39) fun r42 s43 => jl_bd (jf_X12_qAsksWord r18 s43) fun r44 s45 => jf_X12_qPartTold_B183 (jf_X12_qPartTold_L2 n) l1 s45)) else (jf_X12_qPartTold_B78 (jf_X12_qPartTold_L2 n) l1 s39)) else (jf_X12_qPartTold_B78 (jf_X12_qPartTold_L2 n) l1 s22))) else (jf_X12_qPartTold_B186 s0))
set_option maxRecDepth 20000 in
set_option maxHeartbeats 2000000 in
theorem jj_X12_qPartTold_L2 (G : jl_GC) : ∀ (n : Nat) (l1 : Int) (hl1 : jl_n3 l1) (s0 : jl_Mm), j2 G jM_X12_qPartTold 2 [(0, jl_vr G 206), (1, jl_vi l1)] [] s0 (jf_X12_qPartTold_L2 n l1 s0) := by
  intro n
  induction n with
  | zero =>
    intros
    exact jr_none
  | succ n ih =>
    intro l1 hl1 s0
    refine jr_iload_n dX12_qPartTold_2 1 rfl ?_
    refine jr_if_eq (t := 186) dX12_qPartTold_3 (by decide) hl1 (fun c1 => ?_) (fun c1 => ?_)
    · refine jr_sub [0] rfl ?_
      exact jj_X12_qPartTold_B186 G s0
    · refine jr_aload_n dX12_qPartTold_6 0 rfl ?_
      refine jr_geti (i := 5) jc_12 jk_206 (by decide) (Nat.le_of_ble_eq_true rfl) jlk_206_5 jft_12_5 jw_1210 dX12_qPartTold_7 ?_
      refine jr_if_ne (t := 186) dX12_qPartTold_10 (by decide) (jl_n3_to _) (fun c15 => ?_) (fun c15 => ?_)
      · refine jr_aload_n dX12_qPartTold_13 0 rfl ?_
        refine j2_callVi (As := []) dX12_qPartTold_14 (jt_X12_look G s0) jv_X12_look ⟨rfl, rfl, rfl⟩ jw_1570 jk_206 (by decide) (by decide) rfl ⟨Nat.le_of_ble_eq_true rfl, Nat.le_of_ble_eq_true rfl⟩ rfl (Nat.le_of_ble_eq_true rfl) (fun r16 s17 hr16 => ?_)
        refine jr_istore_n (lv := [(2, jl_vi r16), (0, jl_vr G 206), (1, jl_vi l1)]) dX12_qPartTold_17 rfl (Nat.le_of_ble_eq_true rfl) rfl ?_
        refine jr_aload_n dX12_qPartTold_18 1 rfl ?_
        refine jr_bipush dX12_qPartTold_19 (by decide) ?_
        refine jr_bipush dX12_qPartTold_21 (by decide) ?_
        refine j2_callVi (As := [jl_vi (10 : Int), jl_vi (12 : Int)]) dX12_qPartTold_23 (jt_X12_qWordOf G (10 : Int) (12 : Int) (jl_nlit rfl) (jl_nlit rfl) s17) jv_X12_qWordOf ⟨rfl, rfl, rfl⟩ jw_1669 jk_206 (by decide) (by decide) rfl ⟨Nat.le_of_ble_eq_true rfl, Nat.le_of_ble_eq_true rfl⟩ rfl (Nat.le_of_ble_eq_true rfl) (fun r18 s19 hr18 => ?_)
        refine jr_istore_n (lv := [(3, jl_vi r18), (2, jl_vi r16), (0, jl_vr G 206), (1, jl_vi l1)]) dX12_qPartTold_26 rfl (Nat.le_of_ble_eq_true rfl) rfl ?_
        refine jr_iload_n dX12_qPartTold_27 1 rfl ?_
        refine jr_bipush dX12_qPartTold_28 (by decide) ?_
        refine jr_icmp_ne (t := 56) dX12_qPartTold_30 (by decide) hr16 (jl_nlit rfl) (fun c20 => ?_) (fun c20 => ?_)
        · refine jr_aload_n dX12_qPartTold_33 2 rfl ?_
          refine jr_bipush dX12_qPartTold_34 (by decide) ?_
          refine jr_aload_n dX12_qPartTold_36 2 rfl ?_
          refine jr_geti (i := 2) jc_12 jk_206 (by decide) (Nat.le_of_ble_eq_true rfl) jlk_206_2 jft_12_2 jw_1207 dX12_qPartTold_37 ?_
          refine j2_callVv (As := [jl_vi (20 : Int), jl_vi (jl_g s19 206 2)]) dX12_qPartTold_40 (jt_X12_qOpens G (20 : Int) (jl_g s19 206 2) (jl_nlit rfl) (jl_n3_to _) s19) jv_X12_qOpens ⟨rfl, rfl, rfl⟩ jw_1649 jk_206 (by decide) (by decide) rfl ⟨Nat.le_of_ble_eq_true rfl, Nat.le_of_ble_eq_true rfl⟩ rfl (Nat.le_of_ble_eq_true rfl) (fun r46 s47 hr46 => ?_)
          refine jr_aload_n dX12_qPartTold_43 2 rfl ?_
          refine jr_dup dX12_qPartTold_44 rfl ?_
          refine jr_geti (i := 2) jc_12 jk_206 (by decide) (Nat.le_of_ble_eq_true rfl) jlk_206_2 jft_12_2 jw_1207 dX12_qPartTold_45 ?_
          refine jr_iconst dX12_qPartTold_48 ?_
          refine jr_iadd dX12_qPartTold_49 ?_
          refine jr_puti (i := 2) jc_12 jk_206 (by decide) (Nat.le_of_ble_eq_true rfl) jlk_206_2 jft_12_2 rfl jw_1207 rfl dX12_qPartTold_50 ?_
          refine jr_lm (fun s48 => ?_)
          refine jr_goto (t := 183) dX12_qPartTold_53 (by decide) ?_
          refine jr_sub [2, 3] rfl ?_
          exact jj_X12_qPartTold_B183 G (jf_X12_qPartTold_L2 n) (ih) l1 hl1 s48
        · refine jr_aload_n dX12_qPartTold_56 2 rfl ?_
          refine jr_aload_n dX12_qPartTold_57 2 rfl ?_
          refine jr_getk (i := 85) jc_12 jk_206 (by decide) (Nat.le_of_ble_eq_true rfl) jlk_206_85 jw_1290 dX12_qPartTold_58 ?_
          refine j2_callVz (As := [jl_vr G 268]) dX12_qPartTold_61 (jt_X12_isHere G 268 s19) jv_X12_isHere ⟨rfl, rfl, rfl⟩ jw_1566 jk_206 (by decide) (by decide) rfl ⟨Nat.le_of_ble_eq_true rfl, Nat.le_of_ble_eq_true rfl⟩ rfl (Nat.le_of_ble_eq_true rfl) (fun r21 s22 hr21 => ?_)
          refine jr_if_ne (t := 78) dX12_qPartTold_64 (by decide) (jl_nz hr21) (fun c23 => ?_) (fun c23 => ?_)
          · refine jr_aload_n dX12_qPartTold_67 2 rfl ?_
            refine jr_aload_n dX12_qPartTold_68 2 rfl ?_
            refine jr_getk (i := 86) jc_12 jk_206 (by decide) (Nat.le_of_ble_eq_true rfl) jlk_206_86 jw_1291 dX12_qPartTold_69 ?_
            refine j2_callVz (As := [jl_vr G 269]) dX12_qPartTold_72 (jt_X12_isHere G 269 s22) jv_X12_isHere ⟨rfl, rfl, rfl⟩ jw_1566 jk_206 (by decide) (by decide) rfl ⟨Nat.le_of_ble_eq_true rfl, Nat.le_of_ble_eq_true rfl⟩ rfl (Nat.le_of_ble_eq_true rfl) (fun r38 s39 hr38 => ?_)
            refine jr_if_eq (t := 153) dX12_qPartTold_75 (by decide) (jl_nz hr38) (fun c40 => ?_) (fun c40 => ?_)
            · refine jr_iload_n dX12_qPartTold_153 0 rfl ?_
              refine jr_iconst dX12_qPartTold_154 ?_
              refine jr_icmp_eq (t := 181) dX12_qPartTold_155 (by decide) hr18 (jl_nlit rfl) (fun c41 => ?_) (fun c41 => ?_)
              · refine jr_iconst dX12_qPartTold_181 ?_
                refine jr_istore_n (lv := [(1, jl_vi (0 : Int)), (3, jl_vi r18), (2, jl_vi r16), (0, jl_vr G 206)]) dX12_qPartTold_182 rfl (Nat.le_of_ble_eq_true rfl) rfl ?_
                refine jr_sub [3, 0] rfl ?_
                exact jj_X12_qPartTold_B183 G (jf_X12_qPartTold_L2 n) (ih) (0 : Int) (jl_nlit rfl) s39
              · refine jr_aload_n dX12_qPartTold_158 2 rfl ?_
                refine jr_bipush dX12_qPartTold_159 (by decide) ?_
                refine jr_iload_n dX12_qPartTold_161 0 rfl ?_
                refine jr_iadd dX12_qPartTold_162 ?_
                refine jr_bipush dX12_qPartTold_163 (by decide) ?_
                refine jr_isub dX12_qPartTold_165 ?_
                refine jr_aload_n dX12_qPartTold_166 2 rfl ?_
                refine jr_geti (i := 2) jc_12 jk_206 (by decide) (Nat.le_of_ble_eq_true rfl) jlk_206_2 jft_12_2 jw_1207 dX12_qPartTold_167 ?_
                refine j2_callVv (As := [jl_vi (jl_sub (jl_add (60 : Int) r18) (10 : Int)), jl_vi (jl_g s39 206 2)]) dX12_qPartTold_170 (jt_X12_qOpens G (jl_sub (jl_add (60 : Int) r18) (10 : Int)) (jl_g s39 206 2) (jl_n3_to _) (jl_n3_to _) s39) jv_X12_qOpens ⟨rfl, rfl, rfl⟩ jw_1649 jk_206 (by decide) (by decide) rfl ⟨Nat.le_of_ble_eq_true rfl, Nat.le_of_ble_eq_true rfl⟩ rfl (Nat.le_of_ble_eq_true rfl) (fun r42 s43 hr42 => ?_)
                refine jr_aload_n dX12_qPartTold_173 2 rfl ?_
                refine jr_iload_n dX12_qPartTold_174 0 rfl ?_
                refine j2_callVv (As := [jl_vi r18]) dX12_qPartTold_175 (jt_X12_qAsksWord G r18 hr18 s43) jv_X12_qAsksWord ⟨rfl, rfl, rfl⟩ jw_1684 jk_206 (by decide) (by decide) rfl ⟨Nat.le_of_ble_eq_true rfl, Nat.le_of_ble_eq_true rfl⟩ rfl (Nat.le_of_ble_eq_true rfl) (fun r44 s45 hr44 => ?_)
                refine jr_goto (t := 183) dX12_qPartTold_178 (by decide) ?_
                refine jr_sub [2, 3] rfl ?_
                exact jj_X12_qPartTold_B183 G (jf_X12_qPartTold_L2 n) (ih) l1 hl1 s45
            · refine jr_sub [2, 3] rfl ?_
              exact jj_X12_qPartTold_B78 G (jf_X12_qPartTold_L2 n) (ih) l1 hl1 s39
          · refine jr_sub [2, 3] rfl ?_
            exact jj_X12_qPartTold_B78 G (jf_X12_qPartTold_L2 n) (ih) l1 hl1 s22
      · refine jr_sub [0] rfl ?_
        exact jj_X12_qPartTold_B186 G s0
def jf_X12_qPartTold (s0 : jl_Mm) : jl_O :=
  jf_X12_qPartTold_L2 jl_fu (1 : Int) s0
set_option maxRecDepth 20000 in
set_option maxHeartbeats 2000000 in
theorem jt_X12_qPartTold (G : jl_GC) (s0 : jl_Mm) : jC2 G jM_X12_qPartTold [jl_vr G 206] s0 (jf_X12_qPartTold s0) := by
  refine jl_met (plainFor_of_name rfl) (Nat.le_of_ble_eq_true rfl) ?_
  show j2 G jM_X12_qPartTold 0 [(0, jl_vr G 206)] [] s0 _
  refine jr_iconst dX12_qPartTold_0 ?_
  refine jr_istore_n (lv := [(1, jl_vi (1 : Int)), (0, jl_vr G 206)]) dX12_qPartTold_1 rfl (Nat.le_of_ble_eq_true rfl) rfl ?_
  refine jr_sub [1, 0] rfl ?_
  exact jj_X12_qPartTold_L2 G jl_fu (1 : Int) (jl_nlit rfl) s0
def jf_X12_qSums_B78 (l1 : Int) (s0 : jl_Mm) : jl_O :=
  jl_lm (jl_up s0 206 104 l1) fun s5 => some (0, s5)
set_option maxRecDepth 20000 in
set_option maxHeartbeats 2000000 in
theorem jj_X12_qSums_B78 (G : jl_GC) (l1 : Int) (hl1 : jl_n3 l1) (s0 : jl_Mm) : j2 G jM_X12_qSums 78 [(0, jl_vr G 206), (1, jl_vi l1)] [] s0 (jf_X12_qSums_B78 l1 s0) := by
  refine jr_aload_n dX12_qSums_78 0 rfl ?_
  refine jr_iload_n dX12_qSums_79 1 rfl ?_
  refine jr_puti (i := 104) jc_12 jk_206 (by decide) (Nat.le_of_ble_eq_true rfl) jlk_206_104 jft_12_104 rfl jw_1309 rfl dX12_qSums_80 ?_
  refine jr_lm (fun s5 => ?_)
  exact jr_ret_v rfl dX12_qSums_83
def jf_X12_qSums_L53 : Nat → Int → jl_Mm → jl_O
  | 0, _, _ => none
  | n + 1, l1, s0 =>
    if jl_g s0 206 5 = (0 : Int) then (if jl_g s0 206 102 ≤ jl_g s0 206 104 then (jf_X12_qSums_B78 l1 s0) else (jl_bd (jf_X12_qDrops s0) fun r7 s8 => jf_X12_qSums_L53 n l1 s8)) else (jf_X12_qSums_B78 l1 s0)
set_option maxRecDepth 20000 in
set_option maxHeartbeats 2000000 in
theorem jj_X12_qSums_L53 (G : jl_GC) : ∀ (n : Nat) (l1 : Int) (hl1 : jl_n3 l1) (s0 : jl_Mm), j2 G jM_X12_qSums 53 [(0, jl_vr G 206), (1, jl_vi l1)] [] s0 (jf_X12_qSums_L53 n l1 s0) := by
  intro n
  induction n with
  | zero =>
    intros
    exact jr_none
  | succ n ih =>
    intro l1 hl1 s0
    refine jr_aload_n dX12_qSums_53 0 rfl ?_
    refine jr_geti (i := 5) jc_12 jk_206 (by decide) (Nat.le_of_ble_eq_true rfl) jlk_206_5 jft_12_5 jw_1210 dX12_qSums_54 ?_
    refine jr_if_ne (t := 78) dX12_qSums_57 (by decide) (jl_n3_to _) (fun c4 => ?_) (fun c4 => ?_)
    · refine jr_aload_n dX12_qSums_60 0 rfl ?_
      refine jr_geti (i := 102) jc_12 jk_206 (by decide) (Nat.le_of_ble_eq_true rfl) jlk_206_102 jft_12_102 jw_1307 dX12_qSums_61 ?_
      refine jr_aload_n dX12_qSums_64 0 rfl ?_
      refine jr_geti (i := 104) jc_12 jk_206 (by decide) (Nat.le_of_ble_eq_true rfl) jlk_206_104 jft_12_104 jw_1309 dX12_qSums_65 ?_
      refine jr_icmp_le (t := 78) dX12_qSums_68 (by decide) (jl_n3_to _) (jl_n3_to _) (fun c6 => ?_) (fun c6 => ?_)
      · exact jj_X12_qSums_B78 G l1 hl1 s0
      · refine jr_aload_n dX12_qSums_71 0 rfl ?_
        refine j2_callVv (As := []) dX12_qSums_72 (jt_X12_qDrops G s0) jv_X12_qDrops ⟨rfl, rfl, rfl⟩ jw_1692 jk_206 (by decide) (by decide) rfl ⟨Nat.le_of_ble_eq_true rfl, Nat.le_of_ble_eq_true rfl⟩ rfl (Nat.le_of_ble_eq_true rfl) (fun r7 s8 hr7 => ?_)
        refine jr_goto (t := 53) dX12_qSums_75 (by decide) ?_
        exact ih l1 hl1 s8
    · exact jj_X12_qSums_B78 G l1 hl1 s0
def jf_X12_qSums_B49 (R15 : Int → Int → jl_Mm → jl_O) (l1 : Int) (k0 : Int) (s0 : jl_Mm) : jl_O :=
  R15 l1 k0 s0
set_option maxRecDepth 20000 in
set_option maxHeartbeats 2000000 in
theorem jj_X12_qSums_B49 (G : jl_GC) (R15 : Int → Int → jl_Mm → jl_O) (hR15 : ∀ (l1 : Int) (l2 : Int) (_hl1 : jl_n3 l1) (_hl2 : jl_n3 l2) (s0 : jl_Mm), j2 G jM_X12_qSums 15 [(0, jl_vr G 206), (1, jl_vi l1), (2, jl_vi l2)] [] s0 (R15 l1 l2 s0)) (l1 : Int) (k0 : Int) (hl1 : jl_n3 l1) (hk0 : jl_n3 k0) (s0 : jl_Mm) : j2 G jM_X12_qSums 49 [(0, jl_vr G 206), (1, jl_vi l1)] [jl_vi k0] s0 (jf_X12_qSums_B49 R15 l1 k0 s0) := by
  refine jr_istore_n (lv := [(2, jl_vi k0), (0, jl_vr G 206), (1, jl_vi l1)]) dX12_qSums_49 rfl (Nat.le_of_ble_eq_true rfl) rfl ?_
  refine jr_goto (t := 15) dX12_qSums_50 (by decide) ?_
  refine jr_sub [1, 2, 0] rfl ?_
  exact hR15 l1 k0 hl1 hk0 s0
def jf_X12_qSums_B48 (R15 : Int → Int → jl_Mm → jl_O) (l1 : Int) (s0 : jl_Mm) : jl_O :=
  jf_X12_qSums_B49 (R15) l1 (0 : Int) s0
set_option maxRecDepth 20000 in
set_option maxHeartbeats 2000000 in
theorem jj_X12_qSums_B48 (G : jl_GC) (R15 : Int → Int → jl_Mm → jl_O) (hR15 : ∀ (l1 : Int) (l2 : Int) (_hl1 : jl_n3 l1) (_hl2 : jl_n3 l2) (s0 : jl_Mm), j2 G jM_X12_qSums 15 [(0, jl_vr G 206), (1, jl_vi l1), (2, jl_vi l2)] [] s0 (R15 l1 l2 s0)) (l1 : Int) (hl1 : jl_n3 l1) (s0 : jl_Mm) : j2 G jM_X12_qSums 48 [(0, jl_vr G 206), (1, jl_vi l1)] [] s0 (jf_X12_qSums_B48 R15 l1 s0) := by
  refine jr_iconst dX12_qSums_48 ?_
  exact jj_X12_qSums_B49 G (R15) (hR15) l1 (0 : Int) hl1 (jl_nlit rfl) s0
def jf_X12_qSums_L15 : Nat → Int → Int → jl_Mm → jl_O
  | 0, _, _, _ => none
  | n + 1, l1, l2, s0 =>
    if l2 = (0 : Int) then (jf_X12_qSums_L53 jl_fu l1 s0) else (if jl_g s0 206 5 = (0 : Int) then (jl_bd (jf_X12_qPartTold s0) fun r10 s11 => if jl_g s11 206 5 = (0 : Int) then (jl_bd (jf_X12_qGoesOn s11) fun r13 s14 => if r13 = (0 : Int) then (jf_X12_qSums_B48 (jf_X12_qSums_L15 n) l1 s14) else (jf_X12_qSums_B49 (jf_X12_qSums_L15 n) l1 (1 : Int) s14)) else (jf_X12_qSums_B48 (jf_X12_qSums_L15 n) l1 s11)) else (jf_X12_qSums_L53 jl_fu l1 s0))
set_option maxRecDepth 20000 in
set_option maxHeartbeats 2000000 in
theorem jj_X12_qSums_L15 (G : jl_GC) : ∀ (n : Nat) (l1 : Int) (l2 : Int) (hl1 : jl_n3 l1) (hl2 : jl_n3 l2) (s0 : jl_Mm), j2 G jM_X12_qSums 15 [(0, jl_vr G 206), (1, jl_vi l1), (2, jl_vi l2)] [] s0 (jf_X12_qSums_L15 n l1 l2 s0) := by
  intro n
  induction n with
  | zero =>
    intros
    exact jr_none
  | succ n ih =>
    intro l1 l2 hl1 hl2 s0
    refine jr_iload_n dX12_qSums_15 2 rfl ?_
    refine jr_if_eq (t := 53) dX12_qSums_16 (by decide) hl2 (fun c3 => ?_) (fun c3 => ?_)
    · refine jr_sub [0, 1] rfl ?_
      exact jj_X12_qSums_L53 G jl_fu l1 hl1 s0
    · refine jr_aload_n dX12_qSums_19 0 rfl ?_
      refine jr_geti (i := 5) jc_12 jk_206 (by decide) (Nat.le_of_ble_eq_true rfl) jlk_206_5 jft_12_5 jw_1210 dX12_qSums_20 ?_
      refine jr_if_ne (t := 53) dX12_qSums_23 (by decide) (jl_n3_to _) (fun c9 => ?_) (fun c9 => ?_)
      · refine jr_aload_n dX12_qSums_26 0 rfl ?_
        refine j2_callVv (As := []) dX12_qSums_27 (jt_X12_qPartTold G s0) jv_X12_qPartTold ⟨rfl, rfl, rfl⟩ jw_1665 jk_206 (by decide) (by decide) rfl ⟨Nat.le_of_ble_eq_true rfl, Nat.le_of_ble_eq_true rfl⟩ rfl (Nat.le_of_ble_eq_true rfl) (fun r10 s11 hr10 => ?_)
        refine jr_aload_n dX12_qSums_30 0 rfl ?_
        refine jr_geti (i := 5) jc_12 jk_206 (by decide) (Nat.le_of_ble_eq_true rfl) jlk_206_5 jft_12_5 jw_1210 dX12_qSums_31 ?_
        refine jr_if_ne (t := 48) dX12_qSums_34 (by decide) (jl_n3_to _) (fun c12 => ?_) (fun c12 => ?_)
        · refine jr_aload_n dX12_qSums_37 0 rfl ?_
          refine j2_callVz (As := []) dX12_qSums_38 (jt_X12_qGoesOn G s11) jv_X12_qGoesOn ⟨rfl, rfl, rfl⟩ jw_1696 jk_206 (by decide) (by decide) rfl ⟨Nat.le_of_ble_eq_true rfl, Nat.le_of_ble_eq_true rfl⟩ rfl (Nat.le_of_ble_eq_true rfl) (fun r13 s14 hr13 => ?_)
          refine jr_if_eq (t := 48) dX12_qSums_41 (by decide) (jl_nz hr13) (fun c15 => ?_) (fun c15 => ?_)
          · refine jr_sub [0, 1] rfl ?_
            exact jj_X12_qSums_B48 G (jf_X12_qSums_L15 n) (ih) l1 hl1 s14
          · refine jr_iconst dX12_qSums_44 ?_
            refine jr_goto (t := 49) dX12_qSums_45 (by decide) ?_
            refine jr_sub [0, 1] rfl ?_
            exact jj_X12_qSums_B49 G (jf_X12_qSums_L15 n) (ih) l1 (1 : Int) hl1 (jl_nlit rfl) s14
        · refine jr_sub [0, 1] rfl ?_
          exact jj_X12_qSums_B48 G (jf_X12_qSums_L15 n) (ih) l1 hl1 s11
      · refine jr_sub [0, 1] rfl ?_
        exact jj_X12_qSums_L53 G jl_fu l1 hl1 s0
def jf_X12_qSums (s0 : jl_Mm) : jl_O :=
  jl_let (jl_g s0 206 104) fun x1 => jl_lm (jl_up s0 206 104 (jl_g s0 206 102)) fun s2 => jf_X12_qSums_L15 jl_fu x1 (1 : Int) s2
set_option maxRecDepth 20000 in
set_option maxHeartbeats 2000000 in
theorem jt_X12_qSums (G : jl_GC) (s0 : jl_Mm) : jC2 G jM_X12_qSums [jl_vr G 206] s0 (jf_X12_qSums s0) := by
  refine jl_met (plainFor_of_name rfl) (Nat.le_of_ble_eq_true rfl) ?_
  show j2 G jM_X12_qSums 0 [(0, jl_vr G 206)] [] s0 _
  refine jr_aload_n dX12_qSums_0 0 rfl ?_
  refine jr_geti (i := 104) jc_12 jk_206 (by decide) (Nat.le_of_ble_eq_true rfl) jlk_206_104 jft_12_104 jw_1309 dX12_qSums_1 ?_
  refine jr_let (jl_n3_to _) (fun x1 hx1 => ?_)
  refine jr_istore_n (lv := [(1, jl_vi x1), (0, jl_vr G 206)]) dX12_qSums_4 rfl (Nat.le_of_ble_eq_true rfl) rfl ?_
  refine jr_aload_n dX12_qSums_5 1 rfl ?_
  refine jr_aload_n dX12_qSums_6 1 rfl ?_
  refine jr_geti (i := 102) jc_12 jk_206 (by decide) (Nat.le_of_ble_eq_true rfl) jlk_206_102 jft_12_102 jw_1307 dX12_qSums_7 ?_
  refine jr_puti (i := 104) jc_12 jk_206 (by decide) (Nat.le_of_ble_eq_true rfl) jlk_206_104 jft_12_104 rfl jw_1309 rfl dX12_qSums_10 ?_
  refine jr_lm (fun s2 => ?_)
  refine jr_iconst dX12_qSums_13 ?_
  refine jr_istore_n (lv := [(2, jl_vi (1 : Int)), (1, jl_vi x1), (0, jl_vr G 206)]) dX12_qSums_14 rfl (Nat.le_of_ble_eq_true rfl) rfl ?_
  refine jr_sub [2, 1, 0] rfl ?_
  exact jj_X12_qSums_L15 G jl_fu x1 (1 : Int) hx1 (jl_nlit rfl) s2
def jf_X12_qDropsNots_B33 (s0 : jl_Mm) : jl_O :=
  some (0, s0)
set_option maxRecDepth 20000 in
set_option maxHeartbeats 2000000 in
theorem jj_X12_qDropsNots_B33 (G : jl_GC) (s0 : jl_Mm) : j2 G jM_X12_qDropsNots 33 [] [] s0 (jf_X12_qDropsNots_B33 s0) := by
  exact jr_ret_v rfl dX12_qDropsNots_33
def jf_X12_qDropsNots_L0 : Nat → jl_Mm → jl_O
  | 0, _ => none
  | n + 1, s0 =>
    if jl_g s0 206 5 = (0 : Int) then (jl_bd (jf_X12_qIsOn (12 : Int) s0) fun r2 s3 => if r2 = (0 : Int) then (jf_X12_qDropsNots_B33 s3) else (jl_lm (jl_up s3 206 103 (jl_sub (jl_g s3 206 103) (1 : Int))) fun s5 => jl_bd (jf_X12_qDrops s5) fun r6 s7 => jf_X12_qDropsNots_L0 n s7)) else (jf_X12_qDropsNots_B33 s0)
set_option maxRecDepth 20000 in
set_option maxHeartbeats 2000000 in
theorem jj_X12_qDropsNots_L0 (G : jl_GC) : ∀ (n : Nat) (s0 : jl_Mm), j2 G jM_X12_qDropsNots 0 [(0, jl_vr G 206)] [] s0 (jf_X12_qDropsNots_L0 n s0) := by
  intro n
  induction n with
  | zero =>
    intros
    exact jr_none
  | succ n ih =>
    intro s0
    refine jr_aload_n dX12_qDropsNots_0 0 rfl ?_
    refine jr_geti (i := 5) jc_12 jk_206 (by decide) (Nat.le_of_ble_eq_true rfl) jlk_206_5 jft_12_5 jw_1210 dX12_qDropsNots_1 ?_
    refine jr_if_ne (t := 33) dX12_qDropsNots_4 (by decide) (jl_n3_to _) (fun c1 => ?_) (fun c1 => ?_)
    · refine jr_aload_n dX12_qDropsNots_7 0 rfl ?_
      refine jr_bipush dX12_qDropsNots_8 (by decide) ?_
      refine j2_callVz (As := [jl_vi (12 : Int)]) dX12_qDropsNots_10 (jt_X12_qIsOn G (12 : Int) (jl_nlit rfl) s0) jv_X12_qIsOn ⟨rfl, rfl, rfl⟩ jw_1711 jk_206 (by decide) (by decide) rfl ⟨Nat.le_of_ble_eq_true rfl, Nat.le_of_ble_eq_true rfl⟩ rfl (Nat.le_of_ble_eq_true rfl) (fun r2 s3 hr2 => ?_)
      refine jr_if_eq (t := 33) dX12_qDropsNots_13 (by decide) (jl_nz hr2) (fun c4 => ?_) (fun c4 => ?_)
      · refine jr_sub [] rfl ?_
        exact jj_X12_qDropsNots_B33 G s3
      · refine jr_aload_n dX12_qDropsNots_16 0 rfl ?_
        refine jr_dup dX12_qDropsNots_17 rfl ?_
        refine jr_geti (i := 103) jc_12 jk_206 (by decide) (Nat.le_of_ble_eq_true rfl) jlk_206_103 jft_12_103 jw_1308 dX12_qDropsNots_18 ?_
        refine jr_iconst dX12_qDropsNots_21 ?_
        refine jr_isub dX12_qDropsNots_22 ?_
        refine jr_puti (i := 103) jc_12 jk_206 (by decide) (Nat.le_of_ble_eq_true rfl) jlk_206_103 jft_12_103 rfl jw_1308 rfl dX12_qDropsNots_23 ?_
        refine jr_lm (fun s5 => ?_)
        refine jr_aload_n dX12_qDropsNots_26 0 rfl ?_
        refine j2_callVv (As := []) dX12_qDropsNots_27 (jt_X12_qDrops G s5) jv_X12_qDrops ⟨rfl, rfl, rfl⟩ jw_1692 jk_206 (by decide) (by decide) rfl ⟨Nat.le_of_ble_eq_true rfl, Nat.le_of_ble_eq_true rfl⟩ rfl (Nat.le_of_ble_eq_true rfl) (fun r6 s7 hr6 => ?_)
        refine jr_goto (t := 0) dX12_qDropsNots_30 (by decide) ?_
        exact ih s7
    · refine jr_sub [] rfl ?_
      exact jj_X12_qDropsNots_B33 G s0
def jf_X12_qDropsNots (s0 : jl_Mm) : jl_O :=
  jf_X12_qDropsNots_L0 jl_fu s0
set_option maxRecDepth 20000 in
set_option maxHeartbeats 2000000 in
theorem jt_X12_qDropsNots (G : jl_GC) (s0 : jl_Mm) : jC2 G jM_X12_qDropsNots [jl_vr G 206] s0 (jf_X12_qDropsNots s0) := by
  refine jl_met (plainFor_of_name rfl) (Nat.le_of_ble_eq_true rfl) ?_
  show j2 G jM_X12_qDropsNots 0 [(0, jl_vr G 206)] [] s0 _
  exact jj_X12_qDropsNots_L0 G jl_fu s0
def jf_X12_qFact_B102 (k1 : Int) (s0 : jl_Mm) : jl_O :=
  jl_bd (jf_X12_qCode k1 s0) fun r15 s16 => some (0, s16)
set_option maxRecDepth 20000 in
set_option maxHeartbeats 2000000 in
theorem jj_X12_qFact_B102 (G : jl_GC) (k1 : Int) (hk1 : jl_n3 k1) (s0 : jl_Mm) : j2 G jM_X12_qFact 102 [] [jl_vi k1, jl_vr G 206] s0 (jf_X12_qFact_B102 k1 s0) := by
  refine j2_callVv (As := [jl_vi k1]) dX12_qFact_102 (jt_X12_qCode G k1 hk1 s0) jv_X12_qCode ⟨rfl, rfl, rfl⟩ jw_1657 jk_206 (by decide) (by decide) rfl ⟨Nat.le_of_ble_eq_true rfl, Nat.le_of_ble_eq_true rfl⟩ rfl (Nat.le_of_ble_eq_true rfl) (fun r15 s16 hr15 => ?_)
  exact jr_ret_v rfl dX12_qFact_105
def jf_X12_qFact_B63 (l1 : Int) (s0 : jl_Mm) : jl_O :=
  jl_lm (jl_up s0 206 2 (jl_add (jl_g s0 206 2) (1 : Int))) fun s10 => jl_bd (jf_X12_qSums s10) fun r11 s12 => if l1 = (60 : Int) then (jf_X12_qFact_B102 (7 : Int) s12) else (if l1 = (62 : Int) then (jf_X12_qFact_B102 (8 : Int) s12) else (jf_X12_qFact_B102 (9 : Int) s12))
set_option maxRecDepth 20000 in
set_option maxHeartbeats 2000000 in
theorem jj_X12_qFact_B63 (G : jl_GC) (l1 : Int) (hl1 : jl_n3 l1) (s0 : jl_Mm) : j2 G jM_X12_qFact 63 [(0, jl_vr G 206), (1, jl_vi l1)] [] s0 (jf_X12_qFact_B63 l1 s0) := by
  refine jr_aload_n dX12_qFact_63 0 rfl ?_
  refine jr_dup dX12_qFact_64 rfl ?_
  refine jr_geti (i := 2) jc_12 jk_206 (by decide) (Nat.le_of_ble_eq_true rfl) jlk_206_2 jft_12_2 jw_1207 dX12_qFact_65 ?_
  refine jr_iconst dX12_qFact_68 ?_
  refine jr_iadd dX12_qFact_69 ?_
  refine jr_puti (i := 2) jc_12 jk_206 (by decide) (Nat.le_of_ble_eq_true rfl) jlk_206_2 jft_12_2 rfl jw_1207 rfl dX12_qFact_70 ?_
  refine jr_lm (fun s10 => ?_)
  refine jr_aload_n dX12_qFact_73 0 rfl ?_
  refine j2_callVv (As := []) dX12_qFact_74 (jt_X12_qSums G s10) jv_X12_qSums ⟨rfl, rfl, rfl⟩ jw_1661 jk_206 (by decide) (by decide) rfl ⟨Nat.le_of_ble_eq_true rfl, Nat.le_of_ble_eq_true rfl⟩ rfl (Nat.le_of_ble_eq_true rfl) (fun r11 s12 hr11 => ?_)
  refine jr_aload_n dX12_qFact_77 0 rfl ?_
  refine jr_iload_n dX12_qFact_78 1 rfl ?_
  refine jr_bipush dX12_qFact_79 (by decide) ?_
  refine jr_icmp_ne (t := 89) dX12_qFact_81 (by decide) hl1 (jl_nlit rfl) (fun c13 => ?_) (fun c13 => ?_)
  · refine jr_bipush dX12_qFact_84 (by decide) ?_
    refine jr_goto (t := 102) dX12_qFact_86 (by decide) ?_
    refine jr_sub [] rfl ?_
    exact jj_X12_qFact_B102 G (7 : Int) (jl_nlit rfl) s12
  · refine jr_iload_n dX12_qFact_89 1 rfl ?_
    refine jr_bipush dX12_qFact_90 (by decide) ?_
    refine jr_icmp_ne (t := 100) dX12_qFact_92 (by decide) hl1 (jl_nlit rfl) (fun c14 => ?_) (fun c14 => ?_)
    · refine jr_bipush dX12_qFact_95 (by decide) ?_
      refine jr_goto (t := 102) dX12_qFact_97 (by decide) ?_
      refine jr_sub [] rfl ?_
      exact jj_X12_qFact_B102 G (8 : Int) (jl_nlit rfl) s12
    · refine jr_bipush dX12_qFact_100 (by decide) ?_
      refine jr_sub [] rfl ?_
      exact jj_X12_qFact_B102 G (9 : Int) (jl_nlit rfl) s12
def jf_X12_qFact (s0 : jl_Mm) : jl_O :=
  jl_bd (jf_X12_takes 267 s0) fun r1 s2 => if r1 = (0 : Int) then (jl_bd (jf_X12_qSums s2) fun r4 s5 => if jl_g s5 206 5 = (0 : Int) then (jl_bd (jf_X12_look s5) fun r7 s8 => if r7 = (60 : Int) then (jf_X12_qFact_B63 r7 s8) else (if r7 = (62 : Int) then (jf_X12_qFact_B63 r7 s8) else (if r7 = (61 : Int) then (jf_X12_qFact_B63 r7 s8) else (jl_bd (jf_X12_fail (1 : Int) (jl_g s8 206 2) s8) fun r19 s20 => some (0, s20))))) else (some (0, s5))) else (jl_bd (jf_X12_qCode (13 : Int) s2) fun r21 s22 => some (0, s22))
set_option maxRecDepth 20000 in
set_option maxHeartbeats 2000000 in
theorem jt_X12_qFact (G : jl_GC) (s0 : jl_Mm) : jC2 G jM_X12_qFact [jl_vr G 206] s0 (jf_X12_qFact s0) := by
  refine jl_met (plainFor_of_name rfl) (Nat.le_of_ble_eq_true rfl) ?_
  show j2 G jM_X12_qFact 0 [(0, jl_vr G 206)] [] s0 _
  refine jr_aload_n dX12_qFact_0 0 rfl ?_
  refine jr_aload_n dX12_qFact_1 0 rfl ?_
  refine jr_getk (i := 84) jc_12 jk_206 (by decide) (Nat.le_of_ble_eq_true rfl) jlk_206_84 jw_1289 dX12_qFact_2 ?_
  refine j2_callVz (As := [jl_vr G 267]) dX12_qFact_5 (jt_X12_takes G 267 s0) jv_X12_takes ⟨rfl, rfl, rfl⟩ jw_1562 jk_206 (by decide) (by decide) rfl ⟨Nat.le_of_ble_eq_true rfl, Nat.le_of_ble_eq_true rfl⟩ rfl (Nat.le_of_ble_eq_true rfl) (fun r1 s2 hr1 => ?_)
  refine jr_if_eq (t := 18) dX12_qFact_8 (by decide) (jl_nz hr1) (fun c3 => ?_) (fun c3 => ?_)
  · refine jr_aload_n dX12_qFact_18 0 rfl ?_
    refine j2_callVv (As := []) dX12_qFact_19 (jt_X12_qSums G s2) jv_X12_qSums ⟨rfl, rfl, rfl⟩ jw_1661 jk_206 (by decide) (by decide) rfl ⟨Nat.le_of_ble_eq_true rfl, Nat.le_of_ble_eq_true rfl⟩ rfl (Nat.le_of_ble_eq_true rfl) (fun r4 s5 hr4 => ?_)
    refine jr_aload_n dX12_qFact_22 0 rfl ?_
    refine jr_geti (i := 5) jc_12 jk_206 (by decide) (Nat.le_of_ble_eq_true rfl) jlk_206_5 jft_12_5 jw_1210 dX12_qFact_23 ?_
    refine jr_if_eq (t := 30) dX12_qFact_26 (by decide) (jl_n3_to _) (fun c6 => ?_) (fun c6 => ?_)
    · refine jr_aload_n dX12_qFact_30 0 rfl ?_
      refine j2_callVi (As := []) dX12_qFact_31 (jt_X12_look G s5) jv_X12_look ⟨rfl, rfl, rfl⟩ jw_1570 jk_206 (by decide) (by decide) rfl ⟨Nat.le_of_ble_eq_true rfl, Nat.le_of_ble_eq_true rfl⟩ rfl (Nat.le_of_ble_eq_true rfl) (fun r7 s8 hr7 => ?_)
      refine jr_istore_n (lv := [(1, jl_vi r7), (0, jl_vr G 206)]) dX12_qFact_34 rfl (Nat.le_of_ble_eq_true rfl) rfl ?_
      refine jr_iload_n dX12_qFact_35 0 rfl ?_
      refine jr_bipush dX12_qFact_36 (by decide) ?_
      refine jr_icmp_eq (t := 63) dX12_qFact_38 (by decide) hr7 (jl_nlit rfl) (fun c9 => ?_) (fun c9 => ?_)
      · refine jr_sub [1, 0] rfl ?_
        exact jj_X12_qFact_B63 G r7 hr7 s8
      · refine jr_iload_n dX12_qFact_41 0 rfl ?_
        refine jr_bipush dX12_qFact_42 (by decide) ?_
        refine jr_icmp_eq (t := 63) dX12_qFact_44 (by decide) hr7 (jl_nlit rfl) (fun c17 => ?_) (fun c17 => ?_)
        · refine jr_sub [1, 0] rfl ?_
          exact jj_X12_qFact_B63 G r7 hr7 s8
        · refine jr_iload_n dX12_qFact_47 0 rfl ?_
          refine jr_bipush dX12_qFact_48 (by decide) ?_
          refine jr_icmp_eq (t := 63) dX12_qFact_50 (by decide) hr7 (jl_nlit rfl) (fun c18 => ?_) (fun c18 => ?_)
          · refine jr_sub [1, 0] rfl ?_
            exact jj_X12_qFact_B63 G r7 hr7 s8
          · refine jr_aload_n dX12_qFact_53 1 rfl ?_
            refine jr_iconst dX12_qFact_54 ?_
            refine jr_aload_n dX12_qFact_55 1 rfl ?_
            refine jr_geti (i := 2) jc_12 jk_206 (by decide) (Nat.le_of_ble_eq_true rfl) jlk_206_2 jft_12_2 jw_1207 dX12_qFact_56 ?_
            refine j2_callVv (As := [jl_vi (1 : Int), jl_vi (jl_g s8 206 2)]) dX12_qFact_59 (jt_X12_fail G (1 : Int) (jl_g s8 206 2) (jl_nlit rfl) (jl_n3_to _) s8) jv_X12_fail ⟨rfl, rfl, rfl⟩ jw_1577 jk_206 (by decide) (by decide) rfl ⟨Nat.le_of_ble_eq_true rfl, Nat.le_of_ble_eq_true rfl⟩ rfl (Nat.le_of_ble_eq_true rfl) (fun r19 s20 hr19 => ?_)
            exact jr_ret_v rfl dX12_qFact_62
    · exact jr_ret_v rfl dX12_qFact_29
  · refine jr_aload_n dX12_qFact_11 0 rfl ?_
    refine jr_bipush dX12_qFact_12 (by decide) ?_
    refine j2_callVv (As := [jl_vi (13 : Int)]) dX12_qFact_14 (jt_X12_qCode G (13 : Int) (jl_nlit rfl) s2) jv_X12_qCode ⟨rfl, rfl, rfl⟩ jw_1657 jk_206 (by decide) (by decide) rfl ⟨Nat.le_of_ble_eq_true rfl, Nat.le_of_ble_eq_true rfl⟩ rfl (Nat.le_of_ble_eq_true rfl) (fun r21 s22 hr21 => ?_)
    exact jr_ret_v rfl dX12_qFact_17
def jf_X12_qHasSquare_L2 : Nat → Int → jl_Mm → jl_O
  | 0, _, _ => none
  | n + 1, l1, s0 =>
    if jl_g s0 206 102 ≤ l1 then (jl_zb (0 : Int) s0) else (if 0 ≤ l1 ∧ l1 < ((1700 : Nat) : Int) then if jl_g s0 283 (l1).toNat = (25 : Int) then (jl_zb (1 : Int) s0) else (jf_X12_qHasSquare_L2 n (jl_add l1 1) s0) else none)
set_option maxRecDepth 20000 in
set_option maxHeartbeats 2000000 in
theorem jj_X12_qHasSquare_L2 (G : jl_GC) : ∀ (n : Nat) (l1 : Int) (hl1 : jl_n3 l1) (s0 : jl_Mm), j2 G jM_X12_qHasSquare 2 [(0, jl_vr G 206), (1, jl_vi l1)] [] s0 (jf_X12_qHasSquare_L2 n l1 s0) := by
  intro n
  induction n with
  | zero =>
    intros
    exact jr_none
  | succ n ih =>
    intro l1 hl1 s0
    refine jr_iload_n dX12_qHasSquare_2 1 rfl ?_
    refine jr_aload_n dX12_qHasSquare_3 0 rfl ?_
    refine jr_geti (i := 102) jc_12 jk_206 (by decide) (Nat.le_of_ble_eq_true rfl) jlk_206_102 jft_12_102 jw_1307 dX12_qHasSquare_4 ?_
    refine jr_icmp_ge (t := 29) dX12_qHasSquare_7 (by decide) hl1 (jl_n3_to _) (fun c1 => ?_) (fun c1 => ?_)
    · refine jr_iconst dX12_qHasSquare_29 ?_
      exact jr_ret_z rfl dX12_qHasSquare_30
    · refine jr_aload_n dX12_qHasSquare_10 0 rfl ?_
      refine jr_getk (i := 101) jc_12 jk_206 (by decide) (Nat.le_of_ble_eq_true rfl) jlk_206_101 jw_1306 dX12_qHasSquare_11 ?_
      refine jr_iload_n dX12_qHasSquare_14 1 rfl ?_
      refine jr_grd (fun g2 => ?_)
      refine jr_iaload jk_283 (by decide) hl1 g2 dX12_qHasSquare_15 ?_
      refine jr_bipush dX12_qHasSquare_16 (by decide) ?_
      refine jr_icmp_ne (t := 23) dX12_qHasSquare_18 (by decide) (jl_n3_to _) (jl_nlit rfl) (fun c3 => ?_) (fun c3 => ?_)
      · refine jr_iconst dX12_qHasSquare_21 ?_
        exact jr_ret_z rfl dX12_qHasSquare_22
      · refine jr_iinc (j := 1) (lv := [(1, jl_vi (jl_add l1 1)), (0, jl_vr G 206)]) dX12_qHasSquare_23 rfl (Nat.le_of_ble_eq_true rfl) rfl ?_
        refine jr_goto (t := 2) dX12_qHasSquare_26 (by decide) ?_
        refine jr_sub [1, 0] rfl ?_
        exact ih (jl_add l1 1) (jl_n3_to _) s0
def jf_X12_qHasSquare (s0 : jl_Mm) : jl_O :=
  jf_X12_qHasSquare_L2 jl_fu (0 : Int) s0
set_option maxRecDepth 20000 in
set_option maxHeartbeats 2000000 in
theorem jt_X12_qHasSquare (G : jl_GC) (s0 : jl_Mm) : jC2 G jM_X12_qHasSquare [jl_vr G 206] s0 (jf_X12_qHasSquare s0) := by
  refine jl_met (plainFor_of_name rfl) (Nat.le_of_ble_eq_true rfl) ?_
  show j2 G jM_X12_qHasSquare 0 [(0, jl_vr G 206)] [] s0 _
  refine jr_iconst dX12_qHasSquare_0 ?_
  refine jr_istore_n (lv := [(1, jl_vi (0 : Int)), (0, jl_vr G 206)]) dX12_qHasSquare_1 rfl (Nat.le_of_ble_eq_true rfl) rfl ?_
  refine jr_sub [1, 0] rfl ?_
  exact jj_X12_qHasSquare_L2 G jl_fu (0 : Int) (jl_nlit rfl) s0
def jf_X12_qGoesOnTest_B208 (s0 : jl_Mm) : jl_O :=
  jl_zb (0 : Int) s0
set_option maxRecDepth 20000 in
set_option maxHeartbeats 2000000 in
theorem jj_X12_qGoesOnTest_B208 (G : jl_GC) (s0 : jl_Mm) : j2 G jM_X12_qGoesOnTest 208 [] [] s0 (jf_X12_qGoesOnTest_B208 s0) := by
  refine jr_iconst dX12_qGoesOnTest_208 ?_
  exact jr_ret_z rfl dX12_qGoesOnTest_209
def jf_X12_qGoesOnTest_B155 (R137 : jl_Mm → jl_O) (s0 : jl_Mm) : jl_O :=
  jl_bd (jf_X12_qDrops s0) fun r17 s18 => R137 s18
set_option maxRecDepth 20000 in
set_option maxHeartbeats 2000000 in
theorem jj_X12_qGoesOnTest_B155 (G : jl_GC) (R137 : jl_Mm → jl_O) (hR137 : ∀ (s0 : jl_Mm), j2 G jM_X12_qGoesOnTest 137 [(0, jl_vr G 206)] [] s0 (R137 s0)) (s0 : jl_Mm) : j2 G jM_X12_qGoesOnTest 155 [(0, jl_vr G 206)] [] s0 (jf_X12_qGoesOnTest_B155 R137 s0) := by
  refine jr_aload_n dX12_qGoesOnTest_155 0 rfl ?_
  refine j2_callVv (As := []) dX12_qGoesOnTest_156 (jt_X12_qDrops G s0) jv_X12_qDrops ⟨rfl, rfl, rfl⟩ jw_1692 jk_206 (by decide) (by decide) rfl ⟨Nat.le_of_ble_eq_true rfl, Nat.le_of_ble_eq_true rfl⟩ rfl (Nat.le_of_ble_eq_true rfl) (fun r17 s18 hr17 => ?_)
  refine jr_goto (t := 137) dX12_qGoesOnTest_159 (by decide) ?_
  exact hR137 s18
def jf_X12_qGoesOnTest_L137 : Nat → jl_Mm → jl_O
  | 0, _ => none
  | n + 1, s0 =>
    jl_bd (jf_X12_qIsOn (10 : Int) s0) fun r14 s15 => if r14 = (0 : Int) then (jl_bd (jf_X12_qIsOn (11 : Int) s15) fun r19 s20 => if r19 = (0 : Int) then (if 0 ≤ jl_g s20 206 102 ∧ jl_g s20 206 102 < ((1700 : Nat) : Int) then jl_lm (jl_up s20 283 (jl_g s20 206 102).toNat (11 : Int)) fun s23 => jl_lm (jl_up s23 206 102 (jl_add (jl_g s23 206 102) (1 : Int))) fun s24 => jl_zb (1 : Int) s24 else none) else (jf_X12_qGoesOnTest_B155 (jf_X12_qGoesOnTest_L137 n) s20)) else (jf_X12_qGoesOnTest_B155 (jf_X12_qGoesOnTest_L137 n) s15)
set_option maxRecDepth 20000 in
set_option maxHeartbeats 2000000 in
theorem jj_X12_qGoesOnTest_L137 (G : jl_GC) : ∀ (n : Nat) (s0 : jl_Mm), j2 G jM_X12_qGoesOnTest 137 [(0, jl_vr G 206)] [] s0 (jf_X12_qGoesOnTest_L137 n s0) := by
  intro n
  induction n with
  | zero =>
    intros
    exact jr_none
  | succ n ih =>
    intro s0
    refine jr_aload_n dX12_qGoesOnTest_137 0 rfl ?_
    refine jr_bipush dX12_qGoesOnTest_138 (by decide) ?_
    refine j2_callVz (As := [jl_vi (10 : Int)]) dX12_qGoesOnTest_140 (jt_X12_qIsOn G (10 : Int) (jl_nlit rfl) s0) jv_X12_qIsOn ⟨rfl, rfl, rfl⟩ jw_1711 jk_206 (by decide) (by decide) rfl ⟨Nat.le_of_ble_eq_true rfl, Nat.le_of_ble_eq_true rfl⟩ rfl (Nat.le_of_ble_eq_true rfl) (fun r14 s15 hr14 => ?_)
    refine jr_if_ne (t := 155) dX12_qGoesOnTest_143 (by decide) (jl_nz hr14) (fun c16 => ?_) (fun c16 => ?_)
    · refine jr_aload_n dX12_qGoesOnTest_146 0 rfl ?_
      refine jr_bipush dX12_qGoesOnTest_147 (by decide) ?_
      refine j2_callVz (As := [jl_vi (11 : Int)]) dX12_qGoesOnTest_149 (jt_X12_qIsOn G (11 : Int) (jl_nlit rfl) s15) jv_X12_qIsOn ⟨rfl, rfl, rfl⟩ jw_1711 jk_206 (by decide) (by decide) rfl ⟨Nat.le_of_ble_eq_true rfl, Nat.le_of_ble_eq_true rfl⟩ rfl (Nat.le_of_ble_eq_true rfl) (fun r19 s20 hr19 => ?_)
      refine jr_if_eq (t := 162) dX12_qGoesOnTest_152 (by decide) (jl_nz hr19) (fun c21 => ?_) (fun c21 => ?_)
      · refine jr_aload_n dX12_qGoesOnTest_162 0 rfl ?_
        refine jr_getk (i := 101) jc_12 jk_206 (by decide) (Nat.le_of_ble_eq_true rfl) jlk_206_101 jw_1306 dX12_qGoesOnTest_163 ?_
        refine jr_aload_n dX12_qGoesOnTest_166 0 rfl ?_
        refine jr_geti (i := 102) jc_12 jk_206 (by decide) (Nat.le_of_ble_eq_true rfl) jlk_206_102 jft_12_102 jw_1307 dX12_qGoesOnTest_167 ?_
        refine jr_bipush dX12_qGoesOnTest_170 (by decide) ?_
        refine jr_grd (fun g22 => ?_)
        refine jr_iastore jk_283 (by decide) (jl_n3_to _) g22 dX12_qGoesOnTest_172 ?_
        refine jr_lm (fun s23 => ?_)
        refine jr_aload_n dX12_qGoesOnTest_173 0 rfl ?_
        refine jr_dup dX12_qGoesOnTest_174 rfl ?_
        refine jr_geti (i := 102) jc_12 jk_206 (by decide) (Nat.le_of_ble_eq_true rfl) jlk_206_102 jft_12_102 jw_1307 dX12_qGoesOnTest_175 ?_
        refine jr_iconst dX12_qGoesOnTest_178 ?_
        refine jr_iadd dX12_qGoesOnTest_179 ?_
        refine jr_puti (i := 102) jc_12 jk_206 (by decide) (Nat.le_of_ble_eq_true rfl) jlk_206_102 jft_12_102 rfl jw_1307 rfl dX12_qGoesOnTest_180 ?_
        refine jr_lm (fun s24 => ?_)
        refine jr_iconst dX12_qGoesOnTest_183 ?_
        exact jr_ret_z rfl dX12_qGoesOnTest_184
      · exact jj_X12_qGoesOnTest_B155 G (jf_X12_qGoesOnTest_L137 n) (ih) s20
    · exact jj_X12_qGoesOnTest_B155 G (jf_X12_qGoesOnTest_L137 n) (ih) s15
def jf_X12_qGoesOnTest_L87 : Nat → jl_Mm → jl_O
  | 0, _ => none
  | n + 1, s0 =>
    jl_bd (jf_X12_qIsOn (10 : Int) s0) fun r25 s26 => if r25 = (0 : Int) then (if 0 ≤ jl_g s26 206 102 ∧ jl_g s26 206 102 < ((1700 : Nat) : Int) then jl_lm (jl_up s26 283 (jl_g s26 206 102).toNat (10 : Int)) fun s29 => jl_lm (jl_up s29 206 102 (jl_add (jl_g s29 206 102) (1 : Int))) fun s30 => jl_zb (1 : Int) s30 else none) else (jl_bd (jf_X12_qDrops s26) fun r31 s32 => jf_X12_qGoesOnTest_L87 n s32)
set_option maxRecDepth 20000 in
set_option maxHeartbeats 2000000 in
theorem jj_X12_qGoesOnTest_L87 (G : jl_GC) : ∀ (n : Nat) (s0 : jl_Mm), j2 G jM_X12_qGoesOnTest 87 [(0, jl_vr G 206)] [] s0 (jf_X12_qGoesOnTest_L87 n s0) := by
  intro n
  induction n with
  | zero =>
    intros
    exact jr_none
  | succ n ih =>
    intro s0
    refine jr_aload_n dX12_qGoesOnTest_87 0 rfl ?_
    refine jr_bipush dX12_qGoesOnTest_88 (by decide) ?_
    refine j2_callVz (As := [jl_vi (10 : Int)]) dX12_qGoesOnTest_90 (jt_X12_qIsOn G (10 : Int) (jl_nlit rfl) s0) jv_X12_qIsOn ⟨rfl, rfl, rfl⟩ jw_1711 jk_206 (by decide) (by decide) rfl ⟨Nat.le_of_ble_eq_true rfl, Nat.le_of_ble_eq_true rfl⟩ rfl (Nat.le_of_ble_eq_true rfl) (fun r25 s26 hr25 => ?_)
    refine jr_if_eq (t := 103) dX12_qGoesOnTest_93 (by decide) (jl_nz hr25) (fun c27 => ?_) (fun c27 => ?_)
    · refine jr_aload_n dX12_qGoesOnTest_103 0 rfl ?_
      refine jr_getk (i := 101) jc_12 jk_206 (by decide) (Nat.le_of_ble_eq_true rfl) jlk_206_101 jw_1306 dX12_qGoesOnTest_104 ?_
      refine jr_aload_n dX12_qGoesOnTest_107 0 rfl ?_
      refine jr_geti (i := 102) jc_12 jk_206 (by decide) (Nat.le_of_ble_eq_true rfl) jlk_206_102 jft_12_102 jw_1307 dX12_qGoesOnTest_108 ?_
      refine jr_bipush dX12_qGoesOnTest_111 (by decide) ?_
      refine jr_grd (fun g28 => ?_)
      refine jr_iastore jk_283 (by decide) (jl_n3_to _) g28 dX12_qGoesOnTest_113 ?_
      refine jr_lm (fun s29 => ?_)
      refine jr_aload_n dX12_qGoesOnTest_114 0 rfl ?_
      refine jr_dup dX12_qGoesOnTest_115 rfl ?_
      refine jr_geti (i := 102) jc_12 jk_206 (by decide) (Nat.le_of_ble_eq_true rfl) jlk_206_102 jft_12_102 jw_1307 dX12_qGoesOnTest_116 ?_
      refine jr_iconst dX12_qGoesOnTest_119 ?_
      refine jr_iadd dX12_qGoesOnTest_120 ?_
      refine jr_puti (i := 102) jc_12 jk_206 (by decide) (Nat.le_of_ble_eq_true rfl) jlk_206_102 jft_12_102 rfl jw_1307 rfl dX12_qGoesOnTest_121 ?_
      refine jr_lm (fun s30 => ?_)
      refine jr_iconst dX12_qGoesOnTest_124 ?_
      exact jr_ret_z rfl dX12_qGoesOnTest_125
    · refine jr_aload_n dX12_qGoesOnTest_96 0 rfl ?_
      refine j2_callVv (As := []) dX12_qGoesOnTest_97 (jt_X12_qDrops G s26) jv_X12_qDrops ⟨rfl, rfl, rfl⟩ jw_1692 jk_206 (by decide) (by decide) rfl ⟨Nat.le_of_ble_eq_true rfl, Nat.le_of_ble_eq_true rfl⟩ rfl (Nat.le_of_ble_eq_true rfl) (fun r31 s32 hr31 => ?_)
      refine jr_goto (t := 87) dX12_qGoesOnTest_100 (by decide) ?_
      exact ih s32
def jf_X12_qGoesOnTest_B76 (s0 : jl_Mm) : jl_O :=
  jl_bd (jf_X12_takes 265 s0) fun r2 s3 => if r2 = (0 : Int) then (jl_bd (jf_X12_takes 266 s3) fun r5 s6 => if r5 = (0 : Int) then (if jl_g s6 206 5 = (0 : Int) then (jl_bd (jf_X12_qHasSquare s6) fun r9 s10 => if r9 = (0 : Int) then (jf_X12_qGoesOnTest_B208 s10) else (jl_bd (jf_X12_fail (1 : Int) (jl_g s10 206 2) s10) fun r12 s13 => jf_X12_qGoesOnTest_B208 s13)) else (jf_X12_qGoesOnTest_B208 s6)) else (jf_X12_qGoesOnTest_L137 jl_fu s6)) else (jf_X12_qGoesOnTest_L87 jl_fu s3)
set_option maxRecDepth 20000 in
set_option maxHeartbeats 2000000 in
theorem jj_X12_qGoesOnTest_B76 (G : jl_GC) (s0 : jl_Mm) : j2 G jM_X12_qGoesOnTest 76 [(0, jl_vr G 206)] [] s0 (jf_X12_qGoesOnTest_B76 s0) := by
  refine jr_aload_n dX12_qGoesOnTest_76 0 rfl ?_
  refine jr_aload_n dX12_qGoesOnTest_77 0 rfl ?_
  refine jr_getk (i := 82) jc_12 jk_206 (by decide) (Nat.le_of_ble_eq_true rfl) jlk_206_82 jw_1287 dX12_qGoesOnTest_78 ?_
  refine j2_callVz (As := [jl_vr G 265]) dX12_qGoesOnTest_81 (jt_X12_takes G 265 s0) jv_X12_takes ⟨rfl, rfl, rfl⟩ jw_1562 jk_206 (by decide) (by decide) rfl ⟨Nat.le_of_ble_eq_true rfl, Nat.le_of_ble_eq_true rfl⟩ rfl (Nat.le_of_ble_eq_true rfl) (fun r2 s3 hr2 => ?_)
  refine jr_if_eq (t := 126) dX12_qGoesOnTest_84 (by decide) (jl_nz hr2) (fun c4 => ?_) (fun c4 => ?_)
  · refine jr_aload_n dX12_qGoesOnTest_126 0 rfl ?_
    refine jr_aload_n dX12_qGoesOnTest_127 0 rfl ?_
    refine jr_getk (i := 83) jc_12 jk_206 (by decide) (Nat.le_of_ble_eq_true rfl) jlk_206_83 jw_1288 dX12_qGoesOnTest_128 ?_
    refine j2_callVz (As := [jl_vr G 266]) dX12_qGoesOnTest_131 (jt_X12_takes G 266 s3) jv_X12_takes ⟨rfl, rfl, rfl⟩ jw_1562 jk_206 (by decide) (by decide) rfl ⟨Nat.le_of_ble_eq_true rfl, Nat.le_of_ble_eq_true rfl⟩ rfl (Nat.le_of_ble_eq_true rfl) (fun r5 s6 hr5 => ?_)
    refine jr_if_eq (t := 185) dX12_qGoesOnTest_134 (by decide) (jl_nz hr5) (fun c7 => ?_) (fun c7 => ?_)
    · refine jr_aload_n dX12_qGoesOnTest_185 0 rfl ?_
      refine jr_geti (i := 5) jc_12 jk_206 (by decide) (Nat.le_of_ble_eq_true rfl) jlk_206_5 jft_12_5 jw_1210 dX12_qGoesOnTest_186 ?_
      refine jr_if_ne (t := 208) dX12_qGoesOnTest_189 (by decide) (jl_n3_to _) (fun c8 => ?_) (fun c8 => ?_)
      · refine jr_aload_n dX12_qGoesOnTest_192 0 rfl ?_
        refine j2_callVz (As := []) dX12_qGoesOnTest_193 (jt_X12_qHasSquare G s6) jv_X12_qHasSquare ⟨rfl, rfl, rfl⟩ jw_1723 jk_206 (by decide) (by decide) rfl ⟨Nat.le_of_ble_eq_true rfl, Nat.le_of_ble_eq_true rfl⟩ rfl (Nat.le_of_ble_eq_true rfl) (fun r9 s10 hr9 => ?_)
        refine jr_if_eq (t := 208) dX12_qGoesOnTest_196 (by decide) (jl_nz hr9) (fun c11 => ?_) (fun c11 => ?_)
        · refine jr_sub [] rfl ?_
          exact jj_X12_qGoesOnTest_B208 G s10
        · refine jr_aload_n dX12_qGoesOnTest_199 0 rfl ?_
          refine jr_iconst dX12_qGoesOnTest_200 ?_
          refine jr_aload_n dX12_qGoesOnTest_201 0 rfl ?_
          refine jr_geti (i := 2) jc_12 jk_206 (by decide) (Nat.le_of_ble_eq_true rfl) jlk_206_2 jft_12_2 jw_1207 dX12_qGoesOnTest_202 ?_
          refine j2_callVv (As := [jl_vi (1 : Int), jl_vi (jl_g s10 206 2)]) dX12_qGoesOnTest_205 (jt_X12_fail G (1 : Int) (jl_g s10 206 2) (jl_nlit rfl) (jl_n3_to _) s10) jv_X12_fail ⟨rfl, rfl, rfl⟩ jw_1577 jk_206 (by decide) (by decide) rfl ⟨Nat.le_of_ble_eq_true rfl, Nat.le_of_ble_eq_true rfl⟩ rfl (Nat.le_of_ble_eq_true rfl) (fun r12 s13 hr12 => ?_)
          refine jr_sub [] rfl ?_
          exact jj_X12_qGoesOnTest_B208 G s13
      · refine jr_sub [] rfl ?_
        exact jj_X12_qGoesOnTest_B208 G s6
    · exact jj_X12_qGoesOnTest_L137 G jl_fu s6
  · exact jj_X12_qGoesOnTest_L87 G jl_fu s3
def jf_X12_qGoesOnTest_L33 (R0 : jl_Mm → jl_O) : Nat → jl_Mm → jl_O
  | 0, _ => none
  | n + 1, s0 =>
    jl_bd (jf_X12_qIsOn (25 : Int) s0) fun r40 s41 => if r40 = (0 : Int) then (jl_bd (jf_X12_qDrops s41) fun r47 s48 => jf_X12_qGoesOnTest_L33 R0 n s48) else (jl_lm (jl_up s41 206 102 (jl_sub (jl_g s41 206 102) (1 : Int))) fun s43 => jl_lm (jl_up s43 206 103 (jl_sub (jl_g s43 206 103) (1 : Int))) fun s44 => jl_bd (jf_X12_qDropsNots s44) fun r45 s46 => R0 s46)
set_option maxRecDepth 20000 in
set_option maxHeartbeats 2000000 in
theorem jj_X12_qGoesOnTest_L33 (G : jl_GC) (R0 : jl_Mm → jl_O) (hR0 : ∀ (s0 : jl_Mm), j2 G jM_X12_qGoesOnTest 0 [(0, jl_vr G 206)] [] s0 (R0 s0)) : ∀ (n : Nat) (s0 : jl_Mm), j2 G jM_X12_qGoesOnTest 33 [(0, jl_vr G 206)] [] s0 (jf_X12_qGoesOnTest_L33 R0 n s0) := by
  intro n
  induction n with
  | zero =>
    intros
    exact jr_none
  | succ n ih =>
    intro s0
    refine jr_aload_n dX12_qGoesOnTest_33 0 rfl ?_
    refine jr_bipush dX12_qGoesOnTest_34 (by decide) ?_
    refine j2_callVz (As := [jl_vi (25 : Int)]) dX12_qGoesOnTest_36 (jt_X12_qIsOn G (25 : Int) (jl_nlit rfl) s0) jv_X12_qIsOn ⟨rfl, rfl, rfl⟩ jw_1711 jk_206 (by decide) (by decide) rfl ⟨Nat.le_of_ble_eq_true rfl, Nat.le_of_ble_eq_true rfl⟩ rfl (Nat.le_of_ble_eq_true rfl) (fun r40 s41 hr40 => ?_)
    refine jr_if_ne (t := 49) dX12_qGoesOnTest_39 (by decide) (jl_nz hr40) (fun c42 => ?_) (fun c42 => ?_)
    · refine jr_aload_n dX12_qGoesOnTest_42 0 rfl ?_
      refine j2_callVv (As := []) dX12_qGoesOnTest_43 (jt_X12_qDrops G s41) jv_X12_qDrops ⟨rfl, rfl, rfl⟩ jw_1692 jk_206 (by decide) (by decide) rfl ⟨Nat.le_of_ble_eq_true rfl, Nat.le_of_ble_eq_true rfl⟩ rfl (Nat.le_of_ble_eq_true rfl) (fun r47 s48 hr47 => ?_)
      refine jr_goto (t := 33) dX12_qGoesOnTest_46 (by decide) ?_
      exact ih s48
    · refine jr_aload_n dX12_qGoesOnTest_49 0 rfl ?_
      refine jr_dup dX12_qGoesOnTest_50 rfl ?_
      refine jr_geti (i := 102) jc_12 jk_206 (by decide) (Nat.le_of_ble_eq_true rfl) jlk_206_102 jft_12_102 jw_1307 dX12_qGoesOnTest_51 ?_
      refine jr_iconst dX12_qGoesOnTest_54 ?_
      refine jr_isub dX12_qGoesOnTest_55 ?_
      refine jr_puti (i := 102) jc_12 jk_206 (by decide) (Nat.le_of_ble_eq_true rfl) jlk_206_102 jft_12_102 rfl jw_1307 rfl dX12_qGoesOnTest_56 ?_
      refine jr_lm (fun s43 => ?_)
      refine jr_aload_n dX12_qGoesOnTest_59 0 rfl ?_
      refine jr_dup dX12_qGoesOnTest_60 rfl ?_
      refine jr_geti (i := 103) jc_12 jk_206 (by decide) (Nat.le_of_ble_eq_true rfl) jlk_206_103 jft_12_103 jw_1308 dX12_qGoesOnTest_61 ?_
      refine jr_iconst dX12_qGoesOnTest_64 ?_
      refine jr_isub dX12_qGoesOnTest_65 ?_
      refine jr_puti (i := 103) jc_12 jk_206 (by decide) (Nat.le_of_ble_eq_true rfl) jlk_206_103 jft_12_103 rfl jw_1308 rfl dX12_qGoesOnTest_66 ?_
      refine jr_lm (fun s44 => ?_)
      refine jr_aload_n dX12_qGoesOnTest_69 0 rfl ?_
      refine j2_callVv (As := []) dX12_qGoesOnTest_70 (jt_X12_qDropsNots G s44) jv_X12_qDropsNots ⟨rfl, rfl, rfl⟩ jw_1715 jk_206 (by decide) (by decide) rfl ⟨Nat.le_of_ble_eq_true rfl, Nat.le_of_ble_eq_true rfl⟩ rfl (Nat.le_of_ble_eq_true rfl) (fun r45 s46 hr45 => ?_)
      refine jr_goto (t := 0) dX12_qGoesOnTest_73 (by decide) ?_
      exact hR0 s46
def jf_X12_qGoesOnTest_L0 : Nat → jl_Mm → jl_O
  | 0, _ => none
  | n + 1, s0 =>
    if jl_g s0 206 5 = (0 : Int) then (jl_bd (jf_X12_look s0) fun r33 s34 => if r33 = (93 : Int) then (jl_bd (jf_X12_qHasSquare s34) fun r36 s37 => if r36 = (0 : Int) then (jf_X12_qGoesOnTest_B76 s37) else (jl_lm (jl_up s37 206 2 (jl_add (jl_g s37 206 2) (1 : Int))) fun s39 => jf_X12_qGoesOnTest_L33 (jf_X12_qGoesOnTest_L0 n) jl_fu s39)) else (jf_X12_qGoesOnTest_B76 s34)) else (jf_X12_qGoesOnTest_B76 s0)
set_option maxRecDepth 20000 in
set_option maxHeartbeats 2000000 in
theorem jj_X12_qGoesOnTest_L0 (G : jl_GC) : ∀ (n : Nat) (s0 : jl_Mm), j2 G jM_X12_qGoesOnTest 0 [(0, jl_vr G 206)] [] s0 (jf_X12_qGoesOnTest_L0 n s0) := by
  intro n
  induction n with
  | zero =>
    intros
    exact jr_none
  | succ n ih =>
    intro s0
    refine jr_aload_n dX12_qGoesOnTest_0 0 rfl ?_
    refine jr_geti (i := 5) jc_12 jk_206 (by decide) (Nat.le_of_ble_eq_true rfl) jlk_206_5 jft_12_5 jw_1210 dX12_qGoesOnTest_1 ?_
    refine jr_if_ne (t := 76) dX12_qGoesOnTest_4 (by decide) (jl_n3_to _) (fun c1 => ?_) (fun c1 => ?_)
    · refine jr_aload_n dX12_qGoesOnTest_7 0 rfl ?_
      refine j2_callVi (As := []) dX12_qGoesOnTest_8 (jt_X12_look G s0) jv_X12_look ⟨rfl, rfl, rfl⟩ jw_1570 jk_206 (by decide) (by decide) rfl ⟨Nat.le_of_ble_eq_true rfl, Nat.le_of_ble_eq_true rfl⟩ rfl (Nat.le_of_ble_eq_true rfl) (fun r33 s34 hr33 => ?_)
      refine jr_bipush dX12_qGoesOnTest_11 (by decide) ?_
      refine jr_icmp_ne (t := 76) dX12_qGoesOnTest_13 (by decide) hr33 (jl_nlit rfl) (fun c35 => ?_) (fun c35 => ?_)
      · refine jr_aload_n dX12_qGoesOnTest_16 0 rfl ?_
        refine j2_callVz (As := []) dX12_qGoesOnTest_17 (jt_X12_qHasSquare G s34) jv_X12_qHasSquare ⟨rfl, rfl, rfl⟩ jw_1723 jk_206 (by decide) (by decide) rfl ⟨Nat.le_of_ble_eq_true rfl, Nat.le_of_ble_eq_true rfl⟩ rfl (Nat.le_of_ble_eq_true rfl) (fun r36 s37 hr36 => ?_)
        refine jr_if_eq (t := 76) dX12_qGoesOnTest_20 (by decide) (jl_nz hr36) (fun c38 => ?_) (fun c38 => ?_)
        · exact jj_X12_qGoesOnTest_B76 G s37
        · refine jr_aload_n dX12_qGoesOnTest_23 0 rfl ?_
          refine jr_dup dX12_qGoesOnTest_24 rfl ?_
          refine jr_geti (i := 2) jc_12 jk_206 (by decide) (Nat.le_of_ble_eq_true rfl) jlk_206_2 jft_12_2 jw_1207 dX12_qGoesOnTest_25 ?_
          refine jr_iconst dX12_qGoesOnTest_28 ?_
          refine jr_iadd dX12_qGoesOnTest_29 ?_
          refine jr_puti (i := 2) jc_12 jk_206 (by decide) (Nat.le_of_ble_eq_true rfl) jlk_206_2 jft_12_2 rfl jw_1207 rfl dX12_qGoesOnTest_30 ?_
          refine jr_lm (fun s39 => ?_)
          exact jj_X12_qGoesOnTest_L33 G (jf_X12_qGoesOnTest_L0 n) (ih) jl_fu s39
      · exact jj_X12_qGoesOnTest_B76 G s34
    · exact jj_X12_qGoesOnTest_B76 G s0
def jf_X12_qGoesOnTest (s0 : jl_Mm) : jl_O :=
  jf_X12_qGoesOnTest_L0 jl_fu s0
set_option maxRecDepth 20000 in
set_option maxHeartbeats 2000000 in
theorem jt_X12_qGoesOnTest (G : jl_GC) (s0 : jl_Mm) : jC2 G jM_X12_qGoesOnTest [jl_vr G 206] s0 (jf_X12_qGoesOnTest s0) := by
  refine jl_met (plainFor_of_name rfl) (Nat.le_of_ble_eq_true rfl) ?_
  show j2 G jM_X12_qGoesOnTest 0 [(0, jl_vr G 206)] [] s0 _
  exact jj_X12_qGoesOnTest_L0 G jl_fu s0
def jf_X12_qTest_B131 (s0 : jl_Mm) : jl_O :=
  some (0, s0)
set_option maxRecDepth 20000 in
set_option maxHeartbeats 2000000 in
theorem jj_X12_qTest_B131 (G : jl_GC) (s0 : jl_Mm) : j2 G jM_X12_qTest 131 [] [] s0 (jf_X12_qTest_B131 s0) := by
  exact jr_ret_v rfl dX12_qTest_131
def jf_X12_qTest_L110 : Nat → jl_Mm → jl_O
  | 0, _ => none
  | n + 1, s0 =>
    if jl_g s0 206 5 = (0 : Int) then (if jl_g s0 206 102 ≤ (0 : Int) then (jf_X12_qTest_B131 s0) else (jl_bd (jf_X12_qDrops s0) fun r4 s5 => jf_X12_qTest_L110 n s5)) else (jf_X12_qTest_B131 s0)
set_option maxRecDepth 20000 in
set_option maxHeartbeats 2000000 in
theorem jj_X12_qTest_L110 (G : jl_GC) : ∀ (n : Nat) (s0 : jl_Mm), j2 G jM_X12_qTest 110 [(0, jl_vr G 206)] [] s0 (jf_X12_qTest_L110 n s0) := by
  intro n
  induction n with
  | zero =>
    intros
    exact jr_none
  | succ n ih =>
    intro s0
    refine jr_aload_n dX12_qTest_110 0 rfl ?_
    refine jr_geti (i := 5) jc_12 jk_206 (by decide) (Nat.le_of_ble_eq_true rfl) jlk_206_5 jft_12_5 jw_1210 dX12_qTest_111 ?_
    refine jr_if_ne (t := 131) dX12_qTest_114 (by decide) (jl_n3_to _) (fun c2 => ?_) (fun c2 => ?_)
    · refine jr_aload_n dX12_qTest_117 0 rfl ?_
      refine jr_geti (i := 102) jc_12 jk_206 (by decide) (Nat.le_of_ble_eq_true rfl) jlk_206_102 jft_12_102 jw_1307 dX12_qTest_118 ?_
      refine jr_if_le (t := 131) dX12_qTest_121 (by decide) (jl_n3_to _) (fun c3 => ?_) (fun c3 => ?_)
      · refine jr_sub [] rfl ?_
        exact jj_X12_qTest_B131 G s0
      · refine jr_aload_n dX12_qTest_124 0 rfl ?_
        refine j2_callVv (As := []) dX12_qTest_125 (jt_X12_qDrops G s0) jv_X12_qDrops ⟨rfl, rfl, rfl⟩ jw_1692 jk_206 (by decide) (by decide) rfl ⟨Nat.le_of_ble_eq_true rfl, Nat.le_of_ble_eq_true rfl⟩ rfl (Nat.le_of_ble_eq_true rfl) (fun r4 s5 hr4 => ?_)
        refine jr_goto (t := 110) dX12_qTest_128 (by decide) ?_
        exact ih s5
    · refine jr_sub [] rfl ?_
      exact jj_X12_qTest_B131 G s0
def jf_X12_qTest_B106 (R2 : Int → jl_Mm → jl_O) (k0 : Int) (s0 : jl_Mm) : jl_O :=
  R2 k0 s0
set_option maxRecDepth 20000 in
set_option maxHeartbeats 2000000 in
theorem jj_X12_qTest_B106 (G : jl_GC) (R2 : Int → jl_Mm → jl_O) (hR2 : ∀ (l1 : Int) (_hl1 : jl_n3 l1) (s0 : jl_Mm), j2 G jM_X12_qTest 2 [(0, jl_vr G 206), (1, jl_vi l1)] [] s0 (R2 l1 s0)) (k0 : Int) (hk0 : jl_n3 k0) (s0 : jl_Mm) : j2 G jM_X12_qTest 106 [(0, jl_vr G 206)] [jl_vi k0] s0 (jf_X12_qTest_B106 R2 k0 s0) := by
  refine jr_istore_n (lv := [(1, jl_vi k0), (0, jl_vr G 206)]) dX12_qTest_106 rfl (Nat.le_of_ble_eq_true rfl) rfl ?_
  refine jr_goto (t := 2) dX12_qTest_107 (by decide) ?_
  refine jr_sub [1, 0] rfl ?_
  exact hR2 k0 hk0 s0
def jf_X12_qTest_B105 (R2 : Int → jl_Mm → jl_O) (s0 : jl_Mm) : jl_O :=
  jf_X12_qTest_B106 (R2) (0 : Int) s0
set_option maxRecDepth 20000 in
set_option maxHeartbeats 2000000 in
theorem jj_X12_qTest_B105 (G : jl_GC) (R2 : Int → jl_Mm → jl_O) (hR2 : ∀ (l1 : Int) (_hl1 : jl_n3 l1) (s0 : jl_Mm), j2 G jM_X12_qTest 2 [(0, jl_vr G 206), (1, jl_vi l1)] [] s0 (R2 l1 s0)) (s0 : jl_Mm) : j2 G jM_X12_qTest 105 [(0, jl_vr G 206)] [] s0 (jf_X12_qTest_B105 R2 s0) := by
  refine jr_iconst dX12_qTest_105 ?_
  exact jj_X12_qTest_B106 G (R2) (hR2) (0 : Int) (jl_nlit rfl) s0
def jf_X12_qTest_L2 : Nat → Int → jl_Mm → jl_O
  | 0, _, _ => none
  | n + 1, l1, s0 =>
    if l1 = (0 : Int) then (jf_X12_qTest_L110 jl_fu s0) else (if jl_g s0 206 5 = (0 : Int) then (jl_bd (jf_X12_look s0) fun r7 s8 => if r7 = (91 : Int) then (jl_bd (jf_X12_qOpens (25 : Int) (jl_g s8 206 2) s8) fun r25 s26 => jl_lm (jl_up s26 206 2 (jl_add (jl_g s26 206 2) (1 : Int))) fun s27 => jf_X12_qTest_L2 n l1 s27) else (jl_bd (jf_X12_isHere 264 s8) fun r10 s11 => if r10 = (0 : Int) then (jl_bd (jf_X12_qFact s11) fun r13 s14 => jl_bd (jf_X12_qDropsNots s14) fun r15 s16 => if jl_g s16 206 5 = (0 : Int) then (jl_bd (jf_X12_qGoesOnTest s16) fun r18 s19 => if r18 = (0 : Int) then (jf_X12_qTest_B105 (jf_X12_qTest_L2 n) s19) else (jf_X12_qTest_B106 (jf_X12_qTest_L2 n) (1 : Int) s19)) else (jf_X12_qTest_B105 (jf_X12_qTest_L2 n) s16)) else (jl_bd (jf_X12_qOpens (12 : Int) (jl_g s11 206 2) s11) fun r21 s22 => jl_bd (jf_X12_asks 264 s22) fun r23 s24 => jf_X12_qTest_L2 n l1 s24))) else (jf_X12_qTest_L110 jl_fu s0))
set_option maxRecDepth 20000 in
set_option maxHeartbeats 2000000 in
theorem jj_X12_qTest_L2 (G : jl_GC) : ∀ (n : Nat) (l1 : Int) (hl1 : jl_n3 l1) (s0 : jl_Mm), j2 G jM_X12_qTest 2 [(0, jl_vr G 206), (1, jl_vi l1)] [] s0 (jf_X12_qTest_L2 n l1 s0) := by
  intro n
  induction n with
  | zero =>
    intros
    exact jr_none
  | succ n ih =>
    intro l1 hl1 s0
    refine jr_iload_n dX12_qTest_2 1 rfl ?_
    refine jr_if_eq (t := 110) dX12_qTest_3 (by decide) hl1 (fun c1 => ?_) (fun c1 => ?_)
    · refine jr_sub [0] rfl ?_
      exact jj_X12_qTest_L110 G jl_fu s0
    · refine jr_aload_n dX12_qTest_6 0 rfl ?_
      refine jr_geti (i := 5) jc_12 jk_206 (by decide) (Nat.le_of_ble_eq_true rfl) jlk_206_5 jft_12_5 jw_1210 dX12_qTest_7 ?_
      refine jr_if_ne (t := 110) dX12_qTest_10 (by decide) (jl_n3_to _) (fun c6 => ?_) (fun c6 => ?_)
      · refine jr_aload_n dX12_qTest_13 0 rfl ?_
        refine j2_callVi (As := []) dX12_qTest_14 (jt_X12_look G s0) jv_X12_look ⟨rfl, rfl, rfl⟩ jw_1570 jk_206 (by decide) (by decide) rfl ⟨Nat.le_of_ble_eq_true rfl, Nat.le_of_ble_eq_true rfl⟩ rfl (Nat.le_of_ble_eq_true rfl) (fun r7 s8 hr7 => ?_)
        refine jr_istore_n (lv := [(2, jl_vi r7), (0, jl_vr G 206), (1, jl_vi l1)]) dX12_qTest_17 rfl (Nat.le_of_ble_eq_true rfl) rfl ?_
        refine jr_iload_n dX12_qTest_18 0 rfl ?_
        refine jr_bipush dX12_qTest_19 (by decide) ?_
        refine jr_icmp_ne (t := 47) dX12_qTest_21 (by decide) hr7 (jl_nlit rfl) (fun c9 => ?_) (fun c9 => ?_)
        · refine jr_aload_n dX12_qTest_24 1 rfl ?_
          refine jr_bipush dX12_qTest_25 (by decide) ?_
          refine jr_aload_n dX12_qTest_27 1 rfl ?_
          refine jr_geti (i := 2) jc_12 jk_206 (by decide) (Nat.le_of_ble_eq_true rfl) jlk_206_2 jft_12_2 jw_1207 dX12_qTest_28 ?_
          refine j2_callVv (As := [jl_vi (25 : Int), jl_vi (jl_g s8 206 2)]) dX12_qTest_31 (jt_X12_qOpens G (25 : Int) (jl_g s8 206 2) (jl_nlit rfl) (jl_n3_to _) s8) jv_X12_qOpens ⟨rfl, rfl, rfl⟩ jw_1649 jk_206 (by decide) (by decide) rfl ⟨Nat.le_of_ble_eq_true rfl, Nat.le_of_ble_eq_true rfl⟩ rfl (Nat.le_of_ble_eq_true rfl) (fun r25 s26 hr25 => ?_)
          refine jr_aload_n dX12_qTest_34 1 rfl ?_
          refine jr_dup dX12_qTest_35 rfl ?_
          refine jr_geti (i := 2) jc_12 jk_206 (by decide) (Nat.le_of_ble_eq_true rfl) jlk_206_2 jft_12_2 jw_1207 dX12_qTest_36 ?_
          refine jr_iconst dX12_qTest_39 ?_
          refine jr_iadd dX12_qTest_40 ?_
          refine jr_puti (i := 2) jc_12 jk_206 (by decide) (Nat.le_of_ble_eq_true rfl) jlk_206_2 jft_12_2 rfl jw_1207 rfl dX12_qTest_41 ?_
          refine jr_lm (fun s27 => ?_)
          refine jr_goto (t := 2) dX12_qTest_44 (by decide) ?_
          refine jr_sub [1, 2] rfl ?_
          exact ih l1 hl1 s27
        · refine jr_aload_n dX12_qTest_47 1 rfl ?_
          refine jr_aload_n dX12_qTest_48 1 rfl ?_
          refine jr_getk (i := 81) jc_12 jk_206 (by decide) (Nat.le_of_ble_eq_true rfl) jlk_206_81 jw_1286 dX12_qTest_49 ?_
          refine j2_callVz (As := [jl_vr G 264]) dX12_qTest_52 (jt_X12_isHere G 264 s8) jv_X12_isHere ⟨rfl, rfl, rfl⟩ jw_1566 jk_206 (by decide) (by decide) rfl ⟨Nat.le_of_ble_eq_true rfl, Nat.le_of_ble_eq_true rfl⟩ rfl (Nat.le_of_ble_eq_true rfl) (fun r10 s11 hr10 => ?_)
          refine jr_if_eq (t := 79) dX12_qTest_55 (by decide) (jl_nz hr10) (fun c12 => ?_) (fun c12 => ?_)
          · refine jr_aload_n dX12_qTest_79 1 rfl ?_
            refine j2_callVv (As := []) dX12_qTest_80 (jt_X12_qFact G s11) jv_X12_qFact ⟨rfl, rfl, rfl⟩ jw_1653 jk_206 (by decide) (by decide) rfl ⟨Nat.le_of_ble_eq_true rfl, Nat.le_of_ble_eq_true rfl⟩ rfl (Nat.le_of_ble_eq_true rfl) (fun r13 s14 hr13 => ?_)
            refine jr_aload_n dX12_qTest_83 1 rfl ?_
            refine j2_callVv (As := []) dX12_qTest_84 (jt_X12_qDropsNots G s14) jv_X12_qDropsNots ⟨rfl, rfl, rfl⟩ jw_1715 jk_206 (by decide) (by decide) rfl ⟨Nat.le_of_ble_eq_true rfl, Nat.le_of_ble_eq_true rfl⟩ rfl (Nat.le_of_ble_eq_true rfl) (fun r15 s16 hr15 => ?_)
            refine jr_aload_n dX12_qTest_87 1 rfl ?_
            refine jr_geti (i := 5) jc_12 jk_206 (by decide) (Nat.le_of_ble_eq_true rfl) jlk_206_5 jft_12_5 jw_1210 dX12_qTest_88 ?_
            refine jr_if_ne (t := 105) dX12_qTest_91 (by decide) (jl_n3_to _) (fun c17 => ?_) (fun c17 => ?_)
            · refine jr_aload_n dX12_qTest_94 1 rfl ?_
              refine j2_callVz (As := []) dX12_qTest_95 (jt_X12_qGoesOnTest G s16) jv_X12_qGoesOnTest ⟨rfl, rfl, rfl⟩ jw_1719 jk_206 (by decide) (by decide) rfl ⟨Nat.le_of_ble_eq_true rfl, Nat.le_of_ble_eq_true rfl⟩ rfl (Nat.le_of_ble_eq_true rfl) (fun r18 s19 hr18 => ?_)
              refine jr_if_eq (t := 105) dX12_qTest_98 (by decide) (jl_nz hr18) (fun c20 => ?_) (fun c20 => ?_)
              · refine jr_sub [1] rfl ?_
                exact jj_X12_qTest_B105 G (jf_X12_qTest_L2 n) (ih) s19
              · refine jr_iconst dX12_qTest_101 ?_
                refine jr_goto (t := 106) dX12_qTest_102 (by decide) ?_
                refine jr_sub [1] rfl ?_
                exact jj_X12_qTest_B106 G (jf_X12_qTest_L2 n) (ih) (1 : Int) (jl_nlit rfl) s19
            · refine jr_sub [1] rfl ?_
              exact jj_X12_qTest_B105 G (jf_X12_qTest_L2 n) (ih) s16
          · refine jr_aload_n dX12_qTest_58 1 rfl ?_
            refine jr_bipush dX12_qTest_59 (by decide) ?_
            refine jr_aload_n dX12_qTest_61 1 rfl ?_
            refine jr_geti (i := 2) jc_12 jk_206 (by decide) (Nat.le_of_ble_eq_true rfl) jlk_206_2 jft_12_2 jw_1207 dX12_qTest_62 ?_
            refine j2_callVv (As := [jl_vi (12 : Int), jl_vi (jl_g s11 206 2)]) dX12_qTest_65 (jt_X12_qOpens G (12 : Int) (jl_g s11 206 2) (jl_nlit rfl) (jl_n3_to _) s11) jv_X12_qOpens ⟨rfl, rfl, rfl⟩ jw_1649 jk_206 (by decide) (by decide) rfl ⟨Nat.le_of_ble_eq_true rfl, Nat.le_of_ble_eq_true rfl⟩ rfl (Nat.le_of_ble_eq_true rfl) (fun r21 s22 hr21 => ?_)
            refine jr_aload_n dX12_qTest_68 1 rfl ?_
            refine jr_aload_n dX12_qTest_69 1 rfl ?_
            refine jr_getk (i := 81) jc_12 jk_206 (by decide) (Nat.le_of_ble_eq_true rfl) jlk_206_81 jw_1286 dX12_qTest_70 ?_
            refine j2_callVv (As := [jl_vr G 264]) dX12_qTest_73 (jt_X12_asks G 264 s22) jv_X12_asks ⟨rfl, rfl, rfl⟩ jw_1558 jk_206 (by decide) (by decide) rfl ⟨Nat.le_of_ble_eq_true rfl, Nat.le_of_ble_eq_true rfl⟩ rfl (Nat.le_of_ble_eq_true rfl) (fun r23 s24 hr23 => ?_)
            refine jr_goto (t := 2) dX12_qTest_76 (by decide) ?_
            refine jr_sub [1, 2] rfl ?_
            exact ih l1 hl1 s24
      · refine jr_sub [0] rfl ?_
        exact jj_X12_qTest_L110 G jl_fu s0
def jf_X12_qTest (s0 : jl_Mm) : jl_O :=
  jf_X12_qTest_L2 jl_fu (1 : Int) s0
set_option maxRecDepth 20000 in
set_option maxHeartbeats 2000000 in
theorem jt_X12_qTest (G : jl_GC) (s0 : jl_Mm) : jC2 G jM_X12_qTest [jl_vr G 206] s0 (jf_X12_qTest s0) := by
  refine jl_met (plainFor_of_name rfl) (Nat.le_of_ble_eq_true rfl) ?_
  show j2 G jM_X12_qTest 0 [(0, jl_vr G 206)] [] s0 _
  refine jr_iconst dX12_qTest_0 ?_
  refine jr_istore_n (lv := [(1, jl_vi (1 : Int)), (0, jl_vr G 206)]) dX12_qTest_1 rfl (Nat.le_of_ble_eq_true rfl) rfl ?_
  refine jr_sub [1, 0] rfl ?_
  exact jj_X12_qTest_L2 G jl_fu (1 : Int) (jl_nlit rfl) s0
def jf_X12_codesTold_L92 : Nat → Int → Int → jl_Mm → jl_O
  | 0, _, _, _ => none
  | n + 1, l1, l3, s0 =>
    if jl_g s0 206 100 ≤ l3 then (if 0 ≤ l1 ∧ l1 < ((6 : Nat) : Int) then jl_lm (jl_up s0 247 (l1).toNat (jl_g s0 206 52)) fun s16 => some (0, s16) else none) else (if 0 ≤ l3 ∧ l3 < ((1700 : Nat) : Int) then if 0 ≤ jl_g s0 206 52 ∧ jl_g s0 206 52 < ((3200 : Nat) : Int) then jl_lm (jl_up s0 248 (jl_g s0 206 52).toNat (jl_g s0 282 (l3).toNat)) fun s19 => jl_lm (jl_up s19 206 52 (jl_add (jl_g s19 206 52) (1 : Int))) fun s20 => jf_X12_codesTold_L92 n l1 (jl_add l3 1) s20 else none else none)
set_option maxRecDepth 20000 in
set_option maxHeartbeats 2000000 in
theorem jj_X12_codesTold_L92 (G : jl_GC) : ∀ (n : Nat) (l1 : Int) (l3 : Int) (hl1 : jl_n3 l1) (hl3 : jl_n3 l3) (s0 : jl_Mm), j2 G jM_X12_codesTold 92 [(0, jl_vr G 206), (1, jl_vi l1), (3, jl_vi l3)] [] s0 (jf_X12_codesTold_L92 n l1 l3 s0) := by
  intro n
  induction n with
  | zero =>
    intros
    exact jr_none
  | succ n ih =>
    intro l1 l3 hl1 hl3 s0
    refine jr_iload_n dX12_codesTold_92 2 rfl ?_
    refine jr_aload_n dX12_codesTold_93 0 rfl ?_
    refine jr_geti (i := 100) jc_12 jk_206 (by decide) (Nat.le_of_ble_eq_true rfl) jlk_206_100 jft_12_100 jw_1305 dX12_codesTold_94 ?_
    refine jr_icmp_ge (t := 131) dX12_codesTold_97 (by decide) hl3 (jl_n3_to _) (fun c14 => ?_) (fun c14 => ?_)
    · refine jr_aload_n dX12_codesTold_131 0 rfl ?_
      refine jr_getk (i := 50) jc_12 jk_206 (by decide) (Nat.le_of_ble_eq_true rfl) jlk_206_50 jw_1255 dX12_codesTold_132 ?_
      refine jr_iload_n dX12_codesTold_135 1 rfl ?_
      refine jr_aload_n dX12_codesTold_136 0 rfl ?_
      refine jr_geti (i := 52) jc_12 jk_206 (by decide) (Nat.le_of_ble_eq_true rfl) jlk_206_52 jft_12_52 jw_1257 dX12_codesTold_137 ?_
      refine jr_grd (fun g15 => ?_)
      refine jr_iastore jk_247 (by decide) hl1 g15 dX12_codesTold_140 ?_
      refine jr_lm (fun s16 => ?_)
      exact jr_ret_v rfl dX12_codesTold_141
    · refine jr_aload_n dX12_codesTold_100 0 rfl ?_
      refine jr_getk (i := 51) jc_12 jk_206 (by decide) (Nat.le_of_ble_eq_true rfl) jlk_206_51 jw_1256 dX12_codesTold_101 ?_
      refine jr_aload_n dX12_codesTold_104 0 rfl ?_
      refine jr_geti (i := 52) jc_12 jk_206 (by decide) (Nat.le_of_ble_eq_true rfl) jlk_206_52 jft_12_52 jw_1257 dX12_codesTold_105 ?_
      refine jr_aload_n dX12_codesTold_108 0 rfl ?_
      refine jr_getk (i := 99) jc_12 jk_206 (by decide) (Nat.le_of_ble_eq_true rfl) jlk_206_99 jw_1304 dX12_codesTold_109 ?_
      refine jr_iload_n dX12_codesTold_112 2 rfl ?_
      refine jr_grd (fun g17 => ?_)
      refine jr_iaload jk_282 (by decide) hl3 g17 dX12_codesTold_113 ?_
      refine jr_grd (fun g18 => ?_)
      refine jr_iastore jk_248 (by decide) (jl_n3_to _) g18 dX12_codesTold_114 ?_
      refine jr_lm (fun s19 => ?_)
      refine jr_aload_n dX12_codesTold_115 0 rfl ?_
      refine jr_dup dX12_codesTold_116 rfl ?_
      refine jr_geti (i := 52) jc_12 jk_206 (by decide) (Nat.le_of_ble_eq_true rfl) jlk_206_52 jft_12_52 jw_1257 dX12_codesTold_117 ?_
      refine jr_iconst dX12_codesTold_120 ?_
      refine jr_iadd dX12_codesTold_121 ?_
      refine jr_puti (i := 52) jc_12 jk_206 (by decide) (Nat.le_of_ble_eq_true rfl) jlk_206_52 jft_12_52 rfl jw_1257 rfl dX12_codesTold_122 ?_
      refine jr_lm (fun s20 => ?_)
      refine jr_iinc (j := 2) (lv := [(3, jl_vi (jl_add l3 1)), (0, jl_vr G 206), (1, jl_vi l1)]) dX12_codesTold_125 rfl (Nat.le_of_ble_eq_true rfl) rfl ?_
      refine jr_goto (t := 92) dX12_codesTold_128 (by decide) ?_
      refine jr_sub [1, 2, 0] rfl ?_
      exact ih l1 (jl_add l3 1) hl1 (jl_n3_to _) s20
def jf_X12_codesTold_B72 (l1 : Int) (s0 : jl_Mm) : jl_O :=
  if jl_g s0 206 5 = (0 : Int) then (if 0 ≤ l1 ∧ l1 < ((6 : Nat) : Int) then jl_lm (jl_up s0 246 (l1).toNat (jl_g s0 206 52)) fun s13 => jf_X12_codesTold_L92 jl_fu l1 (0 : Int) s13 else none) else (some (0, s0))
set_option maxRecDepth 20000 in
set_option maxHeartbeats 2000000 in
theorem jj_X12_codesTold_B72 (G : jl_GC) (l1 : Int) (hl1 : jl_n3 l1) (s0 : jl_Mm) : j2 G jM_X12_codesTold 72 [(0, jl_vr G 206), (1, jl_vi l1)] [] s0 (jf_X12_codesTold_B72 l1 s0) := by
  refine jr_aload_n dX12_codesTold_72 0 rfl ?_
  refine jr_geti (i := 5) jc_12 jk_206 (by decide) (Nat.le_of_ble_eq_true rfl) jlk_206_5 jft_12_5 jw_1210 dX12_codesTold_73 ?_
  refine jr_if_eq (t := 80) dX12_codesTold_76 (by decide) (jl_n3_to _) (fun c11 => ?_) (fun c11 => ?_)
  · refine jr_aload_n dX12_codesTold_80 0 rfl ?_
    refine jr_getk (i := 49) jc_12 jk_206 (by decide) (Nat.le_of_ble_eq_true rfl) jlk_206_49 jw_1254 dX12_codesTold_81 ?_
    refine jr_iload_n dX12_codesTold_84 1 rfl ?_
    refine jr_aload_n dX12_codesTold_85 0 rfl ?_
    refine jr_geti (i := 52) jc_12 jk_206 (by decide) (Nat.le_of_ble_eq_true rfl) jlk_206_52 jft_12_52 jw_1257 dX12_codesTold_86 ?_
    refine jr_grd (fun g12 => ?_)
    refine jr_iastore jk_246 (by decide) hl1 g12 dX12_codesTold_89 ?_
    refine jr_lm (fun s13 => ?_)
    refine jr_iconst dX12_codesTold_90 ?_
    refine jr_istore_n (lv := [(3, jl_vi (0 : Int)), (0, jl_vr G 206), (1, jl_vi l1)]) dX12_codesTold_91 rfl (Nat.le_of_ble_eq_true rfl) rfl ?_
    refine jr_sub [1, 2, 0] rfl ?_
    exact jj_X12_codesTold_L92 G jl_fu l1 (0 : Int) hl1 (jl_nlit rfl) s13
  · exact jr_ret_v rfl dX12_codesTold_79
def jf_X12_codesTold_B23 (l1 : Int) (s0 : jl_Mm) : jl_O :=
  if jl_g s0 206 5 = (0 : Int) then (jl_lm (jl_up s0 206 55 l1) fun s3 => jl_lm (jl_up s3 206 100 (0 : Int)) fun s4 => jl_lm (jl_up s4 206 102 (0 : Int)) fun s5 => jl_lm (jl_up s5 206 103 (0 : Int)) fun s6 => jl_lm (jl_up s6 206 104 (0 : Int)) fun s7 => if l1 = (2 : Int) then (jl_bd (jf_X12_qTest s7) fun r21 s22 => jf_X12_codesTold_B72 l1 s22) else (jl_bd (jf_X12_qSums s7) fun r9 s10 => jf_X12_codesTold_B72 l1 s10)) else (some (0, s0))
set_option maxRecDepth 20000 in
set_option maxHeartbeats 2000000 in
theorem jj_X12_codesTold_B23 (G : jl_GC) (l1 : Int) (hl1 : jl_n3 l1) (s0 : jl_Mm) : j2 G jM_X12_codesTold 23 [(0, jl_vr G 206), (1, jl_vi l1)] [] s0 (jf_X12_codesTold_B23 l1 s0) := by
  refine jr_aload_n dX12_codesTold_23 0 rfl ?_
  refine jr_geti (i := 5) jc_12 jk_206 (by decide) (Nat.le_of_ble_eq_true rfl) jlk_206_5 jft_12_5 jw_1210 dX12_codesTold_24 ?_
  refine jr_if_eq (t := 31) dX12_codesTold_27 (by decide) (jl_n3_to _) (fun c2 => ?_) (fun c2 => ?_)
  · refine jr_aload_n dX12_codesTold_31 0 rfl ?_
    refine jr_iload_n dX12_codesTold_32 1 rfl ?_
    refine jr_puti (i := 55) jc_12 jk_206 (by decide) (Nat.le_of_ble_eq_true rfl) jlk_206_55 jft_12_55 rfl jw_1260 rfl dX12_codesTold_33 ?_
    refine jr_lm (fun s3 => ?_)
    refine jr_aload_n dX12_codesTold_36 0 rfl ?_
    refine jr_iconst dX12_codesTold_37 ?_
    refine jr_puti (i := 100) jc_12 jk_206 (by decide) (Nat.le_of_ble_eq_true rfl) jlk_206_100 jft_12_100 rfl jw_1305 rfl dX12_codesTold_38 ?_
    refine jr_lm (fun s4 => ?_)
    refine jr_aload_n dX12_codesTold_41 0 rfl ?_
    refine jr_iconst dX12_codesTold_42 ?_
    refine jr_puti (i := 102) jc_12 jk_206 (by decide) (Nat.le_of_ble_eq_true rfl) jlk_206_102 jft_12_102 rfl jw_1307 rfl dX12_codesTold_43 ?_
    refine jr_lm (fun s5 => ?_)
    refine jr_aload_n dX12_codesTold_46 0 rfl ?_
    refine jr_iconst dX12_codesTold_47 ?_
    refine jr_puti (i := 103) jc_12 jk_206 (by decide) (Nat.le_of_ble_eq_true rfl) jlk_206_103 jft_12_103 rfl jw_1308 rfl dX12_codesTold_48 ?_
    refine jr_lm (fun s6 => ?_)
    refine jr_aload_n dX12_codesTold_51 0 rfl ?_
    refine jr_iconst dX12_codesTold_52 ?_
    refine jr_puti (i := 104) jc_12 jk_206 (by decide) (Nat.le_of_ble_eq_true rfl) jlk_206_104 jft_12_104 rfl jw_1309 rfl dX12_codesTold_53 ?_
    refine jr_lm (fun s7 => ?_)
    refine jr_iload_n dX12_codesTold_56 1 rfl ?_
    refine jr_iconst dX12_codesTold_57 ?_
    refine jr_icmp_ne (t := 68) dX12_codesTold_58 (by decide) hl1 (jl_nlit rfl) (fun c8 => ?_) (fun c8 => ?_)
    · refine jr_aload_n dX12_codesTold_61 0 rfl ?_
      refine j2_callVv (As := []) dX12_codesTold_62 (jt_X12_qTest G s7) jv_X12_qTest ⟨rfl, rfl, rfl⟩ jw_1645 jk_206 (by decide) (by decide) rfl ⟨Nat.le_of_ble_eq_true rfl, Nat.le_of_ble_eq_true rfl⟩ rfl (Nat.le_of_ble_eq_true rfl) (fun r21 s22 hr21 => ?_)
      refine jr_goto (t := 72) dX12_codesTold_65 (by decide) ?_
      exact jj_X12_codesTold_B72 G l1 hl1 s22
    · refine jr_aload_n dX12_codesTold_68 0 rfl ?_
      refine j2_callVv (As := []) dX12_codesTold_69 (jt_X12_qSums G s7) jv_X12_qSums ⟨rfl, rfl, rfl⟩ jw_1661 jk_206 (by decide) (by decide) rfl ⟨Nat.le_of_ble_eq_true rfl, Nat.le_of_ble_eq_true rfl⟩ rfl (Nat.le_of_ble_eq_true rfl) (fun r9 s10 hr9 => ?_)
      exact jj_X12_codesTold_B72 G l1 hl1 s10
  · exact jr_ret_v rfl dX12_codesTold_30
def jf_X12_codesTold (v1 : Int) (v2 : Int) (s0 : jl_Mm) : jl_O :=
  if jl_g s0 206 5 = (0 : Int) then (if 0 ≤ v1 ∧ v1 < ((6 : Nat) : Int) then if jl_g s0 246 (v1).toNat = (-1 : Int) then (jf_X12_codesTold_B23 v1 s0) else (jl_bd (jf_X12_fail (5 : Int) v2 s0) fun r25 s26 => jf_X12_codesTold_B23 v1 s26) else none) else (jf_X12_codesTold_B23 v1 s0)
set_option maxRecDepth 20000 in
set_option maxHeartbeats 2000000 in
theorem jt_X12_codesTold (G : jl_GC) (v1 : Int) (v2 : Int) (h1 : jl_n3 v1) (h2 : jl_n3 v2) (s0 : jl_Mm) : jC2 G jM_X12_codesTold [jl_vr G 206, jl_vi v1, jl_vi v2] s0 (jf_X12_codesTold v1 v2 s0) := by
  refine jl_met (plainFor_of_name rfl) (Nat.le_of_ble_eq_true rfl) ?_
  show j2 G jM_X12_codesTold 0 [(0, jl_vr G 206), (1, jl_vi v1), (2, jl_vi v2)] [] s0 _
  refine jr_aload_n dX12_codesTold_0 0 rfl ?_
  refine jr_geti (i := 5) jc_12 jk_206 (by decide) (Nat.le_of_ble_eq_true rfl) jlk_206_5 jft_12_5 jw_1210 dX12_codesTold_1 ?_
  refine jr_if_ne (t := 23) dX12_codesTold_4 (by decide) (jl_n3_to _) (fun c1 => ?_) (fun c1 => ?_)
  · refine jr_aload_n dX12_codesTold_7 0 rfl ?_
    refine jr_getk (i := 49) jc_12 jk_206 (by decide) (Nat.le_of_ble_eq_true rfl) jlk_206_49 jw_1254 dX12_codesTold_8 ?_
    refine jr_iload_n dX12_codesTold_11 1 rfl ?_
    refine jr_grd (fun g23 => ?_)
    refine jr_iaload jk_246 (by decide) h1 g23 dX12_codesTold_12 ?_
    refine jr_iconst dX12_codesTold_13 ?_
    refine jr_icmp_eq (t := 23) dX12_codesTold_14 (by decide) (jl_n3_to _) (jl_nlit rfl) (fun c24 => ?_) (fun c24 => ?_)
    · refine jr_sub [0, 1] rfl ?_
      exact jj_X12_codesTold_B23 G v1 h1 s0
    · refine jr_aload_n dX12_codesTold_17 0 rfl ?_
      refine jr_iconst dX12_codesTold_18 ?_
      refine jr_iload_n dX12_codesTold_19 2 rfl ?_
      refine j2_callVv (As := [jl_vi (5 : Int), jl_vi v2]) dX12_codesTold_20 (jt_X12_fail G (5 : Int) v2 (jl_nlit rfl) h2 s0) jv_X12_fail ⟨rfl, rfl, rfl⟩ jw_1577 jk_206 (by decide) (by decide) rfl ⟨Nat.le_of_ble_eq_true rfl, Nat.le_of_ble_eq_true rfl⟩ rfl (Nat.le_of_ble_eq_true rfl) (fun r25 s26 hr25 => ?_)
      refine jr_sub [0, 1] rfl ?_
      exact jj_X12_codesTold_B23 G v1 h1 s26
  · refine jr_sub [0, 1] rfl ?_
    exact jj_X12_codesTold_B23 G v1 h1 s0
