def jf_X12_goesOut (v1 : Int) (s0 : jl_Mm) : jl_O :=
  jl_bd (jf_X12_darkens v1 s0) fun r1 s2 => jl_bd (jf_X12_isKept v1 s2) fun r3 s4 => jl_lm (jl_up s4 206 61 (jl_add (jl_g s4 206 61) (1 : Int))) fun s5 => some (0, s5)
set_option maxRecDepth 20000 in
set_option maxHeartbeats 2000000 in
theorem jt_X12_goesOut (G : jl_GC) (v1 : Int) (h1 : jl_n3 v1) (s0 : jl_Mm) : jC2 G jM_X12_goesOut [jl_vr G 206, jl_vi v1] s0 (jf_X12_goesOut v1 s0) := by
  refine jl_met (plainFor_of_name rfl) (Nat.le_of_ble_eq_true rfl) ?_
  show j2 G jM_X12_goesOut 0 [(0, jl_vr G 206), (1, jl_vi v1)] [] s0 _
  refine jr_aload_n dX12_goesOut_0 0 rfl ?_
  refine jr_iload_n dX12_goesOut_1 1 rfl ?_
  refine j2_callVv (As := [jl_vi v1]) dX12_goesOut_2 (jt_X12_darkens G v1 h1 s0) jv_X12_darkens ⟨rfl, rfl, rfl⟩ jw_1910 jk_206 (by decide) (by decide) rfl ⟨Nat.le_of_ble_eq_true rfl, Nat.le_of_ble_eq_true rfl⟩ rfl (Nat.le_of_ble_eq_true rfl) (fun r1 s2 hr1 => ?_)
  refine jr_aload_n dX12_goesOut_5 0 rfl ?_
  refine jr_iload_n dX12_goesOut_6 1 rfl ?_
  refine j2_callVv (As := [jl_vi v1]) dX12_goesOut_7 (jt_X12_isKept G v1 h1 s2) jv_X12_isKept ⟨rfl, rfl, rfl⟩ jw_1914 jk_206 (by decide) (by decide) rfl ⟨Nat.le_of_ble_eq_true rfl, Nat.le_of_ble_eq_true rfl⟩ rfl (Nat.le_of_ble_eq_true rfl) (fun r3 s4 hr3 => ?_)
  refine jr_aload_n dX12_goesOut_10 0 rfl ?_
  refine jr_dup dX12_goesOut_11 rfl ?_
  refine jr_geti (i := 61) jc_12 jk_206 (by decide) (Nat.le_of_ble_eq_true rfl) jlk_206_61 jft_12_61 jw_1266 dX12_goesOut_12 ?_
  refine jr_iconst dX12_goesOut_15 ?_
  refine jr_iadd dX12_goesOut_16 ?_
  refine jr_puti (i := 61) jc_12 jk_206 (by decide) (Nat.le_of_ble_eq_true rfl) jlk_206_61 jft_12_61 rfl jw_1266 rfl dX12_goesOut_17 ?_
  refine jr_lm (fun s5 => ?_)
  exact jr_ret_v rfl dX12_goesOut_20
def jf_X12_planGoes_B103 (R2 : Int → jl_Mm → jl_O) (l1 : Int) (s0 : jl_Mm) : jl_O :=
  R2 (jl_add l1 1) s0
set_option maxRecDepth 20000 in
set_option maxHeartbeats 2000000 in
theorem jj_X12_planGoes_B103 (G : jl_GC) (R2 : Int → jl_Mm → jl_O) (hR2 : ∀ (l1 : Int) (_hl1 : jl_n3 l1) (s0 : jl_Mm), j2 G jM_X12_planGoes 2 [(0, jl_vr G 206), (1, jl_vi l1)] [] s0 (R2 l1 s0)) (l1 : Int) (hl1 : jl_n3 l1) (s0 : jl_Mm) : j2 G jM_X12_planGoes 103 [(0, jl_vr G 206), (1, jl_vi l1)] [] s0 (jf_X12_planGoes_B103 R2 l1 s0) := by
  refine jr_iinc (j := 1) (lv := [(1, jl_vi (jl_add l1 1)), (0, jl_vr G 206)]) dX12_planGoes_103 rfl (Nat.le_of_ble_eq_true rfl) rfl ?_
  refine jr_goto (t := 2) dX12_planGoes_106 (by decide) ?_
  refine jr_sub [1, 0] rfl ?_
  exact hR2 (jl_add l1 1) (jl_n3_to _) s0
def jf_X12_planGoes_L2 : Nat → Int → jl_Mm → jl_O
  | 0, _, _ => none
  | n + 1, l1, s0 =>
    jl_bd (jf_X12_planMany s0) fun r1 s2 => if r1 ≤ l1 then (some (0, s2)) else (jl_let (jl_add (48 : Int) (jl_mul (3 : Int) l1)) fun x4 => if 0 ≤ x4 ∧ x4 < ((96 : Nat) : Int) then jl_let (jl_g s2 245 (x4).toNat) fun x6 => if 0 ≤ jl_add x4 (1 : Int) ∧ jl_add x4 (1 : Int) < ((96 : Nat) : Int) then if jl_g s2 245 (jl_add x4 (1 : Int)).toNat = jl_g s2 249 (((0 : Int) : Int).toNat) then (jl_bd (jf_X12_isLit x6 s2) fun r9 s10 => if r9 = (0 : Int) then (if 0 ≤ jl_add x4 (2 : Int) ∧ jl_add x4 (2 : Int) < ((96 : Nat) : Int) then if jl_g s10 245 (jl_add x4 (2 : Int)).toNat ≤ jl_g s10 249 (((1 : Int) : Int).toNat) then (if 0 ≤ jl_add x4 (2 : Int) ∧ jl_add x4 (2 : Int) < ((96 : Nat) : Int) then if 0 ≤ jl_add (8 : Int) x6 ∧ jl_add (8 : Int) x6 < ((105 : Nat) : Int) then jl_lm (jl_up s10 249 (jl_add (8 : Int) x6).toNat (jl_g s10 245 (jl_add x4 (2 : Int)).toNat)) fun s16 => if 0 ≤ jl_add x4 (2 : Int) ∧ jl_add x4 (2 : Int) < ((96 : Nat) : Int) then jl_lm (jl_up s16 249 (((1 : Int) : Int).toNat) (jl_sub (jl_g s16 249 (((1 : Int) : Int).toNat)) (jl_g s16 245 (jl_add x4 (2 : Int)).toNat))) fun s18 => jf_X12_planGoes_B103 (jf_X12_planGoes_L2 n) l1 s18 else none else none else none) else (jf_X12_planGoes_B103 (jf_X12_planGoes_L2 n) l1 s10) else none) else (jf_X12_planGoes_B103 (jf_X12_planGoes_L2 n) l1 s10)) else (jf_X12_planGoes_B103 (jf_X12_planGoes_L2 n) l1 s2) else none else none)
set_option maxRecDepth 20000 in
set_option maxHeartbeats 2000000 in
theorem jj_X12_planGoes_L2 (G : jl_GC) : ∀ (n : Nat) (l1 : Int) (hl1 : jl_n3 l1) (s0 : jl_Mm), j2 G jM_X12_planGoes 2 [(0, jl_vr G 206), (1, jl_vi l1)] [] s0 (jf_X12_planGoes_L2 n l1 s0) := by
  intro n
  induction n with
  | zero =>
    intros
    exact jr_none
  | succ n ih =>
    intro l1 hl1 s0
    refine jr_iload_n dX12_planGoes_2 1 rfl ?_
    refine jr_aload_n dX12_planGoes_3 0 rfl ?_
    refine j2_callVi (As := []) dX12_planGoes_4 (jt_X12_planMany G s0) jv_X12_planMany ⟨rfl, rfl, rfl⟩ jw_1755 jk_206 (by decide) (by decide) rfl ⟨Nat.le_of_ble_eq_true rfl, Nat.le_of_ble_eq_true rfl⟩ rfl (Nat.le_of_ble_eq_true rfl) (fun r1 s2 hr1 => ?_)
    refine jr_icmp_ge (t := 109) dX12_planGoes_7 (by decide) hl1 hr1 (fun c3 => ?_) (fun c3 => ?_)
    · exact jr_ret_v rfl dX12_planGoes_109
    · refine jr_bipush dX12_planGoes_10 (by decide) ?_
      refine jr_iconst dX12_planGoes_12 ?_
      refine jr_iload_n dX12_planGoes_13 1 rfl ?_
      refine jr_imul dX12_planGoes_14 ?_
      refine jr_iadd dX12_planGoes_15 ?_
      refine jr_let (jl_n3_to _) (fun x4 hx4 => ?_)
      refine jr_istore_n (lv := [(2, jl_vi x4), (0, jl_vr G 206), (1, jl_vi l1)]) dX12_planGoes_16 rfl (Nat.le_of_ble_eq_true rfl) rfl ?_
      refine jr_aload_n dX12_planGoes_17 1 rfl ?_
      refine jr_getk (i := 48) jc_12 jk_206 (by decide) (Nat.le_of_ble_eq_true rfl) jlk_206_48 jw_1253 dX12_planGoes_18 ?_
      refine jr_iload_n dX12_planGoes_21 0 rfl ?_
      refine jr_grd (fun g5 => ?_)
      refine jr_iaload jk_245 (by decide) hx4 g5 dX12_planGoes_22 ?_
      refine jr_let (jl_n3_to _) (fun x6 hx6 => ?_)
      refine jr_istore_n (lv := [(3, jl_vi x6), (2, jl_vi x4), (0, jl_vr G 206), (1, jl_vi l1)]) dX12_planGoes_23 rfl (Nat.le_of_ble_eq_true rfl) rfl ?_
      refine jr_aload_n dX12_planGoes_24 2 rfl ?_
      refine jr_getk (i := 48) jc_12 jk_206 (by decide) (Nat.le_of_ble_eq_true rfl) jlk_206_48 jw_1253 dX12_planGoes_25 ?_
      refine jr_iload_n dX12_planGoes_28 1 rfl ?_
      refine jr_iconst dX12_planGoes_29 ?_
      refine jr_iadd dX12_planGoes_30 ?_
      refine jr_grd (fun g7 => ?_)
      refine jr_iaload jk_245 (by decide) (jl_n3_to _) g7 dX12_planGoes_31 ?_
      refine jr_aload_n dX12_planGoes_32 2 rfl ?_
      refine jr_getk (i := 56) jc_12 jk_206 (by decide) (Nat.le_of_ble_eq_true rfl) jlk_206_56 jw_1261 dX12_planGoes_33 ?_
      refine jr_iconst dX12_planGoes_36 ?_
      refine jr_iaload jk_249 (by decide) (jl_nlit rfl) ⟨by decide, by decide⟩ dX12_planGoes_37 ?_
      refine jr_icmp_ne (t := 103) dX12_planGoes_38 (by decide) (jl_n3_to _) (jl_n3_to _) (fun c8 => ?_) (fun c8 => ?_)
      · refine jr_aload_n dX12_planGoes_41 2 rfl ?_
        refine jr_iload_n dX12_planGoes_42 0 rfl ?_
        refine j2_callVz (As := [jl_vi x6]) dX12_planGoes_43 (jt_X12_isLit G x6 hx6 s2) jv_X12_isLit ⟨rfl, rfl, rfl⟩ jw_1763 jk_206 (by decide) (by decide) rfl ⟨Nat.le_of_ble_eq_true rfl, Nat.le_of_ble_eq_true rfl⟩ rfl (Nat.le_of_ble_eq_true rfl) (fun r9 s10 hr9 => ?_)
        refine jr_if_ne (t := 103) dX12_planGoes_46 (by decide) (jl_nz hr9) (fun c11 => ?_) (fun c11 => ?_)
        · refine jr_aload_n dX12_planGoes_49 2 rfl ?_
          refine jr_getk (i := 56) jc_12 jk_206 (by decide) (Nat.le_of_ble_eq_true rfl) jlk_206_56 jw_1261 dX12_planGoes_50 ?_
          refine jr_iconst dX12_planGoes_53 ?_
          refine jr_iaload jk_249 (by decide) (jl_nlit rfl) ⟨by decide, by decide⟩ dX12_planGoes_54 ?_
          refine jr_aload_n dX12_planGoes_55 2 rfl ?_
          refine jr_getk (i := 48) jc_12 jk_206 (by decide) (Nat.le_of_ble_eq_true rfl) jlk_206_48 jw_1253 dX12_planGoes_56 ?_
          refine jr_iload_n dX12_planGoes_59 1 rfl ?_
          refine jr_iconst dX12_planGoes_60 ?_
          refine jr_iadd dX12_planGoes_61 ?_
          refine jr_grd (fun g12 => ?_)
          refine jr_iaload jk_245 (by decide) (jl_n3_to _) g12 dX12_planGoes_62 ?_
          refine jr_icmp_ge (t := 69) dX12_planGoes_63 (by decide) (jl_n3_to _) (jl_n3_to _) (fun c13 => ?_) (fun c13 => ?_)
          · refine jr_aload_n dX12_planGoes_69 2 rfl ?_
            refine jr_getk (i := 56) jc_12 jk_206 (by decide) (Nat.le_of_ble_eq_true rfl) jlk_206_56 jw_1261 dX12_planGoes_70 ?_
            refine jr_bipush dX12_planGoes_73 (by decide) ?_
            refine jr_iload_n dX12_planGoes_75 0 rfl ?_
            refine jr_iadd dX12_planGoes_76 ?_
            refine jr_aload_n dX12_planGoes_77 2 rfl ?_
            refine jr_getk (i := 48) jc_12 jk_206 (by decide) (Nat.le_of_ble_eq_true rfl) jlk_206_48 jw_1253 dX12_planGoes_78 ?_
            refine jr_iload_n dX12_planGoes_81 1 rfl ?_
            refine jr_iconst dX12_planGoes_82 ?_
            refine jr_iadd dX12_planGoes_83 ?_
            refine jr_grd (fun g14 => ?_)
            refine jr_iaload jk_245 (by decide) (jl_n3_to _) g14 dX12_planGoes_84 ?_
            refine jr_grd (fun g15 => ?_)
            refine jr_iastore jk_249 (by decide) (jl_n3_to _) g15 dX12_planGoes_85 ?_
            refine jr_lm (fun s16 => ?_)
            refine jr_aload_n dX12_planGoes_86 2 rfl ?_
            refine jr_getk (i := 56) jc_12 jk_206 (by decide) (Nat.le_of_ble_eq_true rfl) jlk_206_56 jw_1261 dX12_planGoes_87 ?_
            refine jr_iconst dX12_planGoes_90 ?_
            refine jr_dup2_11 dX12_planGoes_91 rfl rfl ?_
            refine jr_iaload jk_249 (by decide) (jl_nlit rfl) ⟨by decide, by decide⟩ dX12_planGoes_92 ?_
            refine jr_aload_n dX12_planGoes_93 2 rfl ?_
            refine jr_getk (i := 48) jc_12 jk_206 (by decide) (Nat.le_of_ble_eq_true rfl) jlk_206_48 jw_1253 dX12_planGoes_94 ?_
            refine jr_iload_n dX12_planGoes_97 1 rfl ?_
            refine jr_iconst dX12_planGoes_98 ?_
            refine jr_iadd dX12_planGoes_99 ?_
            refine jr_grd (fun g17 => ?_)
            refine jr_iaload jk_245 (by decide) (jl_n3_to _) g17 dX12_planGoes_100 ?_
            refine jr_isub dX12_planGoes_101 ?_
            refine jr_iastore jk_249 (by decide) (jl_nlit rfl) ⟨by decide, by decide⟩ dX12_planGoes_102 ?_
            refine jr_lm (fun s18 => ?_)
            refine jr_sub [2, 3] rfl ?_
            exact jj_X12_planGoes_B103 G (jf_X12_planGoes_L2 n) (ih) l1 hl1 s18
          · refine jr_goto (t := 103) dX12_planGoes_66 (by decide) ?_
            refine jr_sub [2, 3] rfl ?_
            exact jj_X12_planGoes_B103 G (jf_X12_planGoes_L2 n) (ih) l1 hl1 s10
        · refine jr_sub [2, 3] rfl ?_
          exact jj_X12_planGoes_B103 G (jf_X12_planGoes_L2 n) (ih) l1 hl1 s10
      · refine jr_sub [2, 3] rfl ?_
        exact jj_X12_planGoes_B103 G (jf_X12_planGoes_L2 n) (ih) l1 hl1 s2
def jf_X12_planGoes (s0 : jl_Mm) : jl_O :=
  jf_X12_planGoes_L2 jl_fu (0 : Int) s0
set_option maxRecDepth 20000 in
set_option maxHeartbeats 2000000 in
theorem jt_X12_planGoes (G : jl_GC) (s0 : jl_Mm) : jC2 G jM_X12_planGoes [jl_vr G 206] s0 (jf_X12_planGoes s0) := by
  refine jl_met (plainFor_of_name rfl) (Nat.le_of_ble_eq_true rfl) ?_
  show j2 G jM_X12_planGoes 0 [(0, jl_vr G 206)] [] s0 _
  refine jr_iconst dX12_planGoes_0 ?_
  refine jr_istore_n (lv := [(1, jl_vi (0 : Int)), (0, jl_vr G 206)]) dX12_planGoes_1 rfl (Nat.le_of_ble_eq_true rfl) rfl ?_
  refine jr_sub [1, 0] rfl ?_
  exact jj_X12_planGoes_L2 G jl_fu (0 : Int) (jl_nlit rfl) s0
def jf_X12_burnt_B29 (l1 : Int) (k0 : Int) (s0 : jl_Mm) : jl_O :=
  if 0 ≤ jl_add (8 : Int) l1 ∧ jl_add (8 : Int) l1 < ((105 : Nat) : Int) then jl_bd (jf_X12_clamp k0 (jl_g s0 249 (jl_add (8 : Int) l1).toNat) s0) fun r8 s9 => some (r8, s9) else none
set_option maxRecDepth 20000 in
set_option maxHeartbeats 2000000 in
theorem jj_X12_burnt_B29 (G : jl_GC) (l1 : Int) (k0 : Int) (hl1 : jl_n3 l1) (hk0 : jl_n6 k0) (s0 : jl_Mm) : j2 G jM_X12_burnt 29 [(0, jl_vr G 206), (1, jl_vi l1)] [jl_vl k0] s0 (jf_X12_burnt_B29 l1 k0 s0) := by
  refine jr_aload_n dX12_burnt_29 0 rfl ?_
  refine jr_getk (i := 56) jc_12 jk_206 (by decide) (Nat.le_of_ble_eq_true rfl) jlk_206_56 jw_1261 dX12_burnt_30 ?_
  refine jr_bipush dX12_burnt_33 (by decide) ?_
  refine jr_iload_n dX12_burnt_35 1 rfl ?_
  refine jr_iadd dX12_burnt_36 ?_
  refine jr_grd (fun g7 => ?_)
  refine jr_iaload jk_249 (by decide) (jl_n3_to _) g7 dX12_burnt_37 ?_
  refine j2_callSi (As := [jl_vl k0, jl_vi (jl_g s0 249 (jl_add (8 : Int) l1).toNat)]) dX12_burnt_38 (jt_X12_clamp G k0 (jl_g s0 249 (jl_add (8 : Int) l1).toNat) hk0 (jl_n3_to _) s0) jv_X12_clamp ⟨rfl, rfl, rfl⟩ jw_1820 ⟨Nat.le_of_ble_eq_true rfl, Nat.le_of_ble_eq_true rfl⟩ rfl (Nat.le_of_ble_eq_true rfl) (fun r8 s9 hr8 => ?_)
  exact jr_ret_i rfl hr8 dX12_burnt_41
def jf_X12_burnt (v1 : Int) (s0 : jl_Mm) : jl_O :=
  jl_lm (jl_up s0 206 57 v1) fun s1 => jl_bd (jf_X12_isCoded (1 : Int) s1) fun r2 s3 => if r2 = (0 : Int) then (jl_bd (jf_X12_nearTo v1 s3) fun r5 s6 => jf_X12_burnt_B29 v1 (jl_ladd (1 : Int) r5) s6) else (jl_bd (jf_X12_codesTell (1 : Int) s3) fun r10 s11 => jf_X12_burnt_B29 v1 r10 s11)
set_option maxRecDepth 20000 in
set_option maxHeartbeats 2000000 in
theorem jt_X12_burnt (G : jl_GC) (v1 : Int) (h1 : jl_n3 v1) (s0 : jl_Mm) : jC2 G jM_X12_burnt [jl_vr G 206, jl_vi v1] s0 (jf_X12_burnt v1 s0) := by
  refine jl_met (plainFor_of_name rfl) (Nat.le_of_ble_eq_true rfl) ?_
  show j2 G jM_X12_burnt 0 [(0, jl_vr G 206), (1, jl_vi v1)] [] s0 _
  refine jr_aload_n dX12_burnt_0 0 rfl ?_
  refine jr_iload_n dX12_burnt_1 1 rfl ?_
  refine jr_puti (i := 57) jc_12 jk_206 (by decide) (Nat.le_of_ble_eq_true rfl) jlk_206_57 jft_12_57 rfl jw_1262 rfl dX12_burnt_2 ?_
  refine jr_lm (fun s1 => ?_)
  refine jr_aload_n dX12_burnt_5 0 rfl ?_
  refine jr_iconst dX12_burnt_6 ?_
  refine j2_callVz (As := [jl_vi (1 : Int)]) dX12_burnt_7 (jt_X12_isCoded G (1 : Int) (jl_nlit rfl) s1) jv_X12_isCoded ⟨rfl, rfl, rfl⟩ jw_1779 jk_206 (by decide) (by decide) rfl ⟨Nat.le_of_ble_eq_true rfl, Nat.le_of_ble_eq_true rfl⟩ rfl (Nat.le_of_ble_eq_true rfl) (fun r2 s3 hr2 => ?_)
  refine jr_if_eq (t := 21) dX12_burnt_10 (by decide) (jl_nz hr2) (fun c4 => ?_) (fun c4 => ?_)
  · refine jr_lconst (v := 1) dX12_burnt_21 (by decide) ?_
    refine jr_aload_n dX12_burnt_22 0 rfl ?_
    refine jr_iload_n dX12_burnt_23 1 rfl ?_
    refine j2_callVi (As := [jl_vi v1]) dX12_burnt_24 (jt_X12_nearTo G v1 h1 s3) jv_X12_nearTo ⟨rfl, rfl, rfl⟩ jw_1795 jk_206 (by decide) (by decide) rfl ⟨Nat.le_of_ble_eq_true rfl, Nat.le_of_ble_eq_true rfl⟩ rfl (Nat.le_of_ble_eq_true rfl) (fun r5 s6 hr5 => ?_)
    refine jr_i2l dX12_burnt_27 hr5 ?_
    refine jr_ladd dX12_burnt_28 ?_
    exact jj_X12_burnt_B29 G v1 (jl_ladd (1 : Int) r5) h1 (jl_n6_to _) s6
  · refine jr_aload_n dX12_burnt_13 0 rfl ?_
    refine jr_iconst dX12_burnt_14 ?_
    refine j2_callVl (As := [jl_vi (1 : Int)]) dX12_burnt_15 (jt_X12_codesTell G (1 : Int) (jl_nlit rfl) s3) jv_X12_codesTell ⟨rfl, rfl, rfl⟩ jw_1783 jk_206 (by decide) (by decide) rfl ⟨Nat.le_of_ble_eq_true rfl, Nat.le_of_ble_eq_true rfl⟩ rfl (Nat.le_of_ble_eq_true rfl) (fun r10 s11 hr10 => ?_)
    refine jr_goto (t := 29) dX12_burnt_18 (by decide) ?_
    exact jj_X12_burnt_B29 G v1 r10 h1 hr10 s11
def jf_X12_hourGoes_B136 (R59 : Int → jl_Mm → jl_O) (l1 : Int) (s0 : jl_Mm) : jl_O :=
  R59 (jl_add l1 1) s0
set_option maxRecDepth 20000 in
set_option maxHeartbeats 2000000 in
theorem jj_X12_hourGoes_B136 (G : jl_GC) (R59 : Int → jl_Mm → jl_O) (hR59 : ∀ (l1 : Int) (_hl1 : jl_n3 l1) (s0 : jl_Mm), j2 G jM_X12_hourGoes 59 [(0, jl_vr G 206), (1, jl_vi l1)] [] s0 (R59 l1 s0)) (l1 : Int) (hl1 : jl_n3 l1) (s0 : jl_Mm) : j2 G jM_X12_hourGoes 136 [(0, jl_vr G 206), (1, jl_vi l1)] [] s0 (jf_X12_hourGoes_B136 R59 l1 s0) := by
  refine jr_iinc (j := 1) (lv := [(1, jl_vi (jl_add l1 1)), (0, jl_vr G 206)]) dX12_hourGoes_136 rfl (Nat.le_of_ble_eq_true rfl) rfl ?_
  refine jr_goto (t := 59) dX12_hourGoes_139 (by decide) ?_
  refine jr_sub [1, 0] rfl ?_
  exact hR59 (jl_add l1 1) (jl_n3_to _) s0
def jf_X12_hourGoes_B122 (R59 : Int → jl_Mm → jl_O) (l1 : Int) (s0 : jl_Mm) : jl_O :=
  if 0 ≤ l1 ∧ l1 < ((8 : Nat) : Int) then if jl_g s0 251 (l1).toNat = (0 : Int) then (jl_bd (jf_X12_goesOut l1 s0) fun r21 s22 => jf_X12_hourGoes_B136 (R59) l1 s22) else (jf_X12_hourGoes_B136 (R59) l1 s0) else none
set_option maxRecDepth 20000 in
set_option maxHeartbeats 2000000 in
theorem jj_X12_hourGoes_B122 (G : jl_GC) (R59 : Int → jl_Mm → jl_O) (hR59 : ∀ (l1 : Int) (_hl1 : jl_n3 l1) (s0 : jl_Mm), j2 G jM_X12_hourGoes 59 [(0, jl_vr G 206), (1, jl_vi l1)] [] s0 (R59 l1 s0)) (l1 : Int) (hl1 : jl_n3 l1) (s0 : jl_Mm) : j2 G jM_X12_hourGoes 122 [(0, jl_vr G 206), (1, jl_vi l1)] [] s0 (jf_X12_hourGoes_B122 R59 l1 s0) := by
  refine jr_aload_n dX12_hourGoes_122 0 rfl ?_
  refine jr_getk (i := 62) jc_12 jk_206 (by decide) (Nat.le_of_ble_eq_true rfl) jlk_206_62 jw_1267 dX12_hourGoes_123 ?_
  refine jr_iload_n dX12_hourGoes_126 1 rfl ?_
  refine jr_grd (fun g19 => ?_)
  refine jr_iaload jk_251 (by decide) hl1 g19 dX12_hourGoes_127 ?_
  refine jr_if_ne (t := 136) dX12_hourGoes_128 (by decide) (jl_n3_to _) (fun c20 => ?_) (fun c20 => ?_)
  · refine jr_aload_n dX12_hourGoes_131 0 rfl ?_
    refine jr_iload_n dX12_hourGoes_132 1 rfl ?_
    refine j2_callVv (As := [jl_vi l1]) dX12_hourGoes_133 (jt_X12_goesOut G l1 hl1 s0) jv_X12_goesOut ⟨rfl, rfl, rfl⟩ jw_1906 jk_206 (by decide) (by decide) rfl ⟨Nat.le_of_ble_eq_true rfl, Nat.le_of_ble_eq_true rfl⟩ rfl (Nat.le_of_ble_eq_true rfl) (fun r21 s22 hr21 => ?_)
    exact jj_X12_hourGoes_B136 G (R59) (hR59) l1 hl1 s22
  · exact jj_X12_hourGoes_B136 G (R59) (hR59) l1 hl1 s0
def jf_X12_hourGoes_L59 : Nat → Int → jl_Mm → jl_O
  | 0, _, _ => none
  | n + 1, l1, s0 =>
    jl_bd (jf_X12_lieMany s0) fun r8 s9 => if r8 ≤ l1 then (jl_lm (jl_up s9 249 (((0 : Int) : Int).toNat) (jl_add (jl_g s9 249 (((0 : Int) : Int).toNat)) (1 : Int))) fun s11 => some (0, s11)) else (if 0 ≤ l1 ∧ l1 < ((8 : Nat) : Int) then if jl_g s9 251 (l1).toNat = (-1 : Int) then (jf_X12_hourGoes_B136 (jf_X12_hourGoes_L59 n) l1 s9) else (if 0 ≤ l1 ∧ l1 < ((8 : Nat) : Int) then if 0 ≤ jl_add (8 : Int) l1 ∧ jl_add (8 : Int) l1 < ((105 : Nat) : Int) then jl_lm (jl_up s9 249 (jl_add (8 : Int) l1).toNat (jl_g s9 251 (l1).toNat)) fun s16 => if 0 ≤ jl_add (16 : Int) l1 ∧ jl_add (16 : Int) l1 < ((105 : Nat) : Int) then if (99 : Int) ≤ jl_g s16 249 (jl_add (16 : Int) l1).toNat then (jf_X12_hourGoes_B122 (jf_X12_hourGoes_L59 n) l1 s16) else (if 0 ≤ jl_add (16 : Int) l1 ∧ jl_add (16 : Int) l1 < ((105 : Nat) : Int) then if 0 ≤ jl_add (16 : Int) l1 ∧ jl_add (16 : Int) l1 < ((105 : Nat) : Int) then jl_lm (jl_up s16 249 (jl_add (16 : Int) l1).toNat (jl_add (jl_g s16 249 (jl_add (16 : Int) l1).toNat) (1 : Int))) fun s25 => jf_X12_hourGoes_B122 (jf_X12_hourGoes_L59 n) l1 s25 else none else none) else none else none else none) else none)
set_option maxRecDepth 20000 in
set_option maxHeartbeats 2000000 in
theorem jj_X12_hourGoes_L59 (G : jl_GC) : ∀ (n : Nat) (l1 : Int) (hl1 : jl_n3 l1) (s0 : jl_Mm), j2 G jM_X12_hourGoes 59 [(0, jl_vr G 206), (1, jl_vi l1)] [] s0 (jf_X12_hourGoes_L59 n l1 s0) := by
  intro n
  induction n with
  | zero =>
    intros
    exact jr_none
  | succ n ih =>
    intro l1 hl1 s0
    refine jr_iload_n dX12_hourGoes_59 1 rfl ?_
    refine jr_aload_n dX12_hourGoes_60 0 rfl ?_
    refine j2_callVi (As := []) dX12_hourGoes_61 (jt_X12_lieMany G s0) jv_X12_lieMany ⟨rfl, rfl, rfl⟩ jw_1751 jk_206 (by decide) (by decide) rfl ⟨Nat.le_of_ble_eq_true rfl, Nat.le_of_ble_eq_true rfl⟩ rfl (Nat.le_of_ble_eq_true rfl) (fun r8 s9 hr8 => ?_)
    refine jr_icmp_ge (t := 142) dX12_hourGoes_64 (by decide) hl1 hr8 (fun c10 => ?_) (fun c10 => ?_)
    · refine jr_aload_n dX12_hourGoes_142 0 rfl ?_
      refine jr_getk (i := 56) jc_12 jk_206 (by decide) (Nat.le_of_ble_eq_true rfl) jlk_206_56 jw_1261 dX12_hourGoes_143 ?_
      refine jr_iconst dX12_hourGoes_146 ?_
      refine jr_dup2_11 dX12_hourGoes_147 rfl rfl ?_
      refine jr_iaload jk_249 (by decide) (jl_nlit rfl) ⟨by decide, by decide⟩ dX12_hourGoes_148 ?_
      refine jr_iconst dX12_hourGoes_149 ?_
      refine jr_iadd dX12_hourGoes_150 ?_
      refine jr_iastore jk_249 (by decide) (jl_nlit rfl) ⟨by decide, by decide⟩ dX12_hourGoes_151 ?_
      refine jr_lm (fun s11 => ?_)
      exact jr_ret_v rfl dX12_hourGoes_152
    · refine jr_aload_n dX12_hourGoes_67 0 rfl ?_
      refine jr_getk (i := 62) jc_12 jk_206 (by decide) (Nat.le_of_ble_eq_true rfl) jlk_206_62 jw_1267 dX12_hourGoes_68 ?_
      refine jr_iload_n dX12_hourGoes_71 1 rfl ?_
      refine jr_grd (fun g12 => ?_)
      refine jr_iaload jk_251 (by decide) hl1 g12 dX12_hourGoes_72 ?_
      refine jr_iconst dX12_hourGoes_73 ?_
      refine jr_icmp_ne (t := 80) dX12_hourGoes_74 (by decide) (jl_n3_to _) (jl_nlit rfl) (fun c13 => ?_) (fun c13 => ?_)
      · refine jr_goto (t := 136) dX12_hourGoes_77 (by decide) ?_
        exact jj_X12_hourGoes_B136 G (jf_X12_hourGoes_L59 n) (ih) l1 hl1 s9
      · refine jr_aload_n dX12_hourGoes_80 0 rfl ?_
        refine jr_getk (i := 56) jc_12 jk_206 (by decide) (Nat.le_of_ble_eq_true rfl) jlk_206_56 jw_1261 dX12_hourGoes_81 ?_
        refine jr_bipush dX12_hourGoes_84 (by decide) ?_
        refine jr_iload_n dX12_hourGoes_86 1 rfl ?_
        refine jr_iadd dX12_hourGoes_87 ?_
        refine jr_aload_n dX12_hourGoes_88 0 rfl ?_
        refine jr_getk (i := 62) jc_12 jk_206 (by decide) (Nat.le_of_ble_eq_true rfl) jlk_206_62 jw_1267 dX12_hourGoes_89 ?_
        refine jr_iload_n dX12_hourGoes_92 1 rfl ?_
        refine jr_grd (fun g14 => ?_)
        refine jr_iaload jk_251 (by decide) hl1 g14 dX12_hourGoes_93 ?_
        refine jr_grd (fun g15 => ?_)
        refine jr_iastore jk_249 (by decide) (jl_n3_to _) g15 dX12_hourGoes_94 ?_
        refine jr_lm (fun s16 => ?_)
        refine jr_aload_n dX12_hourGoes_95 0 rfl ?_
        refine jr_getk (i := 56) jc_12 jk_206 (by decide) (Nat.le_of_ble_eq_true rfl) jlk_206_56 jw_1261 dX12_hourGoes_96 ?_
        refine jr_bipush dX12_hourGoes_99 (by decide) ?_
        refine jr_iload_n dX12_hourGoes_101 1 rfl ?_
        refine jr_iadd dX12_hourGoes_102 ?_
        refine jr_grd (fun g17 => ?_)
        refine jr_iaload jk_249 (by decide) (jl_n3_to _) g17 dX12_hourGoes_103 ?_
        refine jr_bipush dX12_hourGoes_104 (by decide) ?_
        refine jr_icmp_ge (t := 122) dX12_hourGoes_106 (by decide) (jl_n3_to _) (jl_nlit rfl) (fun c18 => ?_) (fun c18 => ?_)
        · exact jj_X12_hourGoes_B122 G (jf_X12_hourGoes_L59 n) (ih) l1 hl1 s16
        · refine jr_aload_n dX12_hourGoes_109 0 rfl ?_
          refine jr_getk (i := 56) jc_12 jk_206 (by decide) (Nat.le_of_ble_eq_true rfl) jlk_206_56 jw_1261 dX12_hourGoes_110 ?_
          refine jr_bipush dX12_hourGoes_113 (by decide) ?_
          refine jr_iload_n dX12_hourGoes_115 1 rfl ?_
          refine jr_iadd dX12_hourGoes_116 ?_
          refine jr_dup2_11 dX12_hourGoes_117 rfl rfl ?_
          refine jr_grd (fun g23 => ?_)
          refine jr_iaload jk_249 (by decide) (jl_n3_to _) g23 dX12_hourGoes_118 ?_
          refine jr_iconst dX12_hourGoes_119 ?_
          refine jr_iadd dX12_hourGoes_120 ?_
          refine jr_grd (fun g24 => ?_)
          refine jr_iastore jk_249 (by decide) (jl_n3_to _) g24 dX12_hourGoes_121 ?_
          refine jr_lm (fun s25 => ?_)
          exact jj_X12_hourGoes_B122 G (jf_X12_hourGoes_L59 n) (ih) l1 hl1 s25
def jf_X12_hourGoes_B50 (R10 : Int → jl_Mm → jl_O) (l1 : Int) (k1 : Int) (k2 : Int) (s0 : jl_Mm) : jl_O :=
  if 0 ≤ k1 ∧ k1 < ((8 : Nat) : Int) then jl_lm (jl_up s0 251 (k1).toNat k2) fun s30 => R10 (jl_add l1 1) s30 else none
set_option maxRecDepth 20000 in
set_option maxHeartbeats 2000000 in
theorem jj_X12_hourGoes_B50 (G : jl_GC) (R10 : Int → jl_Mm → jl_O) (hR10 : ∀ (l1 : Int) (_hl1 : jl_n3 l1) (s0 : jl_Mm), j2 G jM_X12_hourGoes 10 [(0, jl_vr G 206), (1, jl_vi l1)] [] s0 (R10 l1 s0)) (l1 : Int) (k1 : Int) (k2 : Int) (hl1 : jl_n3 l1) (hk1 : jl_n3 k1) (hk2 : jl_n3 k2) (s0 : jl_Mm) : j2 G jM_X12_hourGoes 50 [(0, jl_vr G 206), (1, jl_vi l1)] [jl_vi k2, jl_vi k1, jl_vr G 251] s0 (jf_X12_hourGoes_B50 R10 l1 k1 k2 s0) := by
  refine jr_grd (fun g29 => ?_)
  refine jr_iastore jk_251 (by decide) hk1 g29 dX12_hourGoes_50 ?_
  refine jr_lm (fun s30 => ?_)
  refine jr_iinc (j := 1) (lv := [(1, jl_vi (jl_add l1 1)), (0, jl_vr G 206)]) dX12_hourGoes_51 rfl (Nat.le_of_ble_eq_true rfl) rfl ?_
  refine jr_goto (t := 10) dX12_hourGoes_54 (by decide) ?_
  refine jr_sub [1, 0] rfl ?_
  exact hR10 (jl_add l1 1) (jl_n3_to _) s30
def jf_X12_hourGoes_L10 : Nat → Int → jl_Mm → jl_O
  | 0, _, _ => none
  | n + 1, l1, s0 =>
    jl_bd (jf_X12_lieMany s0) fun r5 s6 => if r5 ≤ l1 then (jf_X12_hourGoes_L59 jl_fu (0 : Int) s6) else (jl_bd (jf_X12_isLit l1 s6) fun r26 s27 => if r26 = (0 : Int) then (jf_X12_hourGoes_B50 (jf_X12_hourGoes_L10 n) l1 l1 (-1 : Int) s27) else (if 0 ≤ jl_add (8 : Int) l1 ∧ jl_add (8 : Int) l1 < ((105 : Nat) : Int) then jl_bd (jf_X12_burnt l1 s27) fun r32 s33 => jf_X12_hourGoes_B50 (jf_X12_hourGoes_L10 n) l1 l1 (jl_sub (jl_g s27 249 (jl_add (8 : Int) l1).toNat) r32) s33 else none))
set_option maxRecDepth 20000 in
set_option maxHeartbeats 2000000 in
theorem jj_X12_hourGoes_L10 (G : jl_GC) : ∀ (n : Nat) (l1 : Int) (hl1 : jl_n3 l1) (s0 : jl_Mm), j2 G jM_X12_hourGoes 10 [(0, jl_vr G 206), (1, jl_vi l1)] [] s0 (jf_X12_hourGoes_L10 n l1 s0) := by
  intro n
  induction n with
  | zero =>
    intros
    exact jr_none
  | succ n ih =>
    intro l1 hl1 s0
    refine jr_iload_n dX12_hourGoes_10 1 rfl ?_
    refine jr_aload_n dX12_hourGoes_11 0 rfl ?_
    refine j2_callVi (As := []) dX12_hourGoes_12 (jt_X12_lieMany G s0) jv_X12_lieMany ⟨rfl, rfl, rfl⟩ jw_1751 jk_206 (by decide) (by decide) rfl ⟨Nat.le_of_ble_eq_true rfl, Nat.le_of_ble_eq_true rfl⟩ rfl (Nat.le_of_ble_eq_true rfl) (fun r5 s6 hr5 => ?_)
    refine jr_icmp_ge (t := 57) dX12_hourGoes_15 (by decide) hl1 hr5 (fun c7 => ?_) (fun c7 => ?_)
    · refine jr_iconst dX12_hourGoes_57 ?_
      refine jr_istore_n (lv := [(1, jl_vi (0 : Int)), (0, jl_vr G 206)]) dX12_hourGoes_58 rfl (Nat.le_of_ble_eq_true rfl) rfl ?_
      refine jr_sub [1, 0] rfl ?_
      exact jj_X12_hourGoes_L59 G jl_fu (0 : Int) (jl_nlit rfl) s6
    · refine jr_aload_n dX12_hourGoes_18 0 rfl ?_
      refine jr_getk (i := 62) jc_12 jk_206 (by decide) (Nat.le_of_ble_eq_true rfl) jlk_206_62 jw_1267 dX12_hourGoes_19 ?_
      refine jr_iload_n dX12_hourGoes_22 1 rfl ?_
      refine jr_aload_n dX12_hourGoes_23 0 rfl ?_
      refine jr_iload_n dX12_hourGoes_24 1 rfl ?_
      refine j2_callVz (As := [jl_vi l1]) dX12_hourGoes_25 (jt_X12_isLit G l1 hl1 s6) jv_X12_isLit ⟨rfl, rfl, rfl⟩ jw_1763 jk_206 (by decide) (by decide) rfl ⟨Nat.le_of_ble_eq_true rfl, Nat.le_of_ble_eq_true rfl⟩ rfl (Nat.le_of_ble_eq_true rfl) (fun r26 s27 hr26 => ?_)
      refine jr_if_eq (t := 49) dX12_hourGoes_28 (by decide) (jl_nz hr26) (fun c28 => ?_) (fun c28 => ?_)
      · refine jr_iconst dX12_hourGoes_49 ?_
        exact jj_X12_hourGoes_B50 G (jf_X12_hourGoes_L10 n) (ih) l1 l1 (-1 : Int) hl1 hl1 (jl_nlit rfl) s27
      · refine jr_aload_n dX12_hourGoes_31 0 rfl ?_
        refine jr_getk (i := 56) jc_12 jk_206 (by decide) (Nat.le_of_ble_eq_true rfl) jlk_206_56 jw_1261 dX12_hourGoes_32 ?_
        refine jr_bipush dX12_hourGoes_35 (by decide) ?_
        refine jr_iload_n dX12_hourGoes_37 1 rfl ?_
        refine jr_iadd dX12_hourGoes_38 ?_
        refine jr_grd (fun g31 => ?_)
        refine jr_iaload jk_249 (by decide) (jl_n3_to _) g31 dX12_hourGoes_39 ?_
        refine jr_aload_n dX12_hourGoes_40 0 rfl ?_
        refine jr_iload_n dX12_hourGoes_41 1 rfl ?_
        refine j2_callVi (As := [jl_vi l1]) dX12_hourGoes_42 (jt_X12_burnt G l1 hl1 s27) jv_X12_burnt ⟨rfl, rfl, rfl⟩ jw_1902 jk_206 (by decide) (by decide) rfl ⟨Nat.le_of_ble_eq_true rfl, Nat.le_of_ble_eq_true rfl⟩ rfl (Nat.le_of_ble_eq_true rfl) (fun r32 s33 hr32 => ?_)
        refine jr_isub dX12_hourGoes_45 ?_
        refine jr_goto (t := 50) dX12_hourGoes_46 (by decide) ?_
        exact jj_X12_hourGoes_B50 G (jf_X12_hourGoes_L10 n) (ih) l1 l1 (jl_sub (jl_g s27 249 (jl_add (8 : Int) l1).toNat) r32) hl1 hl1 (jl_n3_to _) s33
def jf_X12_hourGoes (s0 : jl_Mm) : jl_O :=
  jl_bd (jf_X12_laysDrafts s0) fun r1 s2 => jl_bd (jf_X12_planGoes s2) fun r3 s4 => jf_X12_hourGoes_L10 jl_fu (0 : Int) s4
set_option maxRecDepth 20000 in
set_option maxHeartbeats 2000000 in
theorem jt_X12_hourGoes (G : jl_GC) (s0 : jl_Mm) : jC2 G jM_X12_hourGoes [jl_vr G 206] s0 (jf_X12_hourGoes s0) := by
  refine jl_met (plainFor_of_name rfl) (Nat.le_of_ble_eq_true rfl) ?_
  show j2 G jM_X12_hourGoes 0 [(0, jl_vr G 206)] [] s0 _
  refine jr_aload_n dX12_hourGoes_0 0 rfl ?_
  refine j2_callVv (As := []) dX12_hourGoes_1 (jt_X12_laysDrafts G s0) jv_X12_laysDrafts ⟨rfl, rfl, rfl⟩ jw_1771 jk_206 (by decide) (by decide) rfl ⟨Nat.le_of_ble_eq_true rfl, Nat.le_of_ble_eq_true rfl⟩ rfl (Nat.le_of_ble_eq_true rfl) (fun r1 s2 hr1 => ?_)
  refine jr_aload_n dX12_hourGoes_4 0 rfl ?_
  refine j2_callVv (As := []) dX12_hourGoes_5 (jt_X12_planGoes G s2) jv_X12_planGoes ⟨rfl, rfl, rfl⟩ jw_1898 jk_206 (by decide) (by decide) rfl ⟨Nat.le_of_ble_eq_true rfl, Nat.le_of_ble_eq_true rfl⟩ rfl (Nat.le_of_ble_eq_true rfl) (fun r3 s4 hr3 => ?_)
  refine jr_iconst dX12_hourGoes_8 ?_
  refine jr_istore_n (lv := [(1, jl_vi (0 : Int)), (0, jl_vr G 206)]) dX12_hourGoes_9 rfl (Nat.le_of_ble_eq_true rfl) rfl ?_
  refine jr_sub [1, 0] rfl ?_
  exact jj_X12_hourGoes_L10 G jl_fu (0 : Int) (jl_nlit rfl) s4
def jf_X12_hoursGo_L7 : Nat → Int → Int → jl_Mm → jl_O
  | 0, _, _, _ => none
  | n + 1, l1, l2, s0 =>
    if l1 ≤ l2 then (some (0, s0)) else (jl_bd (jf_X12_hourGoes s0) fun r3 s4 => jf_X12_hoursGo_L7 n l1 (jl_add l2 1) s4)
set_option maxRecDepth 20000 in
set_option maxHeartbeats 2000000 in
theorem jj_X12_hoursGo_L7 (G : jl_GC) : ∀ (n : Nat) (l1 : Int) (l2 : Int) (hl1 : jl_n3 l1) (hl2 : jl_n3 l2) (s0 : jl_Mm), j2 G jM_X12_hoursGo 7 [(0, jl_vr G 206), (1, jl_vi l1), (2, jl_vi l2)] [] s0 (jf_X12_hoursGo_L7 n l1 l2 s0) := by
  intro n
  induction n with
  | zero =>
    intros
    exact jr_none
  | succ n ih =>
    intro l1 l2 hl1 hl2 s0
    refine jr_iload_n dX12_hoursGo_7 2 rfl ?_
    refine jr_iload_n dX12_hoursGo_8 1 rfl ?_
    refine jr_icmp_ge (t := 22) dX12_hoursGo_9 (by decide) hl2 hl1 (fun c2 => ?_) (fun c2 => ?_)
    · exact jr_ret_v rfl dX12_hoursGo_22
    · refine jr_aload_n dX12_hoursGo_12 0 rfl ?_
      refine j2_callVv (As := []) dX12_hoursGo_13 (jt_X12_hourGoes G s0) jv_X12_hourGoes ⟨rfl, rfl, rfl⟩ jw_1894 jk_206 (by decide) (by decide) rfl ⟨Nat.le_of_ble_eq_true rfl, Nat.le_of_ble_eq_true rfl⟩ rfl (Nat.le_of_ble_eq_true rfl) (fun r3 s4 hr3 => ?_)
      refine jr_iinc (j := 2) (lv := [(2, jl_vi (jl_add l2 1)), (0, jl_vr G 206), (1, jl_vi l1)]) dX12_hoursGo_16 rfl (Nat.le_of_ble_eq_true rfl) rfl ?_
      refine jr_goto (t := 7) dX12_hoursGo_19 (by decide) ?_
      refine jr_sub [1, 2, 0] rfl ?_
      exact ih l1 (jl_add l2 1) hl1 (jl_n3_to _) s4
def jf_X12_hoursGo (v1 : Int) (s0 : jl_Mm) : jl_O :=
  jl_lm (jl_up s0 206 61 (0 : Int)) fun s1 => jf_X12_hoursGo_L7 jl_fu v1 (0 : Int) s1
set_option maxRecDepth 20000 in
set_option maxHeartbeats 2000000 in
theorem jt_X12_hoursGo (G : jl_GC) (v1 : Int) (h1 : jl_n3 v1) (s0 : jl_Mm) : jC2 G jM_X12_hoursGo [jl_vr G 206, jl_vi v1] s0 (jf_X12_hoursGo v1 s0) := by
  refine jl_met (plainFor_of_name rfl) (Nat.le_of_ble_eq_true rfl) ?_
  show j2 G jM_X12_hoursGo 0 [(0, jl_vr G 206), (1, jl_vi v1)] [] s0 _
  refine jr_aload_n dX12_hoursGo_0 0 rfl ?_
  refine jr_iconst dX12_hoursGo_1 ?_
  refine jr_puti (i := 61) jc_12 jk_206 (by decide) (Nat.le_of_ble_eq_true rfl) jlk_206_61 jft_12_61 rfl jw_1266 rfl dX12_hoursGo_2 ?_
  refine jr_lm (fun s1 => ?_)
  refine jr_iconst dX12_hoursGo_5 ?_
  refine jr_istore_n (lv := [(2, jl_vi (0 : Int)), (0, jl_vr G 206), (1, jl_vi v1)]) dX12_hoursGo_6 rfl (Nat.le_of_ble_eq_true rfl) rfl ?_
  refine jr_sub [1, 2, 0] rfl ?_
  exact jj_X12_hoursGo_L7 G jl_fu v1 (0 : Int) h1 (jl_nlit rfl) s1
def jf_X12_blows_B32 (R2 : Int → Int → jl_Mm → jl_O) (l1 : Int) (l2 : Int) (s0 : jl_Mm) : jl_O :=
  R2 l1 (jl_add l2 1) s0
set_option maxRecDepth 20000 in
set_option maxHeartbeats 2000000 in
theorem jj_X12_blows_B32 (G : jl_GC) (R2 : Int → Int → jl_Mm → jl_O) (hR2 : ∀ (l1 : Int) (l2 : Int) (_hl1 : jl_n3 l1) (_hl2 : jl_n3 l2) (s0 : jl_Mm), j2 G jM_X12_blows 2 [(0, jl_vr G 206), (1, jl_vi l1), (2, jl_vi l2)] [] s0 (R2 l1 l2 s0)) (l1 : Int) (l2 : Int) (hl1 : jl_n3 l1) (hl2 : jl_n3 l2) (s0 : jl_Mm) : j2 G jM_X12_blows 32 [(0, jl_vr G 206), (1, jl_vi l1), (2, jl_vi l2)] [] s0 (jf_X12_blows_B32 R2 l1 l2 s0) := by
  refine jr_iinc (j := 2) (lv := [(2, jl_vi (jl_add l2 1)), (0, jl_vr G 206), (1, jl_vi l1)]) dX12_blows_32 rfl (Nat.le_of_ble_eq_true rfl) rfl ?_
  refine jr_goto (t := 2) dX12_blows_35 (by decide) ?_
  refine jr_sub [1, 2, 0] rfl ?_
  exact hR2 l1 (jl_add l2 1) hl1 (jl_n3_to _) s0
def jf_X12_blows_L2 : Nat → Int → Int → jl_Mm → jl_O
  | 0, _, _, _ => none
  | n + 1, l1, l2, s0 =>
    jl_bd (jf_X12_lieMany s0) fun r1 s2 => if r1 ≤ l2 then (some (0, s2)) else (jl_bd (jf_X12_isLit l2 s2) fun r4 s5 => if r4 = (0 : Int) then (jf_X12_blows_B32 (jf_X12_blows_L2 n) l1 l2 s5) else (jl_bd (jf_X12_windowOf l2 s5) fun r7 s8 => if r7 = l1 then (jl_bd (jf_X12_goesOut l2 s8) fun r10 s11 => jf_X12_blows_B32 (jf_X12_blows_L2 n) l1 l2 s11) else (jf_X12_blows_B32 (jf_X12_blows_L2 n) l1 l2 s8)))
set_option maxRecDepth 20000 in
set_option maxHeartbeats 2000000 in
theorem jj_X12_blows_L2 (G : jl_GC) : ∀ (n : Nat) (l1 : Int) (l2 : Int) (hl1 : jl_n3 l1) (hl2 : jl_n3 l2) (s0 : jl_Mm), j2 G jM_X12_blows 2 [(0, jl_vr G 206), (1, jl_vi l1), (2, jl_vi l2)] [] s0 (jf_X12_blows_L2 n l1 l2 s0) := by
  intro n
  induction n with
  | zero =>
    intros
    exact jr_none
  | succ n ih =>
    intro l1 l2 hl1 hl2 s0
    refine jr_iload_n dX12_blows_2 2 rfl ?_
    refine jr_aload_n dX12_blows_3 0 rfl ?_
    refine j2_callVi (As := []) dX12_blows_4 (jt_X12_lieMany G s0) jv_X12_lieMany ⟨rfl, rfl, rfl⟩ jw_1751 jk_206 (by decide) (by decide) rfl ⟨Nat.le_of_ble_eq_true rfl, Nat.le_of_ble_eq_true rfl⟩ rfl (Nat.le_of_ble_eq_true rfl) (fun r1 s2 hr1 => ?_)
    refine jr_icmp_ge (t := 38) dX12_blows_7 (by decide) hl2 hr1 (fun c3 => ?_) (fun c3 => ?_)
    · exact jr_ret_v rfl dX12_blows_38
    · refine jr_aload_n dX12_blows_10 0 rfl ?_
      refine jr_iload_n dX12_blows_11 2 rfl ?_
      refine j2_callVz (As := [jl_vi l2]) dX12_blows_12 (jt_X12_isLit G l2 hl2 s2) jv_X12_isLit ⟨rfl, rfl, rfl⟩ jw_1763 jk_206 (by decide) (by decide) rfl ⟨Nat.le_of_ble_eq_true rfl, Nat.le_of_ble_eq_true rfl⟩ rfl (Nat.le_of_ble_eq_true rfl) (fun r4 s5 hr4 => ?_)
      refine jr_if_eq (t := 32) dX12_blows_15 (by decide) (jl_nz hr4) (fun c6 => ?_) (fun c6 => ?_)
      · exact jj_X12_blows_B32 G (jf_X12_blows_L2 n) (ih) l1 l2 hl1 hl2 s5
      · refine jr_aload_n dX12_blows_18 0 rfl ?_
        refine jr_iload_n dX12_blows_19 2 rfl ?_
        refine j2_callVi (As := [jl_vi l2]) dX12_blows_20 (jt_X12_windowOf G l2 hl2 s5) jv_X12_windowOf ⟨rfl, rfl, rfl⟩ jw_1799 jk_206 (by decide) (by decide) rfl ⟨Nat.le_of_ble_eq_true rfl, Nat.le_of_ble_eq_true rfl⟩ rfl (Nat.le_of_ble_eq_true rfl) (fun r7 s8 hr7 => ?_)
        refine jr_iload_n dX12_blows_23 1 rfl ?_
        refine jr_icmp_ne (t := 32) dX12_blows_24 (by decide) hr7 hl1 (fun c9 => ?_) (fun c9 => ?_)
        · refine jr_aload_n dX12_blows_27 0 rfl ?_
          refine jr_iload_n dX12_blows_28 2 rfl ?_
          refine j2_callVv (As := [jl_vi l2]) dX12_blows_29 (jt_X12_goesOut G l2 hl2 s8) jv_X12_goesOut ⟨rfl, rfl, rfl⟩ jw_1906 jk_206 (by decide) (by decide) rfl ⟨Nat.le_of_ble_eq_true rfl, Nat.le_of_ble_eq_true rfl⟩ rfl (Nat.le_of_ble_eq_true rfl) (fun r10 s11 hr10 => ?_)
          exact jj_X12_blows_B32 G (jf_X12_blows_L2 n) (ih) l1 l2 hl1 hl2 s11
        · exact jj_X12_blows_B32 G (jf_X12_blows_L2 n) (ih) l1 l2 hl1 hl2 s8
def jf_X12_blows (v1 : Int) (s0 : jl_Mm) : jl_O :=
  jf_X12_blows_L2 jl_fu v1 (0 : Int) s0
set_option maxRecDepth 20000 in
set_option maxHeartbeats 2000000 in
theorem jt_X12_blows (G : jl_GC) (v1 : Int) (h1 : jl_n3 v1) (s0 : jl_Mm) : jC2 G jM_X12_blows [jl_vr G 206, jl_vi v1] s0 (jf_X12_blows v1 s0) := by
  refine jl_met (plainFor_of_name rfl) (Nat.le_of_ble_eq_true rfl) ?_
  show j2 G jM_X12_blows 0 [(0, jl_vr G 206), (1, jl_vi v1)] [] s0 _
  refine jr_iconst dX12_blows_0 ?_
  refine jr_istore_n (lv := [(2, jl_vi (0 : Int)), (0, jl_vr G 206), (1, jl_vi v1)]) dX12_blows_1 rfl (Nat.le_of_ble_eq_true rfl) rfl ?_
  refine jr_sub [1, 2, 0] rfl ?_
  exact jj_X12_blows_L2 G jl_fu v1 (0 : Int) h1 (jl_nlit rfl) s0
def jf_X12_putsAside_L7 : Nat → Int → jl_Mm → jl_O
  | 0, _, _ => none
  | n + 1, l1, s0 =>
    if (24 : Int) ≤ l1 then (some (0, s0)) else (if 0 ≤ l1 ∧ l1 < ((105 : Nat) : Int) then if 0 ≤ l1 ∧ l1 < ((24 : Nat) : Int) then jl_lm (jl_up s0 252 (l1).toNat (jl_g s0 249 (l1).toNat)) fun s5 => jf_X12_putsAside_L7 n (jl_add l1 1) s5 else none else none)
set_option maxRecDepth 20000 in
set_option maxHeartbeats 2000000 in
theorem jj_X12_putsAside_L7 (G : jl_GC) : ∀ (n : Nat) (l1 : Int) (hl1 : jl_n3 l1) (s0 : jl_Mm), j2 G jM_X12_putsAside 7 [(0, jl_vr G 206), (1, jl_vi l1)] [] s0 (jf_X12_putsAside_L7 n l1 s0) := by
  intro n
  induction n with
  | zero =>
    intros
    exact jr_none
  | succ n ih =>
    intro l1 hl1 s0
    refine jr_iload_n dX12_putsAside_7 1 rfl ?_
    refine jr_bipush dX12_putsAside_8 (by decide) ?_
    refine jr_icmp_ge (t := 31) dX12_putsAside_10 (by decide) hl1 (jl_nlit rfl) (fun c2 => ?_) (fun c2 => ?_)
    · exact jr_ret_v rfl dX12_putsAside_31
    · refine jr_aload_n dX12_putsAside_13 0 rfl ?_
      refine jr_getk (i := 64) jc_12 jk_206 (by decide) (Nat.le_of_ble_eq_true rfl) jlk_206_64 jw_1269 dX12_putsAside_14 ?_
      refine jr_iload_n dX12_putsAside_17 1 rfl ?_
      refine jr_aload_n dX12_putsAside_18 0 rfl ?_
      refine jr_getk (i := 56) jc_12 jk_206 (by decide) (Nat.le_of_ble_eq_true rfl) jlk_206_56 jw_1261 dX12_putsAside_19 ?_
      refine jr_iload_n dX12_putsAside_22 1 rfl ?_
      refine jr_grd (fun g3 => ?_)
      refine jr_iaload jk_249 (by decide) hl1 g3 dX12_putsAside_23 ?_
      refine jr_grd (fun g4 => ?_)
      refine jr_iastore jk_252 (by decide) hl1 g4 dX12_putsAside_24 ?_
      refine jr_lm (fun s5 => ?_)
      refine jr_iinc (j := 1) (lv := [(1, jl_vi (jl_add l1 1)), (0, jl_vr G 206)]) dX12_putsAside_25 rfl (Nat.le_of_ble_eq_true rfl) rfl ?_
      refine jr_goto (t := 7) dX12_putsAside_28 (by decide) ?_
      refine jr_sub [1, 0] rfl ?_
      exact ih (jl_add l1 1) (jl_n3_to _) s5
def jf_X12_putsAside (s0 : jl_Mm) : jl_O :=
  jl_lm (jl_up s0 206 63 (1 : Int)) fun s1 => jf_X12_putsAside_L7 jl_fu (0 : Int) s1
set_option maxRecDepth 20000 in
set_option maxHeartbeats 2000000 in
theorem jt_X12_putsAside (G : jl_GC) (s0 : jl_Mm) : jC2 G jM_X12_putsAside [jl_vr G 206] s0 (jf_X12_putsAside s0) := by
  refine jl_met (plainFor_of_name rfl) (Nat.le_of_ble_eq_true rfl) ?_
  show j2 G jM_X12_putsAside 0 [(0, jl_vr G 206)] [] s0 _
  refine jr_aload_n dX12_putsAside_0 0 rfl ?_
  refine jr_iconst dX12_putsAside_1 ?_
  refine jr_putz (i := 63) jc_12 jk_206 (by decide) (Nat.le_of_ble_eq_true rfl) jlk_206_63 jft_12_63 rfl (by decide) jw_1268 rfl dX12_putsAside_2 ?_
  refine jr_lm (fun s1 => ?_)
  refine jr_iconst dX12_putsAside_5 ?_
  refine jr_istore_n (lv := [(1, jl_vi (0 : Int)), (0, jl_vr G 206)]) dX12_putsAside_6 rfl (Nat.le_of_ble_eq_true rfl) rfl ?_
  refine jr_sub [1, 0] rfl ?_
  exact jj_X12_putsAside_L7 G jl_fu (0 : Int) (jl_nlit rfl) s1
def jf_X12_triesAnew_L2 : Nat → Int → jl_Mm → jl_O
  | 0, _, _ => none
  | n + 1, l1, s0 =>
    if (24 : Int) ≤ l1 then (some (0, s0)) else (if 0 ≤ l1 ∧ l1 < ((24 : Nat) : Int) then if 0 ≤ l1 ∧ l1 < ((105 : Nat) : Int) then jl_lm (jl_up s0 249 (l1).toNat (jl_g s0 252 (l1).toNat)) fun s4 => jf_X12_triesAnew_L2 n (jl_add l1 1) s4 else none else none)
set_option maxRecDepth 20000 in
set_option maxHeartbeats 2000000 in
theorem jj_X12_triesAnew_L2 (G : jl_GC) : ∀ (n : Nat) (l1 : Int) (hl1 : jl_n3 l1) (s0 : jl_Mm), j2 G jM_X12_triesAnew 2 [(0, jl_vr G 206), (1, jl_vi l1)] [] s0 (jf_X12_triesAnew_L2 n l1 s0) := by
  intro n
  induction n with
  | zero =>
    intros
    exact jr_none
  | succ n ih =>
    intro l1 hl1 s0
    refine jr_iload_n dX12_triesAnew_2 1 rfl ?_
    refine jr_bipush dX12_triesAnew_3 (by decide) ?_
    refine jr_icmp_ge (t := 26) dX12_triesAnew_5 (by decide) hl1 (jl_nlit rfl) (fun c1 => ?_) (fun c1 => ?_)
    · exact jr_ret_v rfl dX12_triesAnew_26
    · refine jr_aload_n dX12_triesAnew_8 0 rfl ?_
      refine jr_getk (i := 56) jc_12 jk_206 (by decide) (Nat.le_of_ble_eq_true rfl) jlk_206_56 jw_1261 dX12_triesAnew_9 ?_
      refine jr_iload_n dX12_triesAnew_12 1 rfl ?_
      refine jr_aload_n dX12_triesAnew_13 0 rfl ?_
      refine jr_getk (i := 64) jc_12 jk_206 (by decide) (Nat.le_of_ble_eq_true rfl) jlk_206_64 jw_1269 dX12_triesAnew_14 ?_
      refine jr_iload_n dX12_triesAnew_17 1 rfl ?_
      refine jr_grd (fun g2 => ?_)
      refine jr_iaload jk_252 (by decide) hl1 g2 dX12_triesAnew_18 ?_
      refine jr_grd (fun g3 => ?_)
      refine jr_iastore jk_249 (by decide) hl1 g3 dX12_triesAnew_19 ?_
      refine jr_lm (fun s4 => ?_)
      refine jr_iinc (j := 1) (lv := [(1, jl_vi (jl_add l1 1)), (0, jl_vr G 206)]) dX12_triesAnew_20 rfl (Nat.le_of_ble_eq_true rfl) rfl ?_
      refine jr_goto (t := 2) dX12_triesAnew_23 (by decide) ?_
      refine jr_sub [1, 0] rfl ?_
      exact ih (jl_add l1 1) (jl_n3_to _) s4
def jf_X12_triesAnew (s0 : jl_Mm) : jl_O :=
  jf_X12_triesAnew_L2 jl_fu (0 : Int) s0
set_option maxRecDepth 20000 in
set_option maxHeartbeats 2000000 in
theorem jt_X12_triesAnew (G : jl_GC) (s0 : jl_Mm) : jC2 G jM_X12_triesAnew [jl_vr G 206] s0 (jf_X12_triesAnew s0) := by
  refine jl_met (plainFor_of_name rfl) (Nat.le_of_ble_eq_true rfl) ?_
  show j2 G jM_X12_triesAnew 0 [(0, jl_vr G 206)] [] s0 _
  refine jr_iconst dX12_triesAnew_0 ?_
  refine jr_istore_n (lv := [(1, jl_vi (0 : Int)), (0, jl_vr G 206)]) dX12_triesAnew_1 rfl (Nat.le_of_ble_eq_true rfl) rfl ?_
  refine jr_sub [1, 0] rfl ?_
  exact jj_X12_triesAnew_L2 G jl_fu (0 : Int) (jl_nlit rfl) s0
def jf_X12_takesBack (s0 : jl_Mm) : jl_O :=
  jl_bd (jf_X12_triesAnew s0) fun r1 s2 => jl_lm (jl_up s2 206 63 (0 : Int)) fun s3 => some (0, s3)
set_option maxRecDepth 20000 in
set_option maxHeartbeats 2000000 in
theorem jt_X12_takesBack (G : jl_GC) (s0 : jl_Mm) : jC2 G jM_X12_takesBack [jl_vr G 206] s0 (jf_X12_takesBack s0) := by
  refine jl_met (plainFor_of_name rfl) (Nat.le_of_ble_eq_true rfl) ?_
  show j2 G jM_X12_takesBack 0 [(0, jl_vr G 206)] [] s0 _
  refine jr_aload_n dX12_takesBack_0 0 rfl ?_
  refine j2_callVv (As := []) dX12_takesBack_1 (jt_X12_triesAnew G s0) jv_X12_triesAnew ⟨rfl, rfl, rfl⟩ jw_1922 jk_206 (by decide) (by decide) rfl ⟨Nat.le_of_ble_eq_true rfl, Nat.le_of_ble_eq_true rfl⟩ rfl (Nat.le_of_ble_eq_true rfl) (fun r1 s2 hr1 => ?_)
  refine jr_aload_n dX12_takesBack_4 0 rfl ?_
  refine jr_iconst dX12_takesBack_5 ?_
  refine jr_putz (i := 63) jc_12 jk_206 (by decide) (Nat.le_of_ble_eq_true rfl) jlk_206_63 jft_12_63 rfl (by decide) jw_1268 rfl dX12_takesBack_6 ?_
  refine jr_lm (fun s3 => ?_)
  exact jr_ret_v rfl dX12_takesBack_9
def jf_X12_isAhead_B38 (k0 : Int) (s0 : jl_Mm) : jl_O :=
  jl_zb k0 s0
set_option maxRecDepth 20000 in
set_option maxHeartbeats 2000000 in
theorem jj_X12_isAhead_B38 (G : jl_GC) (k0 : Int) (hk0 : jl_n3 k0) (s0 : jl_Mm) : j2 G jM_X12_isAhead 38 [] [jl_vi k0] s0 (jf_X12_isAhead_B38 k0 s0) := by
  exact jr_ret_z rfl dX12_isAhead_38
def jf_X12_isAhead_B37 (s0 : jl_Mm) : jl_O :=
  jf_X12_isAhead_B38 (0 : Int) s0
set_option maxRecDepth 20000 in
set_option maxHeartbeats 2000000 in
theorem jj_X12_isAhead_B37 (G : jl_GC) (s0 : jl_Mm) : j2 G jM_X12_isAhead 37 [] [] s0 (jf_X12_isAhead_B37 s0) := by
  refine jr_iconst dX12_isAhead_37 ?_
  exact jj_X12_isAhead_B38 G (0 : Int) (jl_nlit rfl) s0
def jf_X12_isAhead (v1 : Int) (v2 : Int) (v3 : Int) (s0 : jl_Mm) : jl_O :=
  if jl_g s0 206 54 = (0 : Int) then (jf_X12_isAhead_B37 s0) else (jl_bd (jf_X12_isIn v1 v2 v3 s0) fun r2 s3 => if r2 = (0 : Int) then (jf_X12_isAhead_B37 s3) else (if (999 : Int) < jl_add (jl_g s3 249 (((0 : Int) : Int).toNat)) v1 then (jf_X12_isAhead_B37 s3) else (jf_X12_isAhead_B38 (1 : Int) s3)))
set_option maxRecDepth 20000 in
set_option maxHeartbeats 2000000 in
theorem jt_X12_isAhead (G : jl_GC) (v1 : Int) (v2 : Int) (v3 : Int) (h1 : jl_n3 v1) (h2 : jl_n3 v2) (h3 : jl_n3 v3) (s0 : jl_Mm) : jC2 G jM_X12_isAhead [jl_vr G 206, jl_vi v1, jl_vi v2, jl_vi v3] s0 (jf_X12_isAhead v1 v2 v3 s0) := by
  refine jl_met (plainFor_of_name rfl) (Nat.le_of_ble_eq_true rfl) ?_
  show j2 G jM_X12_isAhead 0 [(0, jl_vr G 206), (1, jl_vi v1), (2, jl_vi v2), (3, jl_vi v3)] [] s0 _
  refine jr_aload_n dX12_isAhead_0 0 rfl ?_
  refine jr_geti (i := 54) jc_12 jk_206 (by decide) (Nat.le_of_ble_eq_true rfl) jlk_206_54 jft_12_54 jw_1259 dX12_isAhead_1 ?_
  refine jr_if_eq (t := 37) dX12_isAhead_4 (by decide) (jl_n3_to _) (fun c1 => ?_) (fun c1 => ?_)
  · refine jr_sub [] rfl ?_
    exact jj_X12_isAhead_B37 G s0
  · refine jr_iload_n dX12_isAhead_7 1 rfl ?_
    refine jr_i2l dX12_isAhead_8 h1 ?_
    refine jr_iload_n dX12_isAhead_9 2 rfl ?_
    refine jr_i2l dX12_isAhead_10 h2 ?_
    refine jr_iload_n dX12_isAhead_11 3 rfl ?_
    refine jr_i2l dX12_isAhead_12 h3 ?_
    refine j2_callSz (As := [jl_vl v1, jl_vl v2, jl_vl v3]) dX12_isAhead_13 (jt_X12_isIn G v1 v2 v3 (jl_n36 h1) (jl_n36 h2) (jl_n36 h3) s0) jv_X12_isIn ⟨rfl, rfl, rfl⟩ jw_1588 ⟨Nat.le_of_ble_eq_true rfl, Nat.le_of_ble_eq_true rfl⟩ rfl (Nat.le_of_ble_eq_true rfl) (fun r2 s3 hr2 => ?_)
    refine jr_if_eq (t := 37) dX12_isAhead_16 (by decide) (jl_nz hr2) (fun c4 => ?_) (fun c4 => ?_)
    · refine jr_sub [] rfl ?_
      exact jj_X12_isAhead_B37 G s3
    · refine jr_aload_n dX12_isAhead_19 0 rfl ?_
      refine jr_getk (i := 56) jc_12 jk_206 (by decide) (Nat.le_of_ble_eq_true rfl) jlk_206_56 jw_1261 dX12_isAhead_20 ?_
      refine jr_iconst dX12_isAhead_23 ?_
      refine jr_iaload jk_249 (by decide) (jl_nlit rfl) ⟨by decide, by decide⟩ dX12_isAhead_24 ?_
      refine jr_iload_n dX12_isAhead_25 1 rfl ?_
      refine jr_iadd dX12_isAhead_26 ?_
      refine jr_sipush dX12_isAhead_27 (by decide) ?_
      refine jr_icmp_gt (t := 37) dX12_isAhead_30 (by decide) (jl_n3_to _) (jl_nlit rfl) (fun c5 => ?_) (fun c5 => ?_)
      · refine jr_sub [] rfl ?_
        exact jj_X12_isAhead_B37 G s3
      · refine jr_iconst dX12_isAhead_33 ?_
        refine jr_goto (t := 38) dX12_isAhead_34 (by decide) ?_
        refine jr_sub [] rfl ?_
        exact jj_X12_isAhead_B38 G (1 : Int) (jl_nlit rfl) s3
def jf_X12_litMany_B23 (R4 : Int → Int → jl_Mm → jl_O) (l1 : Int) (l2 : Int) (s0 : jl_Mm) : jl_O :=
  R4 l1 (jl_add l2 1) s0
set_option maxRecDepth 20000 in
set_option maxHeartbeats 2000000 in
theorem jj_X12_litMany_B23 (G : jl_GC) (R4 : Int → Int → jl_Mm → jl_O) (hR4 : ∀ (l1 : Int) (l2 : Int) (_hl1 : jl_n3 l1) (_hl2 : jl_n3 l2) (s0 : jl_Mm), j2 G jM_X12_litMany 4 [(0, jl_vr G 206), (1, jl_vi l1), (2, jl_vi l2)] [] s0 (R4 l1 l2 s0)) (l1 : Int) (l2 : Int) (hl1 : jl_n3 l1) (hl2 : jl_n3 l2) (s0 : jl_Mm) : j2 G jM_X12_litMany 23 [(0, jl_vr G 206), (1, jl_vi l1), (2, jl_vi l2)] [] s0 (jf_X12_litMany_B23 R4 l1 l2 s0) := by
  refine jr_iinc (j := 2) (lv := [(2, jl_vi (jl_add l2 1)), (0, jl_vr G 206), (1, jl_vi l1)]) dX12_litMany_23 rfl (Nat.le_of_ble_eq_true rfl) rfl ?_
  refine jr_goto (t := 4) dX12_litMany_26 (by decide) ?_
  refine jr_sub [1, 2, 0] rfl ?_
  exact hR4 l1 (jl_add l2 1) hl1 (jl_n3_to _) s0
def jf_X12_litMany_L4 : Nat → Int → Int → jl_Mm → jl_O
  | 0, _, _, _ => none
  | n + 1, l1, l2, s0 =>
    jl_bd (jf_X12_lieMany s0) fun r1 s2 => if r1 ≤ l2 then (some (l1, s2)) else (jl_bd (jf_X12_isLit l2 s2) fun r4 s5 => if r4 = (0 : Int) then (jf_X12_litMany_B23 (jf_X12_litMany_L4 n) l1 l2 s5) else (jf_X12_litMany_B23 (jf_X12_litMany_L4 n) (jl_add l1 1) l2 s5))
set_option maxRecDepth 20000 in
set_option maxHeartbeats 2000000 in
theorem jj_X12_litMany_L4 (G : jl_GC) : ∀ (n : Nat) (l1 : Int) (l2 : Int) (hl1 : jl_n3 l1) (hl2 : jl_n3 l2) (s0 : jl_Mm), j2 G jM_X12_litMany 4 [(0, jl_vr G 206), (1, jl_vi l1), (2, jl_vi l2)] [] s0 (jf_X12_litMany_L4 n l1 l2 s0) := by
  intro n
  induction n with
  | zero =>
    intros
    exact jr_none
  | succ n ih =>
    intro l1 l2 hl1 hl2 s0
    refine jr_iload_n dX12_litMany_4 2 rfl ?_
    refine jr_aload_n dX12_litMany_5 0 rfl ?_
    refine j2_callVi (As := []) dX12_litMany_6 (jt_X12_lieMany G s0) jv_X12_lieMany ⟨rfl, rfl, rfl⟩ jw_1751 jk_206 (by decide) (by decide) rfl ⟨Nat.le_of_ble_eq_true rfl, Nat.le_of_ble_eq_true rfl⟩ rfl (Nat.le_of_ble_eq_true rfl) (fun r1 s2 hr1 => ?_)
    refine jr_icmp_ge (t := 29) dX12_litMany_9 (by decide) hl2 hr1 (fun c3 => ?_) (fun c3 => ?_)
    · refine jr_iload_n dX12_litMany_29 1 rfl ?_
      exact jr_ret_i rfl hl1 dX12_litMany_30
    · refine jr_aload_n dX12_litMany_12 0 rfl ?_
      refine jr_iload_n dX12_litMany_13 2 rfl ?_
      refine j2_callVz (As := [jl_vi l2]) dX12_litMany_14 (jt_X12_isLit G l2 hl2 s2) jv_X12_isLit ⟨rfl, rfl, rfl⟩ jw_1763 jk_206 (by decide) (by decide) rfl ⟨Nat.le_of_ble_eq_true rfl, Nat.le_of_ble_eq_true rfl⟩ rfl (Nat.le_of_ble_eq_true rfl) (fun r4 s5 hr4 => ?_)
      refine jr_if_eq (t := 23) dX12_litMany_17 (by decide) (jl_nz hr4) (fun c6 => ?_) (fun c6 => ?_)
      · exact jj_X12_litMany_B23 G (jf_X12_litMany_L4 n) (ih) l1 l2 hl1 hl2 s5
      · refine jr_iinc (j := 1) (lv := [(1, jl_vi (jl_add l1 1)), (0, jl_vr G 206), (2, jl_vi l2)]) dX12_litMany_20 rfl (Nat.le_of_ble_eq_true rfl) rfl ?_
        refine jr_sub [1, 0, 2] rfl ?_
        exact jj_X12_litMany_B23 G (jf_X12_litMany_L4 n) (ih) (jl_add l1 1) l2 (jl_n3_to _) hl2 s5
def jf_X12_litMany (s0 : jl_Mm) : jl_O :=
  jf_X12_litMany_L4 jl_fu (0 : Int) (0 : Int) s0
set_option maxRecDepth 20000 in
set_option maxHeartbeats 2000000 in
theorem jt_X12_litMany (G : jl_GC) (s0 : jl_Mm) : jC2 G jM_X12_litMany [jl_vr G 206] s0 (jf_X12_litMany s0) := by
  refine jl_met (plainFor_of_name rfl) (Nat.le_of_ble_eq_true rfl) ?_
  show j2 G jM_X12_litMany 0 [(0, jl_vr G 206)] [] s0 _
  refine jr_iconst dX12_litMany_0 ?_
  refine jr_istore_n (lv := [(1, jl_vi (0 : Int)), (0, jl_vr G 206)]) dX12_litMany_1 rfl (Nat.le_of_ble_eq_true rfl) rfl ?_
  refine jr_iconst dX12_litMany_2 ?_
  refine jr_istore_n (lv := [(2, jl_vi (0 : Int)), (1, jl_vi (0 : Int)), (0, jl_vr G 206)]) dX12_litMany_3 rfl (Nat.le_of_ble_eq_true rfl) rfl ?_
  refine jr_sub [2, 1, 0] rfl ?_
  exact jj_X12_litMany_L4 G jl_fu (0 : Int) (0 : Int) (jl_nlit rfl) (jl_nlit rfl) s0
def jf_X12_has (v1 : Int) (s0 : jl_Mm) : jl_O :=
  if v1 = 0 then (jl_bd (jf_X12_windowMany s0) fun r2 s3 => some (r2, s3)) else if v1 = 1 then (jl_bd (jf_X12_personMany s0) fun r5 s6 => some (r5, s6)) else if v1 = 2 then (jl_bd (jf_X12_lieMany s0) fun r8 s9 => some (r8, s9)) else if v1 = 3 then (jl_bd (jf_X12_planMany s0) fun r11 s12 => some (r11, s12)) else if v1 = 4 then (some (jl_g s0 249 (((0 : Int) : Int).toNat), s0)) else if v1 = 5 then (some (jl_g s0 249 (((1 : Int) : Int).toNat), s0)) else if v1 = 6 then (jl_bd (jf_X12_litMany s0) fun r16 s17 => some (r16, s17)) else if v1 = 7 then (jl_bd (jf_X12_laysHeld s0) fun r19 s20 => jl_bd (jf_X12_bits r19 s20) fun r21 s22 => some (r21, s22)) else if v1 = 8 then (some (jl_g s0 249 (((24 : Int) : Int).toNat), s0)) else if v1 = 9 then (some (jl_g s0 206 65, s0)) else if v1 = 10 then (some (jl_g s0 206 72, s0)) else (some ((-1 : Int), s0))
set_option maxRecDepth 20000 in
set_option maxHeartbeats 2000000 in
theorem jt_X12_has (G : jl_GC) (v1 : Int) (h1 : jl_n3 v1) (s0 : jl_Mm) : jC2 G jM_X12_has [jl_vr G 206, jl_vi v1] s0 (jf_X12_has v1 s0) := by
  refine jl_met (plainFor_of_name rfl) (Nat.le_of_ble_eq_true rfl) ?_
  show j2 G jM_X12_has 0 [(0, jl_vr G 206), (1, jl_vi v1)] [] s0 _
  refine jr_iload_n dX12_has_0 1 rfl ?_
  refine jr_ite (fun c1 => ?_) (fun c1 => ?_)
  · refine jr_tabIn (t := 60) dX12_has_1 h1 (by omega) (by omega) (by rw [c1]; rfl) (by decide) ?_
    refine jr_aload_n dX12_has_60 0 rfl ?_
    refine j2_callVi (As := []) dX12_has_61 (jt_X12_windowMany G s0) jv_X12_windowMany ⟨rfl, rfl, rfl⟩ jw_1743 jk_206 (by decide) (by decide) rfl ⟨Nat.le_of_ble_eq_true rfl, Nat.le_of_ble_eq_true rfl⟩ rfl (Nat.le_of_ble_eq_true rfl) (fun r2 s3 hr2 => ?_)
    exact jr_ret_i rfl hr2 dX12_has_64
  · skip
    refine jr_ite (fun c4 => ?_) (fun c4 => ?_)
    · refine jr_tabIn (t := 65) dX12_has_1 h1 (by omega) (by omega) (by rw [c4]; rfl) (by decide) ?_
      refine jr_aload_n dX12_has_65 0 rfl ?_
      refine j2_callVi (As := []) dX12_has_66 (jt_X12_personMany G s0) jv_X12_personMany ⟨rfl, rfl, rfl⟩ jw_1747 jk_206 (by decide) (by decide) rfl ⟨Nat.le_of_ble_eq_true rfl, Nat.le_of_ble_eq_true rfl⟩ rfl (Nat.le_of_ble_eq_true rfl) (fun r5 s6 hr5 => ?_)
      exact jr_ret_i rfl hr5 dX12_has_69
    · skip
      refine jr_ite (fun c7 => ?_) (fun c7 => ?_)
      · refine jr_tabIn (t := 70) dX12_has_1 h1 (by omega) (by omega) (by rw [c7]; rfl) (by decide) ?_
        refine jr_aload_n dX12_has_70 0 rfl ?_
        refine j2_callVi (As := []) dX12_has_71 (jt_X12_lieMany G s0) jv_X12_lieMany ⟨rfl, rfl, rfl⟩ jw_1751 jk_206 (by decide) (by decide) rfl ⟨Nat.le_of_ble_eq_true rfl, Nat.le_of_ble_eq_true rfl⟩ rfl (Nat.le_of_ble_eq_true rfl) (fun r8 s9 hr8 => ?_)
        exact jr_ret_i rfl hr8 dX12_has_74
      · skip
        refine jr_ite (fun c10 => ?_) (fun c10 => ?_)
        · refine jr_tabIn (t := 75) dX12_has_1 h1 (by omega) (by omega) (by rw [c10]; rfl) (by decide) ?_
          refine jr_aload_n dX12_has_75 0 rfl ?_
          refine j2_callVi (As := []) dX12_has_76 (jt_X12_planMany G s0) jv_X12_planMany ⟨rfl, rfl, rfl⟩ jw_1755 jk_206 (by decide) (by decide) rfl ⟨Nat.le_of_ble_eq_true rfl, Nat.le_of_ble_eq_true rfl⟩ rfl (Nat.le_of_ble_eq_true rfl) (fun r11 s12 hr11 => ?_)
          exact jr_ret_i rfl hr11 dX12_has_79
        · skip
          refine jr_ite (fun c13 => ?_) (fun c13 => ?_)
          · refine jr_tabIn (t := 80) dX12_has_1 h1 (by omega) (by omega) (by rw [c13]; rfl) (by decide) ?_
            refine jr_aload_n dX12_has_80 0 rfl ?_
            refine jr_getk (i := 56) jc_12 jk_206 (by decide) (Nat.le_of_ble_eq_true rfl) jlk_206_56 jw_1261 dX12_has_81 ?_
            refine jr_iconst dX12_has_84 ?_
            refine jr_iaload jk_249 (by decide) (jl_nlit rfl) ⟨by decide, by decide⟩ dX12_has_85 ?_
            exact jr_ret_i rfl (jl_n3_to _) dX12_has_86
          · skip
            refine jr_ite (fun c14 => ?_) (fun c14 => ?_)
            · refine jr_tabIn (t := 87) dX12_has_1 h1 (by omega) (by omega) (by rw [c14]; rfl) (by decide) ?_
              refine jr_aload_n dX12_has_87 0 rfl ?_
              refine jr_getk (i := 56) jc_12 jk_206 (by decide) (Nat.le_of_ble_eq_true rfl) jlk_206_56 jw_1261 dX12_has_88 ?_
              refine jr_iconst dX12_has_91 ?_
              refine jr_iaload jk_249 (by decide) (jl_nlit rfl) ⟨by decide, by decide⟩ dX12_has_92 ?_
              exact jr_ret_i rfl (jl_n3_to _) dX12_has_93
            · skip
              refine jr_ite (fun c15 => ?_) (fun c15 => ?_)
              · refine jr_tabIn (t := 94) dX12_has_1 h1 (by omega) (by omega) (by rw [c15]; rfl) (by decide) ?_
                refine jr_aload_n dX12_has_94 0 rfl ?_
                refine j2_callVi (As := []) dX12_has_95 (jt_X12_litMany G s0) jv_X12_litMany ⟨rfl, rfl, rfl⟩ jw_1759 jk_206 (by decide) (by decide) rfl ⟨Nat.le_of_ble_eq_true rfl, Nat.le_of_ble_eq_true rfl⟩ rfl (Nat.le_of_ble_eq_true rfl) (fun r16 s17 hr16 => ?_)
                exact jr_ret_i rfl hr16 dX12_has_98
              · skip
                refine jr_ite (fun c18 => ?_) (fun c18 => ?_)
                · refine jr_tabIn (t := 99) dX12_has_1 h1 (by omega) (by omega) (by rw [c18]; rfl) (by decide) ?_
                  refine jr_aload_n dX12_has_99 0 rfl ?_
                  refine j2_callVi (As := []) dX12_has_100 (jt_X12_laysHeld G s0) jv_X12_laysHeld ⟨rfl, rfl, rfl⟩ jw_1767 jk_206 (by decide) (by decide) rfl ⟨Nat.le_of_ble_eq_true rfl, Nat.le_of_ble_eq_true rfl⟩ rfl (Nat.le_of_ble_eq_true rfl) (fun r19 s20 hr19 => ?_)
                  refine j2_callSi (As := [jl_vi r19]) dX12_has_103 (jt_X12_bits G r19 hr19 s20) jv_X12_bits ⟨rfl, rfl, rfl⟩ jw_1827 ⟨Nat.le_of_ble_eq_true rfl, Nat.le_of_ble_eq_true rfl⟩ rfl (Nat.le_of_ble_eq_true rfl) (fun r21 s22 hr21 => ?_)
                  exact jr_ret_i rfl hr21 dX12_has_106
                · skip
                  refine jr_ite (fun c23 => ?_) (fun c23 => ?_)
                  · refine jr_tabIn (t := 107) dX12_has_1 h1 (by omega) (by omega) (by rw [c23]; rfl) (by decide) ?_
                    refine jr_aload_n dX12_has_107 0 rfl ?_
                    refine jr_getk (i := 56) jc_12 jk_206 (by decide) (Nat.le_of_ble_eq_true rfl) jlk_206_56 jw_1261 dX12_has_108 ?_
                    refine jr_bipush dX12_has_111 (by decide) ?_
                    refine jr_iaload jk_249 (by decide) (jl_nlit rfl) ⟨by decide, by decide⟩ dX12_has_113 ?_
                    exact jr_ret_i rfl (jl_n3_to _) dX12_has_114
                  · skip
                    refine jr_ite (fun c24 => ?_) (fun c24 => ?_)
                    · refine jr_tabIn (t := 115) dX12_has_1 h1 (by omega) (by omega) (by rw [c24]; rfl) (by decide) ?_
                      refine jr_aload_n dX12_has_115 0 rfl ?_
                      refine jr_geti (i := 65) jc_12 jk_206 (by decide) (Nat.le_of_ble_eq_true rfl) jlk_206_65 jft_12_65 jw_1270 dX12_has_116 ?_
                      exact jr_ret_i rfl (jl_n3_to _) dX12_has_119
                    · skip
                      refine jr_ite (fun c25 => ?_) (fun c25 => ?_)
                      · refine jr_tabIn (t := 120) dX12_has_1 h1 (by omega) (by omega) (by rw [c25]; rfl) (by decide) ?_
                        refine jr_aload_n dX12_has_120 0 rfl ?_
                        refine jr_geti (i := 72) jc_12 jk_206 (by decide) (Nat.le_of_ble_eq_true rfl) jlk_206_72 jft_12_72 jw_1277 dX12_has_121 ?_
                        exact jr_ret_i rfl (jl_n3_to _) dX12_has_124
                      · skip
                        refine jr_tabOut (t := 125) dX12_has_1 h1 (by omega) (by decide) ?_
                        refine jr_iconst dX12_has_125 ?_
                        exact jr_ret_i rfl (jl_nlit rfl) dX12_has_126
def jf_X12_letter_B43 (s0 : jl_Mm) : jl_O :=
  some ((-1 : Int), s0)
set_option maxRecDepth 20000 in
set_option maxHeartbeats 2000000 in
theorem jj_X12_letter_B43 (G : jl_GC) (s0 : jl_Mm) : j2 G jM_X12_letter 43 [] [] s0 (jf_X12_letter_B43 s0) := by
  refine jr_iconst dX12_letter_43 ?_
  exact jr_ret_i rfl (jl_nlit rfl) dX12_letter_44
def jf_X12_letter_L103 : Nat → Int → Int → Int → jl_Mm → jl_O
  | 0, _, _, _, _ => none
  | n + 1, l3, l4, l7, s0 =>
    if l7 ≤ l3 then (some (jl_l2i (jl_lrem l4 (27 : Int)), s0)) else (jl_let (jl_ldiv l4 (27 : Int)) fun x17 => jf_X12_letter_L103 n l3 x17 (jl_add l7 (-1)) s0)
set_option maxRecDepth 20000 in
set_option maxHeartbeats 2000000 in
theorem jj_X12_letter_L103 (G : jl_GC) : ∀ (n : Nat) (l3 : Int) (l4 : Int) (l7 : Int) (hl3 : jl_n3 l3) (hl4 : jl_n6 l4) (hl7 : jl_n3 l7) (s0 : jl_Mm), j2 G jM_X12_letter 103 [(3, jl_vi l3), (4, jl_vl l4), (7, jl_vi l7)] [] s0 (jf_X12_letter_L103 n l3 l4 l7 s0) := by
  intro n
  induction n with
  | zero =>
    intros
    exact jr_none
  | succ n ih =>
    intro l3 l4 l7 hl3 hl4 hl7 s0
    refine jr_iload dX12_letter_103 2 rfl ?_
    refine jr_iload_n dX12_letter_105 0 rfl ?_
    refine jr_icmp_le (t := 123) dX12_letter_106 (by decide) hl7 hl3 (fun c16 => ?_) (fun c16 => ?_)
    · refine jr_lload dX12_letter_123 1 rfl ?_
      refine jr_ldc2_w (v := 27) dX12_letter_125 jw_1623 (by decide) ?_
      refine jr_lrem dX12_letter_128 (jl_n6lit rfl) (by decide) ?_
      refine jr_l2i dX12_letter_129 ?_
      exact jr_ret_i rfl (jl_n3_to _) dX12_letter_130
    · refine jr_lload dX12_letter_109 1 rfl ?_
      refine jr_ldc2_w (v := 27) dX12_letter_111 jw_1623 (by decide) ?_
      refine jr_ldiv dX12_letter_114 (jl_n6lit rfl) (by decide) ?_
      refine jr_letl (jl_n6_to _) (fun x17 hx17 => ?_)
      refine jr_lstore (lv := [(4, jl_vl x17), (3, jl_vi l3), (7, jl_vi l7)]) dX12_letter_115 (Nat.le_of_ble_eq_true rfl) rfl ?_
      refine jr_iinc (j := 2) (lv := [(7, jl_vi (jl_add l7 (-1))), (4, jl_vl x17), (3, jl_vi l3)]) dX12_letter_117 rfl (Nat.le_of_ble_eq_true rfl) rfl ?_
      refine jr_goto (t := 103) dX12_letter_120 (by decide) ?_
      refine jr_sub [2, 1, 0] rfl ?_
      exact ih l3 x17 (jl_add l7 (-1)) hl3 hx17 (jl_n3_to _) s0
def jf_X12_letter_L68 : Nat → Int → Int → Int → Int → jl_Mm → jl_O
  | 0, _, _, _, _, _ => none
  | n + 1, l3, l4, l6, l7, s0 =>
    if jl_lcmp l7 (0 : Int) ≤ (0 : Int) then (if l3 < l6 then (jl_let (jl_sub l6 (1 : Int)) fun x15 => jf_X12_letter_L103 jl_fu l3 l4 x15 s0) else (some ((0 : Int), s0))) else (jl_let (jl_ldiv l7 (27 : Int)) fun x18 => jf_X12_letter_L68 n l3 l4 (jl_add l6 1) x18 s0)
set_option maxRecDepth 20000 in
set_option maxHeartbeats 2000000 in
theorem jj_X12_letter_L68 (G : jl_GC) : ∀ (n : Nat) (l3 : Int) (l4 : Int) (l6 : Int) (l7 : Int) (hl3 : jl_n3 l3) (hl4 : jl_n6 l4) (hl6 : jl_n3 l6) (hl7 : jl_n6 l7) (s0 : jl_Mm), j2 G jM_X12_letter 68 [(3, jl_vi l3), (4, jl_vl l4), (6, jl_vi l6), (7, jl_vl l7)] [] s0 (jf_X12_letter_L68 n l3 l4 l6 l7 s0) := by
  intro n
  induction n with
  | zero =>
    intros
    exact jr_none
  | succ n ih =>
    intro l3 l4 l6 l7 hl3 hl4 hl6 hl7 s0
    refine jr_lload dX12_letter_68 3 rfl ?_
    refine jr_lconst (v := 0) dX12_letter_70 (by decide) ?_
    refine jr_lcmp dX12_letter_71 ?_
    refine jr_if_le (t := 89) dX12_letter_72 (by decide) (jl_n3_to _) (fun c13 => ?_) (fun c13 => ?_)
    · refine jr_iload_n dX12_letter_89 0 rfl ?_
      refine jr_iload dX12_letter_90 2 rfl ?_
      refine jr_icmp_lt (t := 97) dX12_letter_92 (by decide) hl3 hl6 (fun c14 => ?_) (fun c14 => ?_)
      · refine jr_iload dX12_letter_97 2 rfl ?_
        refine jr_iconst dX12_letter_99 ?_
        refine jr_isub dX12_letter_100 ?_
        refine jr_let (jl_n3_to _) (fun x15 hx15 => ?_)
        refine jr_istore (lv := [(7, jl_vi x15), (3, jl_vi l3), (4, jl_vl l4), (6, jl_vi l6)]) dX12_letter_101 (Nat.le_of_ble_eq_true rfl) rfl ?_
        refine jr_sub [1, 2, 0] rfl ?_
        exact jj_X12_letter_L103 G jl_fu l3 l4 x15 hl3 hl4 hx15 s0
      · refine jr_iconst dX12_letter_95 ?_
        exact jr_ret_i rfl (jl_nlit rfl) dX12_letter_96
    · refine jr_iinc (j := 2) (lv := [(6, jl_vi (jl_add l6 1)), (3, jl_vi l3), (4, jl_vl l4), (7, jl_vl l7)]) dX12_letter_75 rfl (Nat.le_of_ble_eq_true rfl) rfl ?_
      refine jr_lload dX12_letter_78 3 rfl ?_
      refine jr_ldc2_w (v := 27) dX12_letter_80 jw_1623 (by decide) ?_
      refine jr_ldiv dX12_letter_83 (jl_n6lit rfl) (by decide) ?_
      refine jr_letl (jl_n6_to _) (fun x18 hx18 => ?_)
      refine jr_lstore (lv := [(7, jl_vl x18), (6, jl_vi (jl_add l6 1)), (3, jl_vi l3), (4, jl_vl l4)]) dX12_letter_84 (Nat.le_of_ble_eq_true rfl) rfl ?_
      refine jr_goto (t := 68) dX12_letter_86 (by decide) ?_
      refine jr_sub [2, 3, 1, 0] rfl ?_
      exact ih l3 l4 (jl_add l6 1) x18 hl3 hl4 (jl_n3_to _) hx18 s0
def jf_X12_letter (v1 : Int) (v2 : Int) (v3 : Int) (s0 : jl_Mm) : jl_O :=
  jl_bd (jf_X12_isIn v1 (0 : Int) (1 : Int) s0) fun r1 s2 => if r1 = (0 : Int) then (jf_X12_letter_B43 s2) else (if 0 ≤ jl_add (7 : Int) v1 ∧ jl_add (7 : Int) v1 < ((12 : Nat) : Int) then jl_bd (jf_X12_isIn v2 (0 : Int) (jl_sub (jl_g s2 241 (jl_add (7 : Int) v1).toNat) (1 : Int)) s2) fun r5 s6 => if r5 = (0 : Int) then (jf_X12_letter_B43 s6) else (jl_bd (jf_X12_isIn v3 (0 : Int) (5 : Int) s6) fun r8 s9 => if r8 = (0 : Int) then (jf_X12_letter_B43 s9) else (if 0 ≤ jl_add (jl_add (16 : Int) (jl_mul (8 : Int) v1)) v2 ∧ jl_add (jl_add (16 : Int) (jl_mul (8 : Int) v1)) v2 < ((32 : Nat) : Int) then jl_let (jl_gl s9 242 (jl_add (jl_add (16 : Int) (jl_mul (8 : Int) v1)) v2).toNat) fun x12 => jf_X12_letter_L68 jl_fu v3 x12 (0 : Int) x12 s9 else none)) else none)
set_option maxRecDepth 20000 in
set_option maxHeartbeats 2000000 in
theorem jt_X12_letter (G : jl_GC) (v1 : Int) (v2 : Int) (v3 : Int) (h1 : jl_n3 v1) (h2 : jl_n3 v2) (h3 : jl_n3 v3) (s0 : jl_Mm) : jC2 G jM_X12_letter [jl_vr G 206, jl_vi v1, jl_vi v2, jl_vi v3] s0 (jf_X12_letter v1 v2 v3 s0) := by
  refine jl_met (plainFor_of_name rfl) (Nat.le_of_ble_eq_true rfl) ?_
  show j2 G jM_X12_letter 0 [(0, jl_vr G 206), (1, jl_vi v1), (2, jl_vi v2), (3, jl_vi v3)] [] s0 _
  refine jr_iload_n dX12_letter_0 1 rfl ?_
  refine jr_i2l dX12_letter_1 h1 ?_
  refine jr_lconst (v := 0) dX12_letter_2 (by decide) ?_
  refine jr_lconst (v := 1) dX12_letter_3 (by decide) ?_
  refine j2_callSz (As := [jl_vl v1, jl_vl (0 : Int), jl_vl (1 : Int)]) dX12_letter_4 (jt_X12_isIn G v1 (0 : Int) (1 : Int) (jl_n36 h1) (jl_n6lit rfl) (jl_n6lit rfl) s0) jv_X12_isIn ⟨rfl, rfl, rfl⟩ jw_1588 ⟨Nat.le_of_ble_eq_true rfl, Nat.le_of_ble_eq_true rfl⟩ rfl (Nat.le_of_ble_eq_true rfl) (fun r1 s2 hr1 => ?_)
  refine jr_if_eq (t := 43) dX12_letter_7 (by decide) (jl_nz hr1) (fun c3 => ?_) (fun c3 => ?_)
  · refine jr_sub [] rfl ?_
    exact jj_X12_letter_B43 G s2
  · refine jr_iload_n dX12_letter_10 2 rfl ?_
    refine jr_i2l dX12_letter_11 h2 ?_
    refine jr_lconst (v := 0) dX12_letter_12 (by decide) ?_
    refine jr_aload_n dX12_letter_13 0 rfl ?_
    refine jr_getk (i := 44) jc_12 jk_206 (by decide) (Nat.le_of_ble_eq_true rfl) jlk_206_44 jw_1249 dX12_letter_14 ?_
    refine jr_bipush dX12_letter_17 (by decide) ?_
    refine jr_iload_n dX12_letter_19 1 rfl ?_
    refine jr_iadd dX12_letter_20 ?_
    refine jr_grd (fun g4 => ?_)
    refine jr_iaload jk_241 (by decide) (jl_n3_to _) g4 dX12_letter_21 ?_
    refine jr_iconst dX12_letter_22 ?_
    refine jr_isub dX12_letter_23 ?_
    refine jr_i2l dX12_letter_24 (jl_n3_to _) ?_
    refine j2_callSz (As := [jl_vl v2, jl_vl (0 : Int), jl_vl (jl_sub (jl_g s2 241 (jl_add (7 : Int) v1).toNat) (1 : Int))]) dX12_letter_25 (jt_X12_isIn G v2 (0 : Int) (jl_sub (jl_g s2 241 (jl_add (7 : Int) v1).toNat) (1 : Int)) (jl_n36 h2) (jl_n6lit rfl) (jl_n36 (jl_n3_to _)) s2) jv_X12_isIn ⟨rfl, rfl, rfl⟩ jw_1588 ⟨Nat.le_of_ble_eq_true rfl, Nat.le_of_ble_eq_true rfl⟩ rfl (Nat.le_of_ble_eq_true rfl) (fun r5 s6 hr5 => ?_)
    refine jr_if_eq (t := 43) dX12_letter_28 (by decide) (jl_nz hr5) (fun c7 => ?_) (fun c7 => ?_)
    · refine jr_sub [] rfl ?_
      exact jj_X12_letter_B43 G s6
    · refine jr_iload_n dX12_letter_31 3 rfl ?_
      refine jr_i2l dX12_letter_32 h3 ?_
      refine jr_lconst (v := 0) dX12_letter_33 (by decide) ?_
      refine jr_ldc2_w (v := 5) dX12_letter_34 jw_1682 (by decide) ?_
      refine j2_callSz (As := [jl_vl v3, jl_vl (0 : Int), jl_vl (5 : Int)]) dX12_letter_37 (jt_X12_isIn G v3 (0 : Int) (5 : Int) (jl_n36 h3) (jl_n6lit rfl) (jl_n6lit rfl) s6) jv_X12_isIn ⟨rfl, rfl, rfl⟩ jw_1588 ⟨Nat.le_of_ble_eq_true rfl, Nat.le_of_ble_eq_true rfl⟩ rfl (Nat.le_of_ble_eq_true rfl) (fun r8 s9 hr8 => ?_)
      refine jr_if_ne (t := 45) dX12_letter_40 (by decide) (jl_nz hr8) (fun c10 => ?_) (fun c10 => ?_)
      · refine jr_sub [] rfl ?_
        exact jj_X12_letter_B43 G s9
      · refine jr_aload_n dX12_letter_45 0 rfl ?_
        refine jr_getk (i := 45) jc_12 jk_206 (by decide) (Nat.le_of_ble_eq_true rfl) jlk_206_45 jw_1250 dX12_letter_46 ?_
        refine jr_bipush dX12_letter_49 (by decide) ?_
        refine jr_bipush dX12_letter_51 (by decide) ?_
        refine jr_iload_n dX12_letter_53 1 rfl ?_
        refine jr_imul dX12_letter_54 ?_
        refine jr_iadd dX12_letter_55 ?_
        refine jr_iload_n dX12_letter_56 2 rfl ?_
        refine jr_iadd dX12_letter_57 ?_
        refine jr_grd (fun g11 => ?_)
        refine jr_laload jk_242 (by decide) (jl_n3_to _) g11 dX12_letter_58 ?_
        refine jr_letl (jl_n6_to _) (fun x12 hx12 => ?_)
        refine jr_lstore (lv := [(4, jl_vl x12), (0, jl_vr G 206), (1, jl_vi v1), (2, jl_vi v2), (3, jl_vi v3)]) dX12_letter_59 (Nat.le_of_ble_eq_true rfl) rfl ?_
        refine jr_iconst dX12_letter_61 ?_
        refine jr_istore (lv := [(6, jl_vi (0 : Int)), (4, jl_vl x12), (0, jl_vr G 206), (1, jl_vi v1), (2, jl_vi v2), (3, jl_vi v3)]) dX12_letter_62 (Nat.le_of_ble_eq_true rfl) rfl ?_
        refine jr_lload dX12_letter_64 1 rfl ?_
        refine jr_lstore (lv := [(7, jl_vl x12), (6, jl_vi (0 : Int)), (4, jl_vl x12), (0, jl_vr G 206), (1, jl_vi v1), (2, jl_vi v2), (3, jl_vi v3)]) dX12_letter_66 (Nat.le_of_ble_eq_true rfl) rfl ?_
        refine jr_sub [6, 2, 1, 0] rfl ?_
        exact jj_X12_letter_L68 G jl_fu v3 x12 (0 : Int) x12 h3 hx12 (jl_nlit rfl) hx12 s9
def jf_X12_litOf_B32 (R4 : Int → Int → Int → jl_Mm → jl_O) (l1 : Int) (l2 : Int) (l3 : Int) (s0 : jl_Mm) : jl_O :=
  R4 l1 l2 (jl_add l3 1) s0
set_option maxRecDepth 20000 in
set_option maxHeartbeats 2000000 in
theorem jj_X12_litOf_B32 (G : jl_GC) (R4 : Int → Int → Int → jl_Mm → jl_O) (hR4 : ∀ (l1 : Int) (l2 : Int) (l3 : Int) (_hl1 : jl_n3 l1) (_hl2 : jl_n3 l2) (_hl3 : jl_n3 l3) (s0 : jl_Mm), j2 G jM_X12_litOf 4 [(0, jl_vr G 206), (1, jl_vi l1), (2, jl_vi l2), (3, jl_vi l3)] [] s0 (R4 l1 l2 l3 s0)) (l1 : Int) (l2 : Int) (l3 : Int) (hl1 : jl_n3 l1) (hl2 : jl_n3 l2) (hl3 : jl_n3 l3) (s0 : jl_Mm) : j2 G jM_X12_litOf 32 [(0, jl_vr G 206), (1, jl_vi l1), (2, jl_vi l2), (3, jl_vi l3)] [] s0 (jf_X12_litOf_B32 R4 l1 l2 l3 s0) := by
  refine jr_iinc (j := 3) (lv := [(3, jl_vi (jl_add l3 1)), (0, jl_vr G 206), (1, jl_vi l1), (2, jl_vi l2)]) dX12_litOf_32 rfl (Nat.le_of_ble_eq_true rfl) rfl ?_
  refine jr_goto (t := 4) dX12_litOf_35 (by decide) ?_
  refine jr_sub [1, 2, 3, 0] rfl ?_
  exact hR4 l1 l2 (jl_add l3 1) hl1 hl2 (jl_n3_to _) s0
def jf_X12_litOf_L4 : Nat → Int → Int → Int → jl_Mm → jl_O
  | 0, _, _, _, _ => none
  | n + 1, l1, l2, l3, s0 =>
    jl_bd (jf_X12_lieMany s0) fun r1 s2 => if r1 ≤ l3 then (some (l2, s2)) else (jl_bd (jf_X12_isLit l3 s2) fun r4 s5 => if r4 = (0 : Int) then (jf_X12_litOf_B32 (jf_X12_litOf_L4 n) l1 l2 l3 s5) else (jl_bd (jf_X12_personOf l3 s5) fun r7 s8 => if r7 = l1 then (jf_X12_litOf_B32 (jf_X12_litOf_L4 n) l1 (jl_add l2 1) l3 s8) else (jf_X12_litOf_B32 (jf_X12_litOf_L4 n) l1 l2 l3 s8)))
set_option maxRecDepth 20000 in
set_option maxHeartbeats 2000000 in
theorem jj_X12_litOf_L4 (G : jl_GC) : ∀ (n : Nat) (l1 : Int) (l2 : Int) (l3 : Int) (hl1 : jl_n3 l1) (hl2 : jl_n3 l2) (hl3 : jl_n3 l3) (s0 : jl_Mm), j2 G jM_X12_litOf 4 [(0, jl_vr G 206), (1, jl_vi l1), (2, jl_vi l2), (3, jl_vi l3)] [] s0 (jf_X12_litOf_L4 n l1 l2 l3 s0) := by
  intro n
  induction n with
  | zero =>
    intros
    exact jr_none
  | succ n ih =>
    intro l1 l2 l3 hl1 hl2 hl3 s0
    refine jr_iload_n dX12_litOf_4 3 rfl ?_
    refine jr_aload_n dX12_litOf_5 0 rfl ?_
    refine j2_callVi (As := []) dX12_litOf_6 (jt_X12_lieMany G s0) jv_X12_lieMany ⟨rfl, rfl, rfl⟩ jw_1751 jk_206 (by decide) (by decide) rfl ⟨Nat.le_of_ble_eq_true rfl, Nat.le_of_ble_eq_true rfl⟩ rfl (Nat.le_of_ble_eq_true rfl) (fun r1 s2 hr1 => ?_)
    refine jr_icmp_ge (t := 38) dX12_litOf_9 (by decide) hl3 hr1 (fun c3 => ?_) (fun c3 => ?_)
    · refine jr_iload_n dX12_litOf_38 2 rfl ?_
      exact jr_ret_i rfl hl2 dX12_litOf_39
    · refine jr_aload_n dX12_litOf_12 0 rfl ?_
      refine jr_iload_n dX12_litOf_13 3 rfl ?_
      refine j2_callVz (As := [jl_vi l3]) dX12_litOf_14 (jt_X12_isLit G l3 hl3 s2) jv_X12_isLit ⟨rfl, rfl, rfl⟩ jw_1763 jk_206 (by decide) (by decide) rfl ⟨Nat.le_of_ble_eq_true rfl, Nat.le_of_ble_eq_true rfl⟩ rfl (Nat.le_of_ble_eq_true rfl) (fun r4 s5 hr4 => ?_)
      refine jr_if_eq (t := 32) dX12_litOf_17 (by decide) (jl_nz hr4) (fun c6 => ?_) (fun c6 => ?_)
      · exact jj_X12_litOf_B32 G (jf_X12_litOf_L4 n) (ih) l1 l2 l3 hl1 hl2 hl3 s5
      · refine jr_aload_n dX12_litOf_20 0 rfl ?_
        refine jr_iload_n dX12_litOf_21 3 rfl ?_
        refine j2_callVi (As := [jl_vi l3]) dX12_litOf_22 (jt_X12_personOf G l3 hl3 s5) jv_X12_personOf ⟨rfl, rfl, rfl⟩ jw_1803 jk_206 (by decide) (by decide) rfl ⟨Nat.le_of_ble_eq_true rfl, Nat.le_of_ble_eq_true rfl⟩ rfl (Nat.le_of_ble_eq_true rfl) (fun r7 s8 hr7 => ?_)
        refine jr_iload_n dX12_litOf_25 1 rfl ?_
        refine jr_icmp_ne (t := 32) dX12_litOf_26 (by decide) hr7 hl1 (fun c9 => ?_) (fun c9 => ?_)
        · refine jr_iinc (j := 2) (lv := [(2, jl_vi (jl_add l2 1)), (0, jl_vr G 206), (1, jl_vi l1), (3, jl_vi l3)]) dX12_litOf_29 rfl (Nat.le_of_ble_eq_true rfl) rfl ?_
          refine jr_sub [1, 2, 0, 3] rfl ?_
          exact jj_X12_litOf_B32 G (jf_X12_litOf_L4 n) (ih) l1 (jl_add l2 1) l3 hl1 (jl_n3_to _) hl3 s8
        · exact jj_X12_litOf_B32 G (jf_X12_litOf_L4 n) (ih) l1 l2 l3 hl1 hl2 hl3 s8
def jf_X12_litOf (v1 : Int) (s0 : jl_Mm) : jl_O :=
  jf_X12_litOf_L4 jl_fu v1 (0 : Int) (0 : Int) s0
set_option maxRecDepth 20000 in
set_option maxHeartbeats 2000000 in
theorem jt_X12_litOf (G : jl_GC) (v1 : Int) (h1 : jl_n3 v1) (s0 : jl_Mm) : jC2 G jM_X12_litOf [jl_vr G 206, jl_vi v1] s0 (jf_X12_litOf v1 s0) := by
  refine jl_met (plainFor_of_name rfl) (Nat.le_of_ble_eq_true rfl) ?_
  show j2 G jM_X12_litOf 0 [(0, jl_vr G 206), (1, jl_vi v1)] [] s0 _
  refine jr_iconst dX12_litOf_0 ?_
  refine jr_istore_n (lv := [(2, jl_vi (0 : Int)), (0, jl_vr G 206), (1, jl_vi v1)]) dX12_litOf_1 rfl (Nat.le_of_ble_eq_true rfl) rfl ?_
  refine jr_iconst dX12_litOf_2 ?_
  refine jr_istore_n (lv := [(3, jl_vi (0 : Int)), (2, jl_vi (0 : Int)), (0, jl_vr G 206), (1, jl_vi v1)]) dX12_litOf_3 rfl (Nat.le_of_ble_eq_true rfl) rfl ?_
  refine jr_sub [2, 3, 1, 0] rfl ?_
  exact jj_X12_litOf_L4 G jl_fu v1 (0 : Int) (0 : Int) h1 (jl_nlit rfl) (jl_nlit rfl) s0
def jf_X12_person_B58 (k0 : Int) (s0 : jl_Mm) : jl_O :=
  some (k0, s0)
set_option maxRecDepth 20000 in
set_option maxHeartbeats 2000000 in
theorem jj_X12_person_B58 (G : jl_GC) (k0 : Int) (hk0 : jl_n3 k0) (s0 : jl_Mm) : j2 G jM_X12_person 58 [] [jl_vi k0] s0 (jf_X12_person_B58 k0 s0) := by
  exact jr_ret_i rfl hk0 dX12_person_58
def jf_X12_person (v1 : Int) (v2 : Int) (s0 : jl_Mm) : jl_O :=
  jl_bd (jf_X12_isPerson v1 s0) fun r1 s2 => if r1 = (0 : Int) then (some ((-1 : Int), s2)) else (if v2 = (0 : Int) then (if 0 ≤ jl_add (2 : Int) v1 ∧ jl_add (2 : Int) v1 < ((105 : Nat) : Int) then jf_X12_person_B58 (jl_g s2 249 (jl_add (2 : Int) v1).toNat) s2 else none) else (if v2 = (1 : Int) then (if 0 ≤ jl_add (13 : Int) (jl_mul (2 : Int) v1) ∧ jl_add (13 : Int) (jl_mul (2 : Int) v1) < ((24 : Nat) : Int) then jf_X12_person_B58 (jl_g s2 243 (jl_add (13 : Int) (jl_mul (2 : Int) v1)).toNat) s2 else none) else (if v2 = (2 : Int) then (jl_bd (jf_X12_litOf v1 s2) fun r7 s8 => jf_X12_person_B58 r7 s8) else (jf_X12_person_B58 (-1 : Int) s2))))
set_option maxRecDepth 20000 in
set_option maxHeartbeats 2000000 in
theorem jt_X12_person (G : jl_GC) (v1 : Int) (v2 : Int) (h1 : jl_n3 v1) (h2 : jl_n3 v2) (s0 : jl_Mm) : jC2 G jM_X12_person [jl_vr G 206, jl_vi v1, jl_vi v2] s0 (jf_X12_person v1 v2 s0) := by
  refine jl_met (plainFor_of_name rfl) (Nat.le_of_ble_eq_true rfl) ?_
  show j2 G jM_X12_person 0 [(0, jl_vr G 206), (1, jl_vi v1), (2, jl_vi v2)] [] s0 _
  refine jr_aload_n dX12_person_0 0 rfl ?_
  refine jr_iload_n dX12_person_1 1 rfl ?_
  refine j2_callVz (As := [jl_vi v1]) dX12_person_2 (jt_X12_isPerson G v1 h1 s0) jv_X12_isPerson ⟨rfl, rfl, rfl⟩ jw_1838 jk_206 (by decide) (by decide) rfl ⟨Nat.le_of_ble_eq_true rfl, Nat.le_of_ble_eq_true rfl⟩ rfl (Nat.le_of_ble_eq_true rfl) (fun r1 s2 hr1 => ?_)
  refine jr_if_ne (t := 10) dX12_person_5 (by decide) (jl_nz hr1) (fun c3 => ?_) (fun c3 => ?_)
  · refine jr_iconst dX12_person_8 ?_
    exact jr_ret_i rfl (jl_nlit rfl) dX12_person_9
  · refine jr_iload_n dX12_person_10 2 rfl ?_
    refine jr_if_ne (t := 25) dX12_person_11 (by decide) h2 (fun c4 => ?_) (fun c4 => ?_)
    · refine jr_aload_n dX12_person_14 0 rfl ?_
      refine jr_getk (i := 56) jc_12 jk_206 (by decide) (Nat.le_of_ble_eq_true rfl) jlk_206_56 jw_1261 dX12_person_15 ?_
      refine jr_iconst dX12_person_18 ?_
      refine jr_iload_n dX12_person_19 1 rfl ?_
      refine jr_iadd dX12_person_20 ?_
      refine jr_grd (fun g10 => ?_)
      refine jr_iaload jk_249 (by decide) (jl_n3_to _) g10 dX12_person_21 ?_
      refine jr_goto (t := 58) dX12_person_22 (by decide) ?_
      refine jr_sub [] rfl ?_
      exact jj_X12_person_B58 G (jl_g s2 249 (jl_add (2 : Int) v1).toNat) (jl_n3_to _) s2
    · refine jr_iload_n dX12_person_25 2 rfl ?_
      refine jr_iconst dX12_person_26 ?_
      refine jr_icmp_ne (t := 44) dX12_person_27 (by decide) h2 (jl_nlit rfl) (fun c5 => ?_) (fun c5 => ?_)
      · refine jr_aload_n dX12_person_30 0 rfl ?_
        refine jr_getk (i := 46) jc_12 jk_206 (by decide) (Nat.le_of_ble_eq_true rfl) jlk_206_46 jw_1251 dX12_person_31 ?_
        refine jr_bipush dX12_person_34 (by decide) ?_
        refine jr_iconst dX12_person_36 ?_
        refine jr_iload_n dX12_person_37 1 rfl ?_
        refine jr_imul dX12_person_38 ?_
        refine jr_iadd dX12_person_39 ?_
        refine jr_grd (fun g9 => ?_)
        refine jr_iaload jk_243 (by decide) (jl_n3_to _) g9 dX12_person_40 ?_
        refine jr_goto (t := 58) dX12_person_41 (by decide) ?_
        refine jr_sub [] rfl ?_
        exact jj_X12_person_B58 G (jl_g s2 243 (jl_add (13 : Int) (jl_mul (2 : Int) v1)).toNat) (jl_n3_to _) s2
      · refine jr_iload_n dX12_person_44 2 rfl ?_
        refine jr_iconst dX12_person_45 ?_
        refine jr_icmp_ne (t := 57) dX12_person_46 (by decide) h2 (jl_nlit rfl) (fun c6 => ?_) (fun c6 => ?_)
        · refine jr_aload_n dX12_person_49 0 rfl ?_
          refine jr_iload_n dX12_person_50 1 rfl ?_
          refine j2_callVi (As := [jl_vi v1]) dX12_person_51 (jt_X12_litOf G v1 h1 s2) jv_X12_litOf ⟨rfl, rfl, rfl⟩ jw_1842 jk_206 (by decide) (by decide) rfl ⟨Nat.le_of_ble_eq_true rfl, Nat.le_of_ble_eq_true rfl⟩ rfl (Nat.le_of_ble_eq_true rfl) (fun r7 s8 hr7 => ?_)
          refine jr_goto (t := 58) dX12_person_54 (by decide) ?_
          refine jr_sub [] rfl ?_
          exact jj_X12_person_B58 G r7 hr7 s8
        · refine jr_iconst dX12_person_57 ?_
          refine jr_sub [] rfl ?_
          exact jj_X12_person_B58 G (-1 : Int) (jl_nlit rfl) s2
def jf_X12_hangingOn_B44 (R8 : Int → Int → Int → jl_Mm → jl_O) (l1 : Int) (l2 : Int) (l3 : Int) (s0 : jl_Mm) : jl_O :=
  R8 l1 l2 (jl_add l3 1) s0
set_option maxRecDepth 20000 in
set_option maxHeartbeats 2000000 in
theorem jj_X12_hangingOn_B44 (G : jl_GC) (R8 : Int → Int → Int → jl_Mm → jl_O) (hR8 : ∀ (l1 : Int) (l2 : Int) (l3 : Int) (_hl1 : jl_n3 l1) (_hl2 : jl_n3 l2) (_hl3 : jl_n3 l3) (s0 : jl_Mm), j2 G jM_X12_hangingOn 8 [(0, jl_vr G 206), (1, jl_vi l1), (2, jl_vi l2), (3, jl_vi l3)] [] s0 (R8 l1 l2 l3 s0)) (l1 : Int) (l2 : Int) (l3 : Int) (hl1 : jl_n3 l1) (hl2 : jl_n3 l2) (hl3 : jl_n3 l3) (s0 : jl_Mm) : j2 G jM_X12_hangingOn 44 [(0, jl_vr G 206), (1, jl_vi l1), (2, jl_vi l2), (3, jl_vi l3)] [] s0 (jf_X12_hangingOn_B44 R8 l1 l2 l3 s0) := by
  refine jr_iinc (j := 3) (lv := [(3, jl_vi (jl_add l3 1)), (0, jl_vr G 206), (1, jl_vi l1), (2, jl_vi l2)]) dX12_hangingOn_44 rfl (Nat.le_of_ble_eq_true rfl) rfl ?_
  refine jr_goto (t := 8) dX12_hangingOn_47 (by decide) ?_
  refine jr_sub [1, 2, 3, 0] rfl ?_
  exact hR8 l1 l2 (jl_add l3 1) hl1 hl2 (jl_n3_to _) s0
def jf_X12_hangingOn_L8 : Nat → Int → Int → Int → jl_Mm → jl_O
  | 0, _, _, _, _ => none
  | n + 1, l1, l2, l3, s0 =>
    jl_bd (jf_X12_lieMany s0) fun r3 s4 => if r3 ≤ l3 then (some (jl_and l2 (jl_xor (jl_shl (1 : Int) l1) (-1 : Int)), s4)) else (jl_bd (jf_X12_hangsOn l3 s4) fun r6 s7 => if r6 = (-1 : Int) then (jf_X12_hangingOn_B44 (jf_X12_hangingOn_L8 n) l1 l2 l3 s7) else (jl_bd (jf_X12_hangsOn l3 s7) fun r9 s10 => if jl_and (jl_shr l2 r9) (1 : Int) = (1 : Int) then (jl_let (jl_or l2 (jl_shl (1 : Int) l3)) fun x12 => jf_X12_hangingOn_B44 (jf_X12_hangingOn_L8 n) l1 x12 l3 s10) else (jf_X12_hangingOn_B44 (jf_X12_hangingOn_L8 n) l1 l2 l3 s10)))
set_option maxRecDepth 20000 in
set_option maxHeartbeats 2000000 in
theorem jj_X12_hangingOn_L8 (G : jl_GC) : ∀ (n : Nat) (l1 : Int) (l2 : Int) (l3 : Int) (hl1 : jl_n3 l1) (hl2 : jl_n3 l2) (hl3 : jl_n3 l3) (s0 : jl_Mm), j2 G jM_X12_hangingOn 8 [(0, jl_vr G 206), (1, jl_vi l1), (2, jl_vi l2), (3, jl_vi l3)] [] s0 (jf_X12_hangingOn_L8 n l1 l2 l3 s0) := by
  intro n
  induction n with
  | zero =>
    intros
    exact jr_none
  | succ n ih =>
    intro l1 l2 l3 hl1 hl2 hl3 s0
    refine jr_iload_n dX12_hangingOn_8 3 rfl ?_
    refine jr_aload_n dX12_hangingOn_9 0 rfl ?_
    refine j2_callVi (As := []) dX12_hangingOn_10 (jt_X12_lieMany G s0) jv_X12_lieMany ⟨rfl, rfl, rfl⟩ jw_1751 jk_206 (by decide) (by decide) rfl ⟨Nat.le_of_ble_eq_true rfl, Nat.le_of_ble_eq_true rfl⟩ rfl (Nat.le_of_ble_eq_true rfl) (fun r3 s4 hr3 => ?_)
    refine jr_icmp_ge (t := 50) dX12_hangingOn_13 (by decide) hl3 hr3 (fun c5 => ?_) (fun c5 => ?_)
    · refine jr_iload_n dX12_hangingOn_50 2 rfl ?_
      refine jr_iconst dX12_hangingOn_51 ?_
      refine jr_iload_n dX12_hangingOn_52 1 rfl ?_
      refine jr_ishl dX12_hangingOn_53 ?_
      refine jr_iconst dX12_hangingOn_54 ?_
      refine jr_ixor dX12_hangingOn_55 ?_
      refine jr_iand dX12_hangingOn_56 ?_
      exact jr_ret_i rfl (jl_n3_to _) dX12_hangingOn_57
    · refine jr_aload_n dX12_hangingOn_16 0 rfl ?_
      refine jr_iload_n dX12_hangingOn_17 3 rfl ?_
      refine j2_callVi (As := [jl_vi l3]) dX12_hangingOn_18 (jt_X12_hangsOn G l3 hl3 s4) jv_X12_hangsOn ⟨rfl, rfl, rfl⟩ jw_1823 jk_206 (by decide) (by decide) rfl ⟨Nat.le_of_ble_eq_true rfl, Nat.le_of_ble_eq_true rfl⟩ rfl (Nat.le_of_ble_eq_true rfl) (fun r6 s7 hr6 => ?_)
      refine jr_iconst dX12_hangingOn_21 ?_
      refine jr_icmp_eq (t := 44) dX12_hangingOn_22 (by decide) hr6 (jl_nlit rfl) (fun c8 => ?_) (fun c8 => ?_)
      · exact jj_X12_hangingOn_B44 G (jf_X12_hangingOn_L8 n) (ih) l1 l2 l3 hl1 hl2 hl3 s7
      · refine jr_iload_n dX12_hangingOn_25 2 rfl ?_
        refine jr_aload_n dX12_hangingOn_26 0 rfl ?_
        refine jr_iload_n dX12_hangingOn_27 3 rfl ?_
        refine j2_callVi (As := [jl_vi l3]) dX12_hangingOn_28 (jt_X12_hangsOn G l3 hl3 s7) jv_X12_hangsOn ⟨rfl, rfl, rfl⟩ jw_1823 jk_206 (by decide) (by decide) rfl ⟨Nat.le_of_ble_eq_true rfl, Nat.le_of_ble_eq_true rfl⟩ rfl (Nat.le_of_ble_eq_true rfl) (fun r9 s10 hr9 => ?_)
        refine jr_ishr dX12_hangingOn_31 ?_
        refine jr_iconst dX12_hangingOn_32 ?_
        refine jr_iand dX12_hangingOn_33 ?_
        refine jr_iconst dX12_hangingOn_34 ?_
        refine jr_icmp_ne (t := 44) dX12_hangingOn_35 (by decide) (jl_n3_to _) (jl_nlit rfl) (fun c11 => ?_) (fun c11 => ?_)
        · refine jr_iload_n dX12_hangingOn_38 2 rfl ?_
          refine jr_iconst dX12_hangingOn_39 ?_
          refine jr_iload_n dX12_hangingOn_40 3 rfl ?_
          refine jr_ishl dX12_hangingOn_41 ?_
          refine jr_ior dX12_hangingOn_42 ?_
          refine jr_let (jl_n3_to _) (fun x12 hx12 => ?_)
          refine jr_istore_n (lv := [(2, jl_vi x12), (0, jl_vr G 206), (1, jl_vi l1), (3, jl_vi l3)]) dX12_hangingOn_43 rfl (Nat.le_of_ble_eq_true rfl) rfl ?_
          refine jr_sub [1, 2, 0, 3] rfl ?_
          exact jj_X12_hangingOn_B44 G (jf_X12_hangingOn_L8 n) (ih) l1 x12 l3 hl1 hx12 hl3 s10
        · exact jj_X12_hangingOn_B44 G (jf_X12_hangingOn_L8 n) (ih) l1 l2 l3 hl1 hl2 hl3 s10
def jf_X12_hangingOn (v1 : Int) (s0 : jl_Mm) : jl_O :=
  jl_let (jl_shl (1 : Int) v1) fun x1 => jl_let (jl_add v1 (1 : Int)) fun x2 => jf_X12_hangingOn_L8 jl_fu v1 x1 x2 s0
set_option maxRecDepth 20000 in
set_option maxHeartbeats 2000000 in
theorem jt_X12_hangingOn (G : jl_GC) (v1 : Int) (h1 : jl_n3 v1) (s0 : jl_Mm) : jC2 G jM_X12_hangingOn [jl_vr G 206, jl_vi v1] s0 (jf_X12_hangingOn v1 s0) := by
  refine jl_met (plainFor_of_name rfl) (Nat.le_of_ble_eq_true rfl) ?_
  show j2 G jM_X12_hangingOn 0 [(0, jl_vr G 206), (1, jl_vi v1)] [] s0 _
  refine jr_iconst dX12_hangingOn_0 ?_
  refine jr_iload_n dX12_hangingOn_1 1 rfl ?_
  refine jr_ishl dX12_hangingOn_2 ?_
  refine jr_let (jl_n3_to _) (fun x1 hx1 => ?_)
  refine jr_istore_n (lv := [(2, jl_vi x1), (0, jl_vr G 206), (1, jl_vi v1)]) dX12_hangingOn_3 rfl (Nat.le_of_ble_eq_true rfl) rfl ?_
  refine jr_iload_n dX12_hangingOn_4 2 rfl ?_
  refine jr_iconst dX12_hangingOn_5 ?_
  refine jr_iadd dX12_hangingOn_6 ?_
  refine jr_let (jl_n3_to _) (fun x2 hx2 => ?_)
  refine jr_istore_n (lv := [(3, jl_vi x2), (2, jl_vi x1), (0, jl_vr G 206), (1, jl_vi v1)]) dX12_hangingOn_7 rfl (Nat.le_of_ble_eq_true rfl) rfl ?_
  refine jr_sub [2, 3, 1, 0] rfl ?_
  exact jj_X12_hangingOn_L8 G jl_fu v1 x1 x2 h1 hx1 hx2 s0
def jf_X12_lie_B95 (k0 : Int) (s0 : jl_Mm) : jl_O :=
  some (k0, s0)
set_option maxRecDepth 20000 in
set_option maxHeartbeats 2000000 in
theorem jj_X12_lie_B95 (G : jl_GC) (k0 : Int) (hk0 : jl_n3 k0) (s0 : jl_Mm) : j2 G jM_X12_lie 95 [] [jl_vi k0] s0 (jf_X12_lie_B95 k0 s0) := by
  exact jr_ret_i rfl hk0 dX12_lie_95
def jf_X12_lie (v1 : Int) (v2 : Int) (s0 : jl_Mm) : jl_O :=
  jl_bd (jf_X12_isLie v1 s0) fun r1 s2 => if r1 = (0 : Int) then (some ((-1 : Int), s2)) else (if v2 = 0 then (jl_bd (jf_X12_personOf v1 s2) fun r5 s6 => some (r5, s6)) else if v2 = 1 then (if 0 ≤ jl_add (8 : Int) v1 ∧ jl_add (8 : Int) v1 < ((105 : Nat) : Int) then some (jl_g s2 249 (jl_add (8 : Int) v1).toNat, s2) else none) else if v2 = 2 then (if 0 ≤ jl_add (16 : Int) v1 ∧ jl_add (16 : Int) v1 < ((105 : Nat) : Int) then some (jl_g s2 249 (jl_add (16 : Int) v1).toNat, s2) else none) else if v2 = 3 then (jl_bd (jf_X12_isHeld v1 s2) fun r12 s13 => if r12 = (0 : Int) then (jf_X12_lie_B95 (0 : Int) s13) else (jf_X12_lie_B95 (1 : Int) s13)) else if v2 = 4 then (jl_bd (jf_X12_hangsOn v1 s2) fun r16 s17 => some (r16, s17)) else if v2 = 5 then (jl_bd (jf_X12_hangingOn v1 s2) fun r19 s20 => some (r19, s20)) else if v2 = 6 then (jl_bd (jf_X12_nearTo v1 s2) fun r22 s23 => some (r22, s23)) else (some ((-1 : Int), s2)))
set_option maxRecDepth 20000 in
set_option maxHeartbeats 2000000 in
theorem jt_X12_lie (G : jl_GC) (v1 : Int) (v2 : Int) (h1 : jl_n3 v1) (h2 : jl_n3 v2) (s0 : jl_Mm) : jC2 G jM_X12_lie [jl_vr G 206, jl_vi v1, jl_vi v2] s0 (jf_X12_lie v1 v2 s0) := by
  refine jl_met (plainFor_of_name rfl) (Nat.le_of_ble_eq_true rfl) ?_
  show j2 G jM_X12_lie 0 [(0, jl_vr G 206), (1, jl_vi v1), (2, jl_vi v2)] [] s0 _
  refine jr_aload_n dX12_lie_0 0 rfl ?_
  refine jr_iload_n dX12_lie_1 1 rfl ?_
  refine jr_i2l dX12_lie_2 h1 ?_
  refine j2_callVz (As := [jl_vl v1]) dX12_lie_3 (jt_X12_isLie G v1 (jl_n36 h1) s0) jv_X12_isLie ⟨rfl, rfl, rfl⟩ jw_1850 jk_206 (by decide) (by decide) rfl ⟨Nat.le_of_ble_eq_true rfl, Nat.le_of_ble_eq_true rfl⟩ rfl (Nat.le_of_ble_eq_true rfl) (fun r1 s2 hr1 => ?_)
  refine jr_if_ne (t := 11) dX12_lie_6 (by decide) (jl_nz hr1) (fun c3 => ?_) (fun c3 => ?_)
  · refine jr_iconst dX12_lie_9 ?_
    exact jr_ret_i rfl (jl_nlit rfl) dX12_lie_10
  · refine jr_iload_n dX12_lie_11 2 rfl ?_
    refine jr_ite (fun c4 => ?_) (fun c4 => ?_)
    · refine jr_tabIn (t := 56) dX12_lie_12 h2 (by omega) (by omega) (by rw [c4]; rfl) (by decide) ?_
      refine jr_aload_n dX12_lie_56 0 rfl ?_
      refine jr_iload_n dX12_lie_57 1 rfl ?_
      refine j2_callVi (As := [jl_vi v1]) dX12_lie_58 (jt_X12_personOf G v1 h1 s2) jv_X12_personOf ⟨rfl, rfl, rfl⟩ jw_1803 jk_206 (by decide) (by decide) rfl ⟨Nat.le_of_ble_eq_true rfl, Nat.le_of_ble_eq_true rfl⟩ rfl (Nat.le_of_ble_eq_true rfl) (fun r5 s6 hr5 => ?_)
      exact jr_ret_i rfl hr5 dX12_lie_61
    · skip
      refine jr_ite (fun c7 => ?_) (fun c7 => ?_)
      · refine jr_tabIn (t := 62) dX12_lie_12 h2 (by omega) (by omega) (by rw [c7]; rfl) (by decide) ?_
        refine jr_aload_n dX12_lie_62 0 rfl ?_
        refine jr_getk (i := 56) jc_12 jk_206 (by decide) (Nat.le_of_ble_eq_true rfl) jlk_206_56 jw_1261 dX12_lie_63 ?_
        refine jr_bipush dX12_lie_66 (by decide) ?_
        refine jr_iload_n dX12_lie_68 1 rfl ?_
        refine jr_iadd dX12_lie_69 ?_
        refine jr_grd (fun g8 => ?_)
        refine jr_iaload jk_249 (by decide) (jl_n3_to _) g8 dX12_lie_70 ?_
        exact jr_ret_i rfl (jl_n3_to _) dX12_lie_71
      · skip
        refine jr_ite (fun c9 => ?_) (fun c9 => ?_)
        · refine jr_tabIn (t := 72) dX12_lie_12 h2 (by omega) (by omega) (by rw [c9]; rfl) (by decide) ?_
          refine jr_aload_n dX12_lie_72 0 rfl ?_
          refine jr_getk (i := 56) jc_12 jk_206 (by decide) (Nat.le_of_ble_eq_true rfl) jlk_206_56 jw_1261 dX12_lie_73 ?_
          refine jr_bipush dX12_lie_76 (by decide) ?_
          refine jr_iload_n dX12_lie_78 1 rfl ?_
          refine jr_iadd dX12_lie_79 ?_
          refine jr_grd (fun g10 => ?_)
          refine jr_iaload jk_249 (by decide) (jl_n3_to _) g10 dX12_lie_80 ?_
          exact jr_ret_i rfl (jl_n3_to _) dX12_lie_81
        · skip
          refine jr_ite (fun c11 => ?_) (fun c11 => ?_)
          · refine jr_tabIn (t := 82) dX12_lie_12 h2 (by omega) (by omega) (by rw [c11]; rfl) (by decide) ?_
            refine jr_aload_n dX12_lie_82 0 rfl ?_
            refine jr_iload_n dX12_lie_83 1 rfl ?_
            refine j2_callVz (As := [jl_vi v1]) dX12_lie_84 (jt_X12_isHeld G v1 h1 s2) jv_X12_isHeld ⟨rfl, rfl, rfl⟩ jw_1854 jk_206 (by decide) (by decide) rfl ⟨Nat.le_of_ble_eq_true rfl, Nat.le_of_ble_eq_true rfl⟩ rfl (Nat.le_of_ble_eq_true rfl) (fun r12 s13 hr12 => ?_)
            refine jr_if_eq (t := 94) dX12_lie_87 (by decide) (jl_nz hr12) (fun c14 => ?_) (fun c14 => ?_)
            · refine jr_iconst dX12_lie_94 ?_
              refine jr_sub [] rfl ?_
              exact jj_X12_lie_B95 G (0 : Int) (jl_nlit rfl) s13
            · refine jr_iconst dX12_lie_90 ?_
              refine jr_goto (t := 95) dX12_lie_91 (by decide) ?_
              refine jr_sub [] rfl ?_
              exact jj_X12_lie_B95 G (1 : Int) (jl_nlit rfl) s13
          · skip
            refine jr_ite (fun c15 => ?_) (fun c15 => ?_)
            · refine jr_tabIn (t := 96) dX12_lie_12 h2 (by omega) (by omega) (by rw [c15]; rfl) (by decide) ?_
              refine jr_aload_n dX12_lie_96 0 rfl ?_
              refine jr_iload_n dX12_lie_97 1 rfl ?_
              refine j2_callVi (As := [jl_vi v1]) dX12_lie_98 (jt_X12_hangsOn G v1 h1 s2) jv_X12_hangsOn ⟨rfl, rfl, rfl⟩ jw_1823 jk_206 (by decide) (by decide) rfl ⟨Nat.le_of_ble_eq_true rfl, Nat.le_of_ble_eq_true rfl⟩ rfl (Nat.le_of_ble_eq_true rfl) (fun r16 s17 hr16 => ?_)
              exact jr_ret_i rfl hr16 dX12_lie_101
            · skip
              refine jr_ite (fun c18 => ?_) (fun c18 => ?_)
              · refine jr_tabIn (t := 102) dX12_lie_12 h2 (by omega) (by omega) (by rw [c18]; rfl) (by decide) ?_
                refine jr_aload_n dX12_lie_102 0 rfl ?_
                refine jr_iload_n dX12_lie_103 1 rfl ?_
                refine j2_callVi (As := [jl_vi v1]) dX12_lie_104 (jt_X12_hangingOn G v1 h1 s2) jv_X12_hangingOn ⟨rfl, rfl, rfl⟩ jw_1858 jk_206 (by decide) (by decide) rfl ⟨Nat.le_of_ble_eq_true rfl, Nat.le_of_ble_eq_true rfl⟩ rfl (Nat.le_of_ble_eq_true rfl) (fun r19 s20 hr19 => ?_)
                exact jr_ret_i rfl hr19 dX12_lie_107
              · skip
                refine jr_ite (fun c21 => ?_) (fun c21 => ?_)
                · refine jr_tabIn (t := 108) dX12_lie_12 h2 (by omega) (by omega) (by rw [c21]; rfl) (by decide) ?_
                  refine jr_aload_n dX12_lie_108 0 rfl ?_
                  refine jr_iload_n dX12_lie_109 1 rfl ?_
                  refine j2_callVi (As := [jl_vi v1]) dX12_lie_110 (jt_X12_nearTo G v1 h1 s2) jv_X12_nearTo ⟨rfl, rfl, rfl⟩ jw_1795 jk_206 (by decide) (by decide) rfl ⟨Nat.le_of_ble_eq_true rfl, Nat.le_of_ble_eq_true rfl⟩ rfl (Nat.le_of_ble_eq_true rfl) (fun r22 s23 hr22 => ?_)
                  exact jr_ret_i rfl hr22 dX12_lie_113
                · skip
                  refine jr_tabOut (t := 114) dX12_lie_12 h2 (by omega) (by decide) ?_
                  refine jr_iconst dX12_lie_114 ?_
                  exact jr_ret_i rfl (jl_nlit rfl) dX12_lie_115
def jf_X12_draft_B20 (s0 : jl_Mm) : jl_O :=
  some ((-1 : Int), s0)
set_option maxRecDepth 20000 in
set_option maxHeartbeats 2000000 in
theorem jj_X12_draft_B20 (G : jl_GC) (s0 : jl_Mm) : j2 G jM_X12_draft 20 [] [] s0 (jf_X12_draft_B20 s0) := by
  refine jr_iconst dX12_draft_20 ?_
  exact jr_ret_i rfl (jl_nlit rfl) dX12_draft_21
def jf_X12_draft (v1 : Int) (v2 : Int) (s0 : jl_Mm) : jl_O :=
  jl_bd (jf_X12_isWindow v1 s0) fun r1 s2 => if r1 = (0 : Int) then (jf_X12_draft_B20 s2) else (jl_bd (jf_X12_isAhead v2 (0 : Int) (60 : Int) s2) fun r4 s5 => if r4 = (0 : Int) then (jf_X12_draft_B20 s5) else (jl_lm (jl_up s5 249 (((0 : Int) : Int).toNat) (jl_add (jl_g s5 249 (((0 : Int) : Int).toNat)) v2)) fun s7 => jl_bd (jf_X12_draftAt v1 s7) fun r8 s9 => jl_lm (jl_up s9 249 (((0 : Int) : Int).toNat) (jl_sub (jl_g s9 249 (((0 : Int) : Int).toNat)) v2)) fun s10 => some (r8, s10)))
set_option maxRecDepth 20000 in
set_option maxHeartbeats 2000000 in
theorem jt_X12_draft (G : jl_GC) (v1 : Int) (v2 : Int) (h1 : jl_n3 v1) (h2 : jl_n3 v2) (s0 : jl_Mm) : jC2 G jM_X12_draft [jl_vr G 206, jl_vi v1, jl_vi v2] s0 (jf_X12_draft v1 v2 s0) := by
  refine jl_met (plainFor_of_name rfl) (Nat.le_of_ble_eq_true rfl) ?_
  show j2 G jM_X12_draft 0 [(0, jl_vr G 206), (1, jl_vi v1), (2, jl_vi v2)] [] s0 _
  refine jr_aload_n dX12_draft_0 0 rfl ?_
  refine jr_iload_n dX12_draft_1 1 rfl ?_
  refine jr_i2l dX12_draft_2 h1 ?_
  refine j2_callVz (As := [jl_vl v1]) dX12_draft_3 (jt_X12_isWindow G v1 (jl_n36 h1) s0) jv_X12_isWindow ⟨rfl, rfl, rfl⟩ jw_1866 jk_206 (by decide) (by decide) rfl ⟨Nat.le_of_ble_eq_true rfl, Nat.le_of_ble_eq_true rfl⟩ rfl (Nat.le_of_ble_eq_true rfl) (fun r1 s2 hr1 => ?_)
  refine jr_if_eq (t := 20) dX12_draft_6 (by decide) (jl_nz hr1) (fun c3 => ?_) (fun c3 => ?_)
  · refine jr_sub [] rfl ?_
    exact jj_X12_draft_B20 G s2
  · refine jr_aload_n dX12_draft_9 0 rfl ?_
    refine jr_iload_n dX12_draft_10 2 rfl ?_
    refine jr_iconst dX12_draft_11 ?_
    refine jr_bipush dX12_draft_12 (by decide) ?_
    refine j2_callVz (As := [jl_vi v2, jl_vi (0 : Int), jl_vi (60 : Int)]) dX12_draft_14 (jt_X12_isAhead G v2 (0 : Int) (60 : Int) h2 (jl_nlit rfl) (jl_nlit rfl) s2) jv_X12_isAhead ⟨rfl, rfl, rfl⟩ jw_1870 jk_206 (by decide) (by decide) rfl ⟨Nat.le_of_ble_eq_true rfl, Nat.le_of_ble_eq_true rfl⟩ rfl (Nat.le_of_ble_eq_true rfl) (fun r4 s5 hr4 => ?_)
    refine jr_if_ne (t := 22) dX12_draft_17 (by decide) (jl_nz hr4) (fun c6 => ?_) (fun c6 => ?_)
    · refine jr_sub [] rfl ?_
      exact jj_X12_draft_B20 G s5
    · refine jr_aload_n dX12_draft_22 0 rfl ?_
      refine jr_getk (i := 56) jc_12 jk_206 (by decide) (Nat.le_of_ble_eq_true rfl) jlk_206_56 jw_1261 dX12_draft_23 ?_
      refine jr_iconst dX12_draft_26 ?_
      refine jr_dup2_11 dX12_draft_27 rfl rfl ?_
      refine jr_iaload jk_249 (by decide) (jl_nlit rfl) ⟨by decide, by decide⟩ dX12_draft_28 ?_
      refine jr_iload_n dX12_draft_29 2 rfl ?_
      refine jr_iadd dX12_draft_30 ?_
      refine jr_iastore jk_249 (by decide) (jl_nlit rfl) ⟨by decide, by decide⟩ dX12_draft_31 ?_
      refine jr_lm (fun s7 => ?_)
      refine jr_aload_n dX12_draft_32 0 rfl ?_
      refine jr_iload_n dX12_draft_33 1 rfl ?_
      refine j2_callVi (As := [jl_vi v1]) dX12_draft_34 (jt_X12_draftAt G v1 h1 s7) jv_X12_draftAt ⟨rfl, rfl, rfl⟩ jw_1775 jk_206 (by decide) (by decide) rfl ⟨Nat.le_of_ble_eq_true rfl, Nat.le_of_ble_eq_true rfl⟩ rfl (Nat.le_of_ble_eq_true rfl) (fun r8 s9 hr8 => ?_)
      refine jr_istore_n (lv := [(3, jl_vi r8), (0, jl_vr G 206), (1, jl_vi v1), (2, jl_vi v2)]) dX12_draft_37 rfl (Nat.le_of_ble_eq_true rfl) rfl ?_
      refine jr_aload_n dX12_draft_38 1 rfl ?_
      refine jr_getk (i := 56) jc_12 jk_206 (by decide) (Nat.le_of_ble_eq_true rfl) jlk_206_56 jw_1261 dX12_draft_39 ?_
      refine jr_iconst dX12_draft_42 ?_
      refine jr_dup2_11 dX12_draft_43 rfl rfl ?_
      refine jr_iaload jk_249 (by decide) (jl_nlit rfl) ⟨by decide, by decide⟩ dX12_draft_44 ?_
      refine jr_iload_n dX12_draft_45 3 rfl ?_
      refine jr_isub dX12_draft_46 ?_
      refine jr_iastore jk_249 (by decide) (jl_nlit rfl) ⟨by decide, by decide⟩ dX12_draft_47 ?_
      refine jr_lm (fun s10 => ?_)
      refine jr_iload_n dX12_draft_48 0 rfl ?_
      exact jr_ret_i rfl hr8 dX12_draft_49
def jf_X12_plan_B45 (k0 : Int) (s0 : jl_Mm) : jl_O :=
  some (k0, s0)
set_option maxRecDepth 20000 in
set_option maxHeartbeats 2000000 in
theorem jj_X12_plan_B45 (G : jl_GC) (k0 : Int) (hk0 : jl_n3 k0) (s0 : jl_Mm) : j2 G jM_X12_plan 45 [] [jl_vi k0] s0 (jf_X12_plan_B45 k0 s0) := by
  exact jr_ret_i rfl hk0 dX12_plan_45
def jf_X12_plan_B44 (s0 : jl_Mm) : jl_O :=
  jf_X12_plan_B45 (-1 : Int) s0
set_option maxRecDepth 20000 in
set_option maxHeartbeats 2000000 in
theorem jj_X12_plan_B44 (G : jl_GC) (s0 : jl_Mm) : j2 G jM_X12_plan 44 [] [] s0 (jf_X12_plan_B44 s0) := by
  refine jr_iconst dX12_plan_44 ?_
  exact jj_X12_plan_B45 G (-1 : Int) (jl_nlit rfl) s0
def jf_X12_plan (v1 : Int) (v2 : Int) (s0 : jl_Mm) : jl_O :=
  jl_bd (jf_X12_planMany s0) fun r1 s2 => jl_bd (jf_X12_isIn v1 (0 : Int) (jl_sub r1 (1 : Int)) s2) fun r3 s4 => if r3 = (0 : Int) then (jf_X12_plan_B44 s4) else (jl_bd (jf_X12_isIn v2 (0 : Int) (2 : Int) s4) fun r6 s7 => if r6 = (0 : Int) then (jf_X12_plan_B44 s7) else (if 0 ≤ jl_add (jl_add (48 : Int) (jl_mul (3 : Int) v1)) v2 ∧ jl_add (jl_add (48 : Int) (jl_mul (3 : Int) v1)) v2 < ((96 : Nat) : Int) then jf_X12_plan_B45 (jl_g s7 245 (jl_add (jl_add (48 : Int) (jl_mul (3 : Int) v1)) v2).toNat) s7 else none))
set_option maxRecDepth 20000 in
set_option maxHeartbeats 2000000 in
theorem jt_X12_plan (G : jl_GC) (v1 : Int) (v2 : Int) (h1 : jl_n3 v1) (h2 : jl_n3 v2) (s0 : jl_Mm) : jC2 G jM_X12_plan [jl_vr G 206, jl_vi v1, jl_vi v2] s0 (jf_X12_plan v1 v2 s0) := by
  refine jl_met (plainFor_of_name rfl) (Nat.le_of_ble_eq_true rfl) ?_
  show j2 G jM_X12_plan 0 [(0, jl_vr G 206), (1, jl_vi v1), (2, jl_vi v2)] [] s0 _
  refine jr_iload_n dX12_plan_0 1 rfl ?_
  refine jr_i2l dX12_plan_1 h1 ?_
  refine jr_lconst (v := 0) dX12_plan_2 (by decide) ?_
  refine jr_aload_n dX12_plan_3 0 rfl ?_
  refine j2_callVi (As := []) dX12_plan_4 (jt_X12_planMany G s0) jv_X12_planMany ⟨rfl, rfl, rfl⟩ jw_1755 jk_206 (by decide) (by decide) rfl ⟨Nat.le_of_ble_eq_true rfl, Nat.le_of_ble_eq_true rfl⟩ rfl (Nat.le_of_ble_eq_true rfl) (fun r1 s2 hr1 => ?_)
  refine jr_iconst dX12_plan_7 ?_
  refine jr_isub dX12_plan_8 ?_
  refine jr_i2l dX12_plan_9 (jl_n3_to _) ?_
  refine j2_callSz (As := [jl_vl v1, jl_vl (0 : Int), jl_vl (jl_sub r1 (1 : Int))]) dX12_plan_10 (jt_X12_isIn G v1 (0 : Int) (jl_sub r1 (1 : Int)) (jl_n36 h1) (jl_n6lit rfl) (jl_n36 (jl_n3_to _)) s2) jv_X12_isIn ⟨rfl, rfl, rfl⟩ jw_1588 ⟨Nat.le_of_ble_eq_true rfl, Nat.le_of_ble_eq_true rfl⟩ rfl (Nat.le_of_ble_eq_true rfl) (fun r3 s4 hr3 => ?_)
  refine jr_if_eq (t := 44) dX12_plan_13 (by decide) (jl_nz hr3) (fun c5 => ?_) (fun c5 => ?_)
  · refine jr_sub [] rfl ?_
    exact jj_X12_plan_B44 G s4
  · refine jr_iload_n dX12_plan_16 2 rfl ?_
    refine jr_i2l dX12_plan_17 h2 ?_
    refine jr_lconst (v := 0) dX12_plan_18 (by decide) ?_
    refine jr_ldc2_w (v := 2) dX12_plan_19 jw_1681 (by decide) ?_
    refine j2_callSz (As := [jl_vl v2, jl_vl (0 : Int), jl_vl (2 : Int)]) dX12_plan_22 (jt_X12_isIn G v2 (0 : Int) (2 : Int) (jl_n36 h2) (jl_n6lit rfl) (jl_n6lit rfl) s4) jv_X12_isIn ⟨rfl, rfl, rfl⟩ jw_1588 ⟨Nat.le_of_ble_eq_true rfl, Nat.le_of_ble_eq_true rfl⟩ rfl (Nat.le_of_ble_eq_true rfl) (fun r6 s7 hr6 => ?_)
    refine jr_if_eq (t := 44) dX12_plan_25 (by decide) (jl_nz hr6) (fun c8 => ?_) (fun c8 => ?_)
    · refine jr_sub [] rfl ?_
      exact jj_X12_plan_B44 G s7
    · refine jr_aload_n dX12_plan_28 0 rfl ?_
      refine jr_getk (i := 48) jc_12 jk_206 (by decide) (Nat.le_of_ble_eq_true rfl) jlk_206_48 jw_1253 dX12_plan_29 ?_
      refine jr_bipush dX12_plan_32 (by decide) ?_
      refine jr_iconst dX12_plan_34 ?_
      refine jr_iload_n dX12_plan_35 1 rfl ?_
      refine jr_imul dX12_plan_36 ?_
      refine jr_iadd dX12_plan_37 ?_
      refine jr_iload_n dX12_plan_38 2 rfl ?_
      refine jr_iadd dX12_plan_39 ?_
      refine jr_grd (fun g9 => ?_)
      refine jr_iaload jk_245 (by decide) (jl_n3_to _) g9 dX12_plan_40 ?_
      refine jr_goto (t := 45) dX12_plan_41 (by decide) ?_
      refine jr_sub [] rfl ?_
      exact jj_X12_plan_B45 G (jl_g s7 245 (jl_add (jl_add (48 : Int) (jl_mul (3 : Int) v1)) v2).toNat) (jl_n3_to _) s7
def jf_X12_kept_B46 (k0 : Int) (s0 : jl_Mm) : jl_O :=
  some (k0, s0)
set_option maxRecDepth 20000 in
set_option maxHeartbeats 2000000 in
theorem jj_X12_kept_B46 (G : jl_GC) (k0 : Int) (hk0 : jl_n3 k0) (s0 : jl_Mm) : j2 G jM_X12_kept 46 [] [jl_vi k0] s0 (jf_X12_kept_B46 k0 s0) := by
  exact jr_ret_i rfl hk0 dX12_kept_46
def jf_X12_kept_B45 (s0 : jl_Mm) : jl_O :=
  jf_X12_kept_B46 (-1 : Int) s0
set_option maxRecDepth 20000 in
set_option maxHeartbeats 2000000 in
theorem jj_X12_kept_B45 (G : jl_GC) (s0 : jl_Mm) : j2 G jM_X12_kept 45 [] [] s0 (jf_X12_kept_B45 s0) := by
  refine jr_iconst dX12_kept_45 ?_
  exact jj_X12_kept_B46 G (-1 : Int) (jl_nlit rfl) s0
def jf_X12_kept (v1 : Int) (v2 : Int) (s0 : jl_Mm) : jl_O :=
  jl_bd (jf_X12_isIn v1 (0 : Int) (jl_sub (jl_g s0 249 (((24 : Int) : Int).toNat)) (1 : Int)) s0) fun r1 s2 => if r1 = (0 : Int) then (jf_X12_kept_B45 s2) else (jl_bd (jf_X12_isIn v2 (0 : Int) (1 : Int) s2) fun r4 s5 => if r4 = (0 : Int) then (jf_X12_kept_B45 s5) else (if 0 ≤ jl_add (jl_add (25 : Int) (jl_mul (2 : Int) v1)) v2 ∧ jl_add (jl_add (25 : Int) (jl_mul (2 : Int) v1)) v2 < ((105 : Nat) : Int) then jf_X12_kept_B46 (jl_g s5 249 (jl_add (jl_add (25 : Int) (jl_mul (2 : Int) v1)) v2).toNat) s5 else none))
set_option maxRecDepth 20000 in
set_option maxHeartbeats 2000000 in
theorem jt_X12_kept (G : jl_GC) (v1 : Int) (v2 : Int) (h1 : jl_n3 v1) (h2 : jl_n3 v2) (s0 : jl_Mm) : jC2 G jM_X12_kept [jl_vr G 206, jl_vi v1, jl_vi v2] s0 (jf_X12_kept v1 v2 s0) := by
  refine jl_met (plainFor_of_name rfl) (Nat.le_of_ble_eq_true rfl) ?_
  show j2 G jM_X12_kept 0 [(0, jl_vr G 206), (1, jl_vi v1), (2, jl_vi v2)] [] s0 _
  refine jr_iload_n dX12_kept_0 1 rfl ?_
  refine jr_i2l dX12_kept_1 h1 ?_
  refine jr_lconst (v := 0) dX12_kept_2 (by decide) ?_
  refine jr_aload_n dX12_kept_3 0 rfl ?_
  refine jr_getk (i := 56) jc_12 jk_206 (by decide) (Nat.le_of_ble_eq_true rfl) jlk_206_56 jw_1261 dX12_kept_4 ?_
  refine jr_bipush dX12_kept_7 (by decide) ?_
  refine jr_iaload jk_249 (by decide) (jl_nlit rfl) ⟨by decide, by decide⟩ dX12_kept_9 ?_
  refine jr_iconst dX12_kept_10 ?_
  refine jr_isub dX12_kept_11 ?_
  refine jr_i2l dX12_kept_12 (jl_n3_to _) ?_
  refine j2_callSz (As := [jl_vl v1, jl_vl (0 : Int), jl_vl (jl_sub (jl_g s0 249 (((24 : Int) : Int).toNat)) (1 : Int))]) dX12_kept_13 (jt_X12_isIn G v1 (0 : Int) (jl_sub (jl_g s0 249 (((24 : Int) : Int).toNat)) (1 : Int)) (jl_n36 h1) (jl_n6lit rfl) (jl_n36 (jl_n3_to _)) s0) jv_X12_isIn ⟨rfl, rfl, rfl⟩ jw_1588 ⟨Nat.le_of_ble_eq_true rfl, Nat.le_of_ble_eq_true rfl⟩ rfl (Nat.le_of_ble_eq_true rfl) (fun r1 s2 hr1 => ?_)
  refine jr_if_eq (t := 45) dX12_kept_16 (by decide) (jl_nz hr1) (fun c3 => ?_) (fun c3 => ?_)
  · refine jr_sub [] rfl ?_
    exact jj_X12_kept_B45 G s2
  · refine jr_iload_n dX12_kept_19 2 rfl ?_
    refine jr_i2l dX12_kept_20 h2 ?_
    refine jr_lconst (v := 0) dX12_kept_21 (by decide) ?_
    refine jr_lconst (v := 1) dX12_kept_22 (by decide) ?_
    refine j2_callSz (As := [jl_vl v2, jl_vl (0 : Int), jl_vl (1 : Int)]) dX12_kept_23 (jt_X12_isIn G v2 (0 : Int) (1 : Int) (jl_n36 h2) (jl_n6lit rfl) (jl_n6lit rfl) s2) jv_X12_isIn ⟨rfl, rfl, rfl⟩ jw_1588 ⟨Nat.le_of_ble_eq_true rfl, Nat.le_of_ble_eq_true rfl⟩ rfl (Nat.le_of_ble_eq_true rfl) (fun r4 s5 hr4 => ?_)
    refine jr_if_eq (t := 45) dX12_kept_26 (by decide) (jl_nz hr4) (fun c6 => ?_) (fun c6 => ?_)
    · refine jr_sub [] rfl ?_
      exact jj_X12_kept_B45 G s5
    · refine jr_aload_n dX12_kept_29 0 rfl ?_
      refine jr_getk (i := 56) jc_12 jk_206 (by decide) (Nat.le_of_ble_eq_true rfl) jlk_206_56 jw_1261 dX12_kept_30 ?_
      refine jr_bipush dX12_kept_33 (by decide) ?_
      refine jr_iconst dX12_kept_35 ?_
      refine jr_iload_n dX12_kept_36 1 rfl ?_
      refine jr_imul dX12_kept_37 ?_
      refine jr_iadd dX12_kept_38 ?_
      refine jr_iload_n dX12_kept_39 2 rfl ?_
      refine jr_iadd dX12_kept_40 ?_
      refine jr_grd (fun g7 => ?_)
      refine jr_iaload jk_249 (by decide) (jl_n3_to _) g7 dX12_kept_41 ?_
      refine jr_goto (t := 46) dX12_kept_42 (by decide) ?_
      refine jr_sub [] rfl ?_
      exact jj_X12_kept_B46 G (jl_g s5 249 (jl_add (jl_add (25 : Int) (jl_mul (2 : Int) v1)) v2).toNat) (jl_n3_to _) s5
def jf_X12_later_B20 (s0 : jl_Mm) : jl_O :=
  some ((-1 : Int), s0)
set_option maxRecDepth 20000 in
set_option maxHeartbeats 2000000 in
theorem jj_X12_later_B20 (G : jl_GC) (s0 : jl_Mm) : j2 G jM_X12_later 20 [] [] s0 (jf_X12_later_B20 s0) := by
  refine jr_iconst dX12_later_20 ?_
  exact jr_ret_i rfl (jl_nlit rfl) dX12_later_21
def jf_X12_later (v1 : Int) (v2 : Int) (s0 : jl_Mm) : jl_O :=
  jl_bd (jf_X12_isLie v1 s0) fun r1 s2 => if r1 = (0 : Int) then (jf_X12_later_B20 s2) else (jl_bd (jf_X12_isAhead v2 (0 : Int) (60 : Int) s2) fun r4 s5 => if r4 = (0 : Int) then (jf_X12_later_B20 s5) else (jl_bd (jf_X12_putsAside s5) fun r7 s8 => jl_bd (jf_X12_hoursGo v2 s8) fun r9 s10 => if 0 ≤ jl_add (8 : Int) v1 ∧ jl_add (8 : Int) v1 < ((105 : Nat) : Int) then jl_let (jl_g s10 249 (jl_add (8 : Int) v1).toNat) fun x12 => jl_bd (jf_X12_takesBack s10) fun r13 s14 => some (x12, s14) else none))
set_option maxRecDepth 20000 in
set_option maxHeartbeats 2000000 in
theorem jt_X12_later (G : jl_GC) (v1 : Int) (v2 : Int) (h1 : jl_n3 v1) (h2 : jl_n3 v2) (s0 : jl_Mm) : jC2 G jM_X12_later [jl_vr G 206, jl_vi v1, jl_vi v2] s0 (jf_X12_later v1 v2 s0) := by
  refine jl_met (plainFor_of_name rfl) (Nat.le_of_ble_eq_true rfl) ?_
  show j2 G jM_X12_later 0 [(0, jl_vr G 206), (1, jl_vi v1), (2, jl_vi v2)] [] s0 _
  refine jr_aload_n dX12_later_0 0 rfl ?_
  refine jr_iload_n dX12_later_1 1 rfl ?_
  refine jr_i2l dX12_later_2 h1 ?_
  refine j2_callVz (As := [jl_vl v1]) dX12_later_3 (jt_X12_isLie G v1 (jl_n36 h1) s0) jv_X12_isLie ⟨rfl, rfl, rfl⟩ jw_1850 jk_206 (by decide) (by decide) rfl ⟨Nat.le_of_ble_eq_true rfl, Nat.le_of_ble_eq_true rfl⟩ rfl (Nat.le_of_ble_eq_true rfl) (fun r1 s2 hr1 => ?_)
  refine jr_if_eq (t := 20) dX12_later_6 (by decide) (jl_nz hr1) (fun c3 => ?_) (fun c3 => ?_)
  · refine jr_sub [] rfl ?_
    exact jj_X12_later_B20 G s2
  · refine jr_aload_n dX12_later_9 0 rfl ?_
    refine jr_iload_n dX12_later_10 2 rfl ?_
    refine jr_iconst dX12_later_11 ?_
    refine jr_bipush dX12_later_12 (by decide) ?_
    refine j2_callVz (As := [jl_vi v2, jl_vi (0 : Int), jl_vi (60 : Int)]) dX12_later_14 (jt_X12_isAhead G v2 (0 : Int) (60 : Int) h2 (jl_nlit rfl) (jl_nlit rfl) s2) jv_X12_isAhead ⟨rfl, rfl, rfl⟩ jw_1870 jk_206 (by decide) (by decide) rfl ⟨Nat.le_of_ble_eq_true rfl, Nat.le_of_ble_eq_true rfl⟩ rfl (Nat.le_of_ble_eq_true rfl) (fun r4 s5 hr4 => ?_)
    refine jr_if_ne (t := 22) dX12_later_17 (by decide) (jl_nz hr4) (fun c6 => ?_) (fun c6 => ?_)
    · refine jr_sub [] rfl ?_
      exact jj_X12_later_B20 G s5
    · refine jr_aload_n dX12_later_22 0 rfl ?_
      refine j2_callVv (As := []) dX12_later_23 (jt_X12_putsAside G s5) jv_X12_putsAside ⟨rfl, rfl, rfl⟩ jw_1886 jk_206 (by decide) (by decide) rfl ⟨Nat.le_of_ble_eq_true rfl, Nat.le_of_ble_eq_true rfl⟩ rfl (Nat.le_of_ble_eq_true rfl) (fun r7 s8 hr7 => ?_)
      refine jr_aload_n dX12_later_26 0 rfl ?_
      refine jr_iload_n dX12_later_27 2 rfl ?_
      refine j2_callVv (As := [jl_vi v2]) dX12_later_28 (jt_X12_hoursGo G v2 h2 s8) jv_X12_hoursGo ⟨rfl, rfl, rfl⟩ jw_1890 jk_206 (by decide) (by decide) rfl ⟨Nat.le_of_ble_eq_true rfl, Nat.le_of_ble_eq_true rfl⟩ rfl (Nat.le_of_ble_eq_true rfl) (fun r9 s10 hr9 => ?_)
      refine jr_aload_n dX12_later_31 0 rfl ?_
      refine jr_getk (i := 56) jc_12 jk_206 (by decide) (Nat.le_of_ble_eq_true rfl) jlk_206_56 jw_1261 dX12_later_32 ?_
      refine jr_bipush dX12_later_35 (by decide) ?_
      refine jr_iload_n dX12_later_37 1 rfl ?_
      refine jr_iadd dX12_later_38 ?_
      refine jr_grd (fun g11 => ?_)
      refine jr_iaload jk_249 (by decide) (jl_n3_to _) g11 dX12_later_39 ?_
      refine jr_let (jl_n3_to _) (fun x12 hx12 => ?_)
      refine jr_istore_n (lv := [(3, jl_vi x12), (0, jl_vr G 206), (1, jl_vi v1), (2, jl_vi v2)]) dX12_later_40 rfl (Nat.le_of_ble_eq_true rfl) rfl ?_
      refine jr_aload_n dX12_later_41 1 rfl ?_
      refine j2_callVv (As := []) dX12_later_42 (jt_X12_takesBack G s10) jv_X12_takesBack ⟨rfl, rfl, rfl⟩ jw_1918 jk_206 (by decide) (by decide) rfl ⟨Nat.le_of_ble_eq_true rfl, Nat.le_of_ble_eq_true rfl⟩ rfl (Nat.le_of_ble_eq_true rfl) (fun r13 s14 hr13 => ?_)
      refine jr_iload_n dX12_later_45 0 rfl ?_
      exact jr_ret_i rfl hx12 dX12_later_46
def jf_X12_held_B20 (s0 : jl_Mm) : jl_O :=
  some ((-1 : Int), s0)
set_option maxRecDepth 20000 in
set_option maxHeartbeats 2000000 in
theorem jj_X12_held_B20 (G : jl_GC) (s0 : jl_Mm) : j2 G jM_X12_held 20 [] [] s0 (jf_X12_held_B20 s0) := by
  refine jr_iconst dX12_held_20 ?_
  exact jr_ret_i rfl (jl_nlit rfl) dX12_held_21
def jf_X12_held_B50 (k0 : Int) (s0 : jl_Mm) : jl_O :=
  some (k0, s0)
set_option maxRecDepth 20000 in
set_option maxHeartbeats 2000000 in
theorem jj_X12_held_B50 (G : jl_GC) (k0 : Int) (hk0 : jl_n3 k0) (s0 : jl_Mm) : j2 G jM_X12_held 50 [] [jl_vi k0] s0 (jf_X12_held_B50 k0 s0) := by
  exact jr_ret_i rfl hk0 dX12_held_50
def jf_X12_held (v1 : Int) (v2 : Int) (s0 : jl_Mm) : jl_O :=
  jl_bd (jf_X12_isLie v1 s0) fun r1 s2 => if r1 = (0 : Int) then (jf_X12_held_B20 s2) else (jl_bd (jf_X12_isAhead v2 (0 : Int) (60 : Int) s2) fun r4 s5 => if r4 = (0 : Int) then (jf_X12_held_B20 s5) else (jl_bd (jf_X12_putsAside s5) fun r7 s8 => jl_bd (jf_X12_hoursGo v2 s8) fun r9 s10 => jl_bd (jf_X12_isHeld v1 s10) fun r11 s12 => jl_bd (jf_X12_takesBack s12) fun r13 s14 => if r11 = (0 : Int) then (jf_X12_held_B50 (0 : Int) s14) else (jf_X12_held_B50 (1 : Int) s14)))
set_option maxRecDepth 20000 in
set_option maxHeartbeats 2000000 in
theorem jt_X12_held (G : jl_GC) (v1 : Int) (v2 : Int) (h1 : jl_n3 v1) (h2 : jl_n3 v2) (s0 : jl_Mm) : jC2 G jM_X12_held [jl_vr G 206, jl_vi v1, jl_vi v2] s0 (jf_X12_held v1 v2 s0) := by
  refine jl_met (plainFor_of_name rfl) (Nat.le_of_ble_eq_true rfl) ?_
  show j2 G jM_X12_held 0 [(0, jl_vr G 206), (1, jl_vi v1), (2, jl_vi v2)] [] s0 _
  refine jr_aload_n dX12_held_0 0 rfl ?_
  refine jr_iload_n dX12_held_1 1 rfl ?_
  refine jr_i2l dX12_held_2 h1 ?_
  refine j2_callVz (As := [jl_vl v1]) dX12_held_3 (jt_X12_isLie G v1 (jl_n36 h1) s0) jv_X12_isLie ⟨rfl, rfl, rfl⟩ jw_1850 jk_206 (by decide) (by decide) rfl ⟨Nat.le_of_ble_eq_true rfl, Nat.le_of_ble_eq_true rfl⟩ rfl (Nat.le_of_ble_eq_true rfl) (fun r1 s2 hr1 => ?_)
  refine jr_if_eq (t := 20) dX12_held_6 (by decide) (jl_nz hr1) (fun c3 => ?_) (fun c3 => ?_)
  · refine jr_sub [] rfl ?_
    exact jj_X12_held_B20 G s2
  · refine jr_aload_n dX12_held_9 0 rfl ?_
    refine jr_iload_n dX12_held_10 2 rfl ?_
    refine jr_iconst dX12_held_11 ?_
    refine jr_bipush dX12_held_12 (by decide) ?_
    refine j2_callVz (As := [jl_vi v2, jl_vi (0 : Int), jl_vi (60 : Int)]) dX12_held_14 (jt_X12_isAhead G v2 (0 : Int) (60 : Int) h2 (jl_nlit rfl) (jl_nlit rfl) s2) jv_X12_isAhead ⟨rfl, rfl, rfl⟩ jw_1870 jk_206 (by decide) (by decide) rfl ⟨Nat.le_of_ble_eq_true rfl, Nat.le_of_ble_eq_true rfl⟩ rfl (Nat.le_of_ble_eq_true rfl) (fun r4 s5 hr4 => ?_)
    refine jr_if_ne (t := 22) dX12_held_17 (by decide) (jl_nz hr4) (fun c6 => ?_) (fun c6 => ?_)
    · refine jr_sub [] rfl ?_
      exact jj_X12_held_B20 G s5
    · refine jr_aload_n dX12_held_22 0 rfl ?_
      refine j2_callVv (As := []) dX12_held_23 (jt_X12_putsAside G s5) jv_X12_putsAside ⟨rfl, rfl, rfl⟩ jw_1886 jk_206 (by decide) (by decide) rfl ⟨Nat.le_of_ble_eq_true rfl, Nat.le_of_ble_eq_true rfl⟩ rfl (Nat.le_of_ble_eq_true rfl) (fun r7 s8 hr7 => ?_)
      refine jr_aload_n dX12_held_26 0 rfl ?_
      refine jr_iload_n dX12_held_27 2 rfl ?_
      refine j2_callVv (As := [jl_vi v2]) dX12_held_28 (jt_X12_hoursGo G v2 h2 s8) jv_X12_hoursGo ⟨rfl, rfl, rfl⟩ jw_1890 jk_206 (by decide) (by decide) rfl ⟨Nat.le_of_ble_eq_true rfl, Nat.le_of_ble_eq_true rfl⟩ rfl (Nat.le_of_ble_eq_true rfl) (fun r9 s10 hr9 => ?_)
      refine jr_aload_n dX12_held_31 0 rfl ?_
      refine jr_iload_n dX12_held_32 1 rfl ?_
      refine j2_callVz (As := [jl_vi v1]) dX12_held_33 (jt_X12_isHeld G v1 h1 s10) jv_X12_isHeld ⟨rfl, rfl, rfl⟩ jw_1854 jk_206 (by decide) (by decide) rfl ⟨Nat.le_of_ble_eq_true rfl, Nat.le_of_ble_eq_true rfl⟩ rfl (Nat.le_of_ble_eq_true rfl) (fun r11 s12 hr11 => ?_)
      refine jr_istore_n (lv := [(3, jl_vi r11), (0, jl_vr G 206), (1, jl_vi v1), (2, jl_vi v2)]) dX12_held_36 rfl (Nat.le_of_ble_eq_true rfl) rfl ?_
      refine jr_aload_n dX12_held_37 1 rfl ?_
      refine j2_callVv (As := []) dX12_held_38 (jt_X12_takesBack G s12) jv_X12_takesBack ⟨rfl, rfl, rfl⟩ jw_1918 jk_206 (by decide) (by decide) rfl ⟨Nat.le_of_ble_eq_true rfl, Nat.le_of_ble_eq_true rfl⟩ rfl (Nat.le_of_ble_eq_true rfl) (fun r13 s14 hr13 => ?_)
      refine jr_iload_n dX12_held_41 0 rfl ?_
      refine jr_if_eq (t := 49) dX12_held_42 (by decide) (jl_nz hr11) (fun c15 => ?_) (fun c15 => ?_)
      · refine jr_iconst dX12_held_49 ?_
        refine jr_sub [] rfl ?_
        exact jj_X12_held_B50 G (0 : Int) (jl_nlit rfl) s14
      · refine jr_iconst dX12_held_45 ?_
        refine jr_goto (t := 50) dX12_held_46 (by decide) ?_
        refine jr_sub [] rfl ?_
        exact jj_X12_held_B50 G (1 : Int) (jl_nlit rfl) s14
def jf_X12_out_B17 (s0 : jl_Mm) : jl_O :=
  some ((-1 : Int), s0)
set_option maxRecDepth 20000 in
set_option maxHeartbeats 2000000 in
theorem jj_X12_out_B17 (G : jl_GC) (s0 : jl_Mm) : j2 G jM_X12_out 17 [] [] s0 (jf_X12_out_B17 s0) := by
  refine jr_iconst dX12_out_17 ?_
  exact jr_ret_i rfl (jl_nlit rfl) dX12_out_18
def jf_X12_out_B70 (l2 : Int) (s0 : jl_Mm) : jl_O :=
  jl_bd (jf_X12_takesBack s0) fun r10 s11 => some (l2, s11)
set_option maxRecDepth 20000 in
set_option maxHeartbeats 2000000 in
theorem jj_X12_out_B70 (G : jl_GC) (l2 : Int) (hl2 : jl_n3 l2) (s0 : jl_Mm) : j2 G jM_X12_out 70 [(0, jl_vr G 206), (2, jl_vi l2)] [] s0 (jf_X12_out_B70 l2 s0) := by
  refine jr_aload_n dX12_out_70 0 rfl ?_
  refine j2_callVv (As := []) dX12_out_71 (jt_X12_takesBack G s0) jv_X12_takesBack ⟨rfl, rfl, rfl⟩ jw_1918 jk_206 (by decide) (by decide) rfl ⟨Nat.le_of_ble_eq_true rfl, Nat.le_of_ble_eq_true rfl⟩ rfl (Nat.le_of_ble_eq_true rfl) (fun r10 s11 hr10 => ?_)
  refine jr_iload_n dX12_out_74 1 rfl ?_
  exact jr_ret_i rfl hl2 dX12_out_75
def jf_X12_out_B64 (R27 : Int → Int → Int → jl_Mm → jl_O) (l1 : Int) (l2 : Int) (l3 : Int) (s0 : jl_Mm) : jl_O :=
  R27 l1 l2 (jl_add l3 1) s0
set_option maxRecDepth 20000 in
set_option maxHeartbeats 2000000 in
theorem jj_X12_out_B64 (G : jl_GC) (R27 : Int → Int → Int → jl_Mm → jl_O) (hR27 : ∀ (l1 : Int) (l2 : Int) (l3 : Int) (_hl1 : jl_n3 l1) (_hl2 : jl_n3 l2) (_hl3 : jl_n3 l3) (s0 : jl_Mm), j2 G jM_X12_out 27 [(0, jl_vr G 206), (1, jl_vi l1), (2, jl_vi l2), (3, jl_vi l3)] [] s0 (R27 l1 l2 l3 s0)) (l1 : Int) (l2 : Int) (l3 : Int) (hl1 : jl_n3 l1) (hl2 : jl_n3 l2) (hl3 : jl_n3 l3) (s0 : jl_Mm) : j2 G jM_X12_out 64 [(0, jl_vr G 206), (1, jl_vi l1), (2, jl_vi l2), (3, jl_vi l3)] [] s0 (jf_X12_out_B64 R27 l1 l2 l3 s0) := by
  refine jr_iinc (j := 3) (lv := [(3, jl_vi (jl_add l3 1)), (0, jl_vr G 206), (1, jl_vi l1), (2, jl_vi l2)]) dX12_out_64 rfl (Nat.le_of_ble_eq_true rfl) rfl ?_
  refine jr_goto (t := 27) dX12_out_67 (by decide) ?_
  refine jr_sub [1, 2, 3, 0] rfl ?_
  exact hR27 l1 l2 (jl_add l3 1) hl1 hl2 (jl_n3_to _) s0
def jf_X12_out_L27 : Nat → Int → Int → Int → jl_Mm → jl_O
  | 0, _, _, _, _ => none
  | n + 1, l1, l2, l3, s0 =>
    if (60 : Int) < l3 then (jf_X12_out_B70 l2 s0) else (if (999 : Int) ≤ jl_g s0 249 (((0 : Int) : Int).toNat) then (jf_X12_out_B70 l2 s0) else (if l2 = (-1 : Int) then (jl_bd (jf_X12_hourGoes s0) fun r14 s15 => jl_bd (jf_X12_isLit l1 s15) fun r16 s17 => if r16 = (0 : Int) then (jf_X12_out_B64 (jf_X12_out_L27 n) l1 l3 l3 s17) else (jf_X12_out_B64 (jf_X12_out_L27 n) l1 l2 l3 s17)) else (jf_X12_out_B70 l2 s0)))
set_option maxRecDepth 20000 in
set_option maxHeartbeats 2000000 in
theorem jj_X12_out_L27 (G : jl_GC) : ∀ (n : Nat) (l1 : Int) (l2 : Int) (l3 : Int) (hl1 : jl_n3 l1) (hl2 : jl_n3 l2) (hl3 : jl_n3 l3) (s0 : jl_Mm), j2 G jM_X12_out 27 [(0, jl_vr G 206), (1, jl_vi l1), (2, jl_vi l2), (3, jl_vi l3)] [] s0 (jf_X12_out_L27 n l1 l2 l3 s0) := by
  intro n
  induction n with
  | zero =>
    intros
    exact jr_none
  | succ n ih =>
    intro l1 l2 l3 hl1 hl2 hl3 s0
    refine jr_iload_n dX12_out_27 3 rfl ?_
    refine jr_bipush dX12_out_28 (by decide) ?_
    refine jr_icmp_gt (t := 70) dX12_out_30 (by decide) hl3 (jl_nlit rfl) (fun c9 => ?_) (fun c9 => ?_)
    · refine jr_sub [0, 2] rfl ?_
      exact jj_X12_out_B70 G l2 hl2 s0
    · refine jr_aload_n dX12_out_33 0 rfl ?_
      refine jr_getk (i := 56) jc_12 jk_206 (by decide) (Nat.le_of_ble_eq_true rfl) jlk_206_56 jw_1261 dX12_out_34 ?_
      refine jr_iconst dX12_out_37 ?_
      refine jr_iaload jk_249 (by decide) (jl_nlit rfl) ⟨by decide, by decide⟩ dX12_out_38 ?_
      refine jr_sipush dX12_out_39 (by decide) ?_
      refine jr_icmp_ge (t := 70) dX12_out_42 (by decide) (jl_n3_to _) (jl_nlit rfl) (fun c12 => ?_) (fun c12 => ?_)
      · refine jr_sub [0, 2] rfl ?_
        exact jj_X12_out_B70 G l2 hl2 s0
      · refine jr_iload_n dX12_out_45 2 rfl ?_
        refine jr_iconst dX12_out_46 ?_
        refine jr_icmp_ne (t := 70) dX12_out_47 (by decide) hl2 (jl_nlit rfl) (fun c13 => ?_) (fun c13 => ?_)
        · refine jr_aload_n dX12_out_50 0 rfl ?_
          refine j2_callVv (As := []) dX12_out_51 (jt_X12_hourGoes G s0) jv_X12_hourGoes ⟨rfl, rfl, rfl⟩ jw_1894 jk_206 (by decide) (by decide) rfl ⟨Nat.le_of_ble_eq_true rfl, Nat.le_of_ble_eq_true rfl⟩ rfl (Nat.le_of_ble_eq_true rfl) (fun r14 s15 hr14 => ?_)
          refine jr_aload_n dX12_out_54 0 rfl ?_
          refine jr_iload_n dX12_out_55 1 rfl ?_
          refine j2_callVz (As := [jl_vi l1]) dX12_out_56 (jt_X12_isLit G l1 hl1 s15) jv_X12_isLit ⟨rfl, rfl, rfl⟩ jw_1763 jk_206 (by decide) (by decide) rfl ⟨Nat.le_of_ble_eq_true rfl, Nat.le_of_ble_eq_true rfl⟩ rfl (Nat.le_of_ble_eq_true rfl) (fun r16 s17 hr16 => ?_)
          refine jr_if_ne (t := 64) dX12_out_59 (by decide) (jl_nz hr16) (fun c18 => ?_) (fun c18 => ?_)
          · refine jr_iload_n dX12_out_62 3 rfl ?_
            refine jr_istore_n (lv := [(2, jl_vi l3), (0, jl_vr G 206), (1, jl_vi l1), (3, jl_vi l3)]) dX12_out_63 rfl (Nat.le_of_ble_eq_true rfl) rfl ?_
            refine jr_sub [1, 2, 0, 3] rfl ?_
            exact jj_X12_out_B64 G (jf_X12_out_L27 n) (ih) l1 l3 l3 hl1 hl3 hl3 s17
          · exact jj_X12_out_B64 G (jf_X12_out_L27 n) (ih) l1 l2 l3 hl1 hl2 hl3 s17
        · refine jr_sub [0, 2] rfl ?_
          exact jj_X12_out_B70 G l2 hl2 s0
def jf_X12_out (v1 : Int) (s0 : jl_Mm) : jl_O :=
  jl_bd (jf_X12_isLie v1 s0) fun r1 s2 => if r1 = (0 : Int) then (jf_X12_out_B17 s2) else (jl_bd (jf_X12_isLit v1 s2) fun r4 s5 => if r4 = (0 : Int) then (jf_X12_out_B17 s5) else (jl_bd (jf_X12_putsAside s5) fun r7 s8 => jf_X12_out_L27 jl_fu v1 (-1 : Int) (1 : Int) s8))
set_option maxRecDepth 20000 in
set_option maxHeartbeats 2000000 in
theorem jt_X12_out (G : jl_GC) (v1 : Int) (h1 : jl_n3 v1) (s0 : jl_Mm) : jC2 G jM_X12_out [jl_vr G 206, jl_vi v1] s0 (jf_X12_out v1 s0) := by
  refine jl_met (plainFor_of_name rfl) (Nat.le_of_ble_eq_true rfl) ?_
  show j2 G jM_X12_out 0 [(0, jl_vr G 206), (1, jl_vi v1)] [] s0 _
  refine jr_aload_n dX12_out_0 0 rfl ?_
  refine jr_iload_n dX12_out_1 1 rfl ?_
  refine jr_i2l dX12_out_2 h1 ?_
  refine j2_callVz (As := [jl_vl v1]) dX12_out_3 (jt_X12_isLie G v1 (jl_n36 h1) s0) jv_X12_isLie ⟨rfl, rfl, rfl⟩ jw_1850 jk_206 (by decide) (by decide) rfl ⟨Nat.le_of_ble_eq_true rfl, Nat.le_of_ble_eq_true rfl⟩ rfl (Nat.le_of_ble_eq_true rfl) (fun r1 s2 hr1 => ?_)
  refine jr_if_eq (t := 17) dX12_out_6 (by decide) (jl_nz hr1) (fun c3 => ?_) (fun c3 => ?_)
  · refine jr_sub [] rfl ?_
    exact jj_X12_out_B17 G s2
  · refine jr_aload_n dX12_out_9 0 rfl ?_
    refine jr_iload_n dX12_out_10 1 rfl ?_
    refine j2_callVz (As := [jl_vi v1]) dX12_out_11 (jt_X12_isLit G v1 h1 s2) jv_X12_isLit ⟨rfl, rfl, rfl⟩ jw_1763 jk_206 (by decide) (by decide) rfl ⟨Nat.le_of_ble_eq_true rfl, Nat.le_of_ble_eq_true rfl⟩ rfl (Nat.le_of_ble_eq_true rfl) (fun r4 s5 hr4 => ?_)
    refine jr_if_ne (t := 19) dX12_out_14 (by decide) (jl_nz hr4) (fun c6 => ?_) (fun c6 => ?_)
    · refine jr_sub [] rfl ?_
      exact jj_X12_out_B17 G s5
    · refine jr_iconst dX12_out_19 ?_
      refine jr_istore_n (lv := [(2, jl_vi (-1 : Int)), (0, jl_vr G 206), (1, jl_vi v1)]) dX12_out_20 rfl (Nat.le_of_ble_eq_true rfl) rfl ?_
      refine jr_aload_n dX12_out_21 1 rfl ?_
      refine j2_callVv (As := []) dX12_out_22 (jt_X12_putsAside G s5) jv_X12_putsAside ⟨rfl, rfl, rfl⟩ jw_1886 jk_206 (by decide) (by decide) rfl ⟨Nat.le_of_ble_eq_true rfl, Nat.le_of_ble_eq_true rfl⟩ rfl (Nat.le_of_ble_eq_true rfl) (fun r7 s8 hr7 => ?_)
      refine jr_iconst dX12_out_25 ?_
      refine jr_istore_n (lv := [(3, jl_vi (1 : Int)), (2, jl_vi (-1 : Int)), (0, jl_vr G 206), (1, jl_vi v1)]) dX12_out_26 rfl (Nat.le_of_ble_eq_true rfl) rfl ?_
      refine jr_sub [2, 3, 1, 0] rfl ?_
      exact jj_X12_out_L27 G jl_fu v1 (-1 : Int) (1 : Int) h1 (jl_nlit rfl) (jl_nlit rfl) s8
def jf_X12_trusted_B19 (s0 : jl_Mm) : jl_O :=
  some ((-1 : Int), s0)
set_option maxRecDepth 20000 in
set_option maxHeartbeats 2000000 in
theorem jj_X12_trusted_B19 (G : jl_GC) (s0 : jl_Mm) : j2 G jM_X12_trusted 19 [] [] s0 (jf_X12_trusted_B19 s0) := by
  refine jr_iconst dX12_trusted_19 ?_
  exact jr_ret_i rfl (jl_nlit rfl) dX12_trusted_20
def jf_X12_trusted_B116 (k0 : Int) (s0 : jl_Mm) : jl_O :=
  some (k0, s0)
set_option maxRecDepth 20000 in
set_option maxHeartbeats 2000000 in
theorem jj_X12_trusted_B116 (G : jl_GC) (k0 : Int) (hk0 : jl_n3 k0) (s0 : jl_Mm) : j2 G jM_X12_trusted 116 [] [jl_vi k0] s0 (jf_X12_trusted_B116 k0 s0) := by
  exact jr_ret_i rfl hk0 dX12_trusted_116
def jf_X12_trusted_B102 (l2 : Int) (l3 : Int) (l4 : Int) (s0 : jl_Mm) : jl_O :=
  jl_bd (jf_X12_takesBack s0) fun r10 s11 => if l2 = (0 : Int) then (jf_X12_trusted_B116 l3 s11) else (jf_X12_trusted_B116 l4 s11)
set_option maxRecDepth 20000 in
set_option maxHeartbeats 2000000 in
theorem jj_X12_trusted_B102 (G : jl_GC) (l2 : Int) (l3 : Int) (l4 : Int) (hl2 : jl_n3 l2) (hl3 : jl_n3 l3) (hl4 : jl_n3 l4) (s0 : jl_Mm) : j2 G jM_X12_trusted 102 [(0, jl_vr G 206), (2, jl_vi l2), (3, jl_vi l3), (4, jl_vi l4)] [] s0 (jf_X12_trusted_B102 l2 l3 l4 s0) := by
  refine jr_aload_n dX12_trusted_102 0 rfl ?_
  refine j2_callVv (As := []) dX12_trusted_103 (jt_X12_takesBack G s0) jv_X12_takesBack ⟨rfl, rfl, rfl⟩ jw_1918 jk_206 (by decide) (by decide) rfl ⟨Nat.le_of_ble_eq_true rfl, Nat.le_of_ble_eq_true rfl⟩ rfl (Nat.le_of_ble_eq_true rfl) (fun r10 s11 hr10 => ?_)
  refine jr_iload_n dX12_trusted_106 1 rfl ?_
  refine jr_if_ne (t := 114) dX12_trusted_107 (by decide) hl2 (fun c12 => ?_) (fun c12 => ?_)
  · refine jr_iload_n dX12_trusted_110 2 rfl ?_
    refine jr_goto (t := 116) dX12_trusted_111 (by decide) ?_
    refine jr_sub [] rfl ?_
    exact jj_X12_trusted_B116 G l3 hl3 s11
  · refine jr_iload dX12_trusted_114 3 rfl ?_
    refine jr_sub [] rfl ?_
    exact jj_X12_trusted_B116 G l4 hl4 s11
def jf_X12_trusted_B92 (R33 : Int → Int → Int → Int → Int → jl_Mm → jl_O) (l1 : Int) (l2 : Int) (l3 : Int) (l4 : Int) (l5 : Int) (s0 : jl_Mm) : jl_O :=
  jl_bd (jf_X12_hourGoes s0) fun r19 s20 => R33 l1 l2 l3 l4 (jl_add l5 1) s20
set_option maxRecDepth 20000 in
set_option maxHeartbeats 2000000 in
theorem jj_X12_trusted_B92 (G : jl_GC) (R33 : Int → Int → Int → Int → Int → jl_Mm → jl_O) (hR33 : ∀ (l1 : Int) (l2 : Int) (l3 : Int) (l4 : Int) (l5 : Int) (_hl1 : jl_n3 l1) (_hl2 : jl_n3 l2) (_hl3 : jl_n3 l3) (_hl4 : jl_n3 l4) (_hl5 : jl_n3 l5) (s0 : jl_Mm), j2 G jM_X12_trusted 33 [(0, jl_vr G 206), (1, jl_vi l1), (2, jl_vi l2), (3, jl_vi l3), (4, jl_vi l4), (5, jl_vi l5)] [] s0 (R33 l1 l2 l3 l4 l5 s0)) (l1 : Int) (l2 : Int) (l3 : Int) (l4 : Int) (l5 : Int) (hl1 : jl_n3 l1) (hl2 : jl_n3 l2) (hl3 : jl_n3 l3) (hl4 : jl_n3 l4) (hl5 : jl_n3 l5) (s0 : jl_Mm) : j2 G jM_X12_trusted 92 [(0, jl_vr G 206), (1, jl_vi l1), (2, jl_vi l2), (3, jl_vi l3), (4, jl_vi l4), (5, jl_vi l5)] [] s0 (jf_X12_trusted_B92 R33 l1 l2 l3 l4 l5 s0) := by
  refine jr_aload_n dX12_trusted_92 0 rfl ?_
  refine j2_callVv (As := []) dX12_trusted_93 (jt_X12_hourGoes G s0) jv_X12_hourGoes ⟨rfl, rfl, rfl⟩ jw_1894 jk_206 (by decide) (by decide) rfl ⟨Nat.le_of_ble_eq_true rfl, Nat.le_of_ble_eq_true rfl⟩ rfl (Nat.le_of_ble_eq_true rfl) (fun r19 s20 hr19 => ?_)
  refine jr_iinc (j := 5) (lv := [(5, jl_vi (jl_add l5 1)), (0, jl_vr G 206), (1, jl_vi l1), (2, jl_vi l2), (3, jl_vi l3), (4, jl_vi l4)]) dX12_trusted_96 rfl (Nat.le_of_ble_eq_true rfl) rfl ?_
  refine jr_goto (t := 33) dX12_trusted_99 (by decide) ?_
  refine jr_sub [1, 2, 3, 4, 5, 0] rfl ?_
  exact hR33 l1 l2 l3 l4 (jl_add l5 1) hl1 hl2 hl3 hl4 (jl_n3_to _) s20
def jf_X12_trusted_B78 (R33 : Int → Int → Int → Int → Int → jl_Mm → jl_O) (l1 : Int) (l2 : Int) (l3 : Int) (l4 : Int) (l5 : Int) (l6 : Int) (s0 : jl_Mm) : jl_O :=
  if l6 = (0 : Int) then (if l3 = (-1 : Int) then (jf_X12_trusted_B92 (R33) l1 l2 l3 l4 l5 s0) else (jf_X12_trusted_B92 (R33) l1 l2 l3 l5 l5 s0)) else (jf_X12_trusted_B92 (R33) l1 l2 l3 l4 l5 s0)
set_option maxRecDepth 20000 in
set_option maxHeartbeats 2000000 in
theorem jj_X12_trusted_B78 (G : jl_GC) (R33 : Int → Int → Int → Int → Int → jl_Mm → jl_O) (hR33 : ∀ (l1 : Int) (l2 : Int) (l3 : Int) (l4 : Int) (l5 : Int) (_hl1 : jl_n3 l1) (_hl2 : jl_n3 l2) (_hl3 : jl_n3 l3) (_hl4 : jl_n3 l4) (_hl5 : jl_n3 l5) (s0 : jl_Mm), j2 G jM_X12_trusted 33 [(0, jl_vr G 206), (1, jl_vi l1), (2, jl_vi l2), (3, jl_vi l3), (4, jl_vi l4), (5, jl_vi l5)] [] s0 (R33 l1 l2 l3 l4 l5 s0)) (l1 : Int) (l2 : Int) (l3 : Int) (l4 : Int) (l5 : Int) (l6 : Int) (hl1 : jl_n3 l1) (hl2 : jl_n3 l2) (hl3 : jl_n3 l3) (hl4 : jl_n3 l4) (hl5 : jl_n3 l5) (hl6 : jl_n3 l6) (s0 : jl_Mm) : j2 G jM_X12_trusted 78 [(0, jl_vr G 206), (1, jl_vi l1), (2, jl_vi l2), (3, jl_vi l3), (4, jl_vi l4), (5, jl_vi l5), (6, jl_vi l6)] [] s0 (jf_X12_trusted_B78 R33 l1 l2 l3 l4 l5 l6 s0) := by
  refine jr_iload dX12_trusted_78 6 rfl ?_
  refine jr_if_ne (t := 92) dX12_trusted_80 (by decide) hl6 (fun c18 => ?_) (fun c18 => ?_)
  · refine jr_iload_n dX12_trusted_83 3 rfl ?_
    refine jr_iconst dX12_trusted_84 ?_
    refine jr_icmp_eq (t := 92) dX12_trusted_85 (by decide) hl3 (jl_nlit rfl) (fun c21 => ?_) (fun c21 => ?_)
    · refine jr_sub [0, 1, 2, 3, 4, 5] rfl ?_
      exact jj_X12_trusted_B92 G (R33) (hR33) l1 l2 l3 l4 l5 hl1 hl2 hl3 hl4 hl5 s0
    · refine jr_iload dX12_trusted_88 5 rfl ?_
      refine jr_istore (lv := [(4, jl_vi l5), (0, jl_vr G 206), (1, jl_vi l1), (2, jl_vi l2), (3, jl_vi l3), (5, jl_vi l5), (6, jl_vi l6)]) dX12_trusted_90 (Nat.le_of_ble_eq_true rfl) rfl ?_
      refine jr_sub [1, 2, 3, 4, 0, 5] rfl ?_
      exact jj_X12_trusted_B92 G (R33) (hR33) l1 l2 l3 l5 l5 hl1 hl2 hl3 hl5 hl5 s0
  · refine jr_sub [0, 1, 2, 3, 4, 5] rfl ?_
    exact jj_X12_trusted_B92 G (R33) (hR33) l1 l2 l3 l4 l5 hl1 hl2 hl3 hl4 hl5 s0
def jf_X12_trusted_L33 : Nat → Int → Int → Int → Int → Int → jl_Mm → jl_O
  | 0, _, _, _, _, _, _ => none
  | n + 1, l1, l2, l3, l4, l5, s0 =>
    if (60 : Int) < l5 then (jf_X12_trusted_B102 l2 l3 l4 s0) else (if (999 : Int) < jl_g s0 249 (((0 : Int) : Int).toNat) then (jf_X12_trusted_B102 l2 l3 l4 s0) else (if l4 = (-1 : Int) then (jl_bd (jf_X12_isHeld l1 s0) fun r15 s16 => if r15 = (0 : Int) then (jf_X12_trusted_B78 (jf_X12_trusted_L33 n) l1 l2 l3 l4 l5 r15 s16) else (if l3 = (-1 : Int) then (jf_X12_trusted_B78 (jf_X12_trusted_L33 n) l1 l2 l5 l4 l5 r15 s16) else (jf_X12_trusted_B78 (jf_X12_trusted_L33 n) l1 l2 l3 l4 l5 r15 s16))) else (jf_X12_trusted_B102 l2 l3 l4 s0)))
set_option maxRecDepth 20000 in
set_option maxHeartbeats 2000000 in
theorem jj_X12_trusted_L33 (G : jl_GC) : ∀ (n : Nat) (l1 : Int) (l2 : Int) (l3 : Int) (l4 : Int) (l5 : Int) (hl1 : jl_n3 l1) (hl2 : jl_n3 l2) (hl3 : jl_n3 l3) (hl4 : jl_n3 l4) (hl5 : jl_n3 l5) (s0 : jl_Mm), j2 G jM_X12_trusted 33 [(0, jl_vr G 206), (1, jl_vi l1), (2, jl_vi l2), (3, jl_vi l3), (4, jl_vi l4), (5, jl_vi l5)] [] s0 (jf_X12_trusted_L33 n l1 l2 l3 l4 l5 s0) := by
  intro n
  induction n with
  | zero =>
    intros
    exact jr_none
  | succ n ih =>
    intro l1 l2 l3 l4 l5 hl1 hl2 hl3 hl4 hl5 s0
    refine jr_iload dX12_trusted_33 5 rfl ?_
    refine jr_bipush dX12_trusted_35 (by decide) ?_
    refine jr_icmp_gt (t := 102) dX12_trusted_37 (by decide) hl5 (jl_nlit rfl) (fun c9 => ?_) (fun c9 => ?_)
    · refine jr_sub [0, 2, 3, 4] rfl ?_
      exact jj_X12_trusted_B102 G l2 l3 l4 hl2 hl3 hl4 s0
    · refine jr_aload_n dX12_trusted_40 0 rfl ?_
      refine jr_getk (i := 56) jc_12 jk_206 (by decide) (Nat.le_of_ble_eq_true rfl) jlk_206_56 jw_1261 dX12_trusted_41 ?_
      refine jr_iconst dX12_trusted_44 ?_
      refine jr_iaload jk_249 (by decide) (jl_nlit rfl) ⟨by decide, by decide⟩ dX12_trusted_45 ?_
      refine jr_sipush dX12_trusted_46 (by decide) ?_
      refine jr_icmp_gt (t := 102) dX12_trusted_49 (by decide) (jl_n3_to _) (jl_nlit rfl) (fun c13 => ?_) (fun c13 => ?_)
      · refine jr_sub [0, 2, 3, 4] rfl ?_
        exact jj_X12_trusted_B102 G l2 l3 l4 hl2 hl3 hl4 s0
      · refine jr_iload dX12_trusted_52 4 rfl ?_
        refine jr_iconst dX12_trusted_54 ?_
        refine jr_icmp_ne (t := 102) dX12_trusted_55 (by decide) hl4 (jl_nlit rfl) (fun c14 => ?_) (fun c14 => ?_)
        · refine jr_aload_n dX12_trusted_58 0 rfl ?_
          refine jr_iload_n dX12_trusted_59 1 rfl ?_
          refine j2_callVz (As := [jl_vi l1]) dX12_trusted_60 (jt_X12_isHeld G l1 hl1 s0) jv_X12_isHeld ⟨rfl, rfl, rfl⟩ jw_1854 jk_206 (by decide) (by decide) rfl ⟨Nat.le_of_ble_eq_true rfl, Nat.le_of_ble_eq_true rfl⟩ rfl (Nat.le_of_ble_eq_true rfl) (fun r15 s16 hr15 => ?_)
          refine jr_istore (lv := [(6, jl_vi r15), (0, jl_vr G 206), (1, jl_vi l1), (2, jl_vi l2), (3, jl_vi l3), (4, jl_vi l4), (5, jl_vi l5)]) dX12_trusted_63 (Nat.le_of_ble_eq_true rfl) rfl ?_
          refine jr_iload dX12_trusted_65 0 rfl ?_
          refine jr_if_eq (t := 78) dX12_trusted_67 (by decide) (jl_nz hr15) (fun c17 => ?_) (fun c17 => ?_)
          · refine jr_sub [1, 2, 3, 4, 5, 6, 0] rfl ?_
            exact jj_X12_trusted_B78 G (jf_X12_trusted_L33 n) (ih) l1 l2 l3 l4 l5 r15 hl1 hl2 hl3 hl4 hl5 (jl_nz hr15) s16
          · refine jr_iload_n dX12_trusted_70 4 rfl ?_
            refine jr_iconst dX12_trusted_71 ?_
            refine jr_icmp_ne (t := 78) dX12_trusted_72 (by decide) hl3 (jl_nlit rfl) (fun c22 => ?_) (fun c22 => ?_)
            · refine jr_iload dX12_trusted_75 6 rfl ?_
              refine jr_istore_n (lv := [(3, jl_vi l5), (6, jl_vi r15), (0, jl_vr G 206), (1, jl_vi l1), (2, jl_vi l2), (4, jl_vi l4), (5, jl_vi l5)]) dX12_trusted_77 rfl (Nat.le_of_ble_eq_true rfl) rfl ?_
              refine jr_sub [2, 3, 4, 0, 5, 6, 1] rfl ?_
              exact jj_X12_trusted_B78 G (jf_X12_trusted_L33 n) (ih) l1 l2 l5 l4 l5 r15 hl1 hl2 hl5 hl4 hl5 (jl_nz hr15) s16
            · refine jr_sub [1, 2, 3, 4, 5, 6, 0] rfl ?_
              exact jj_X12_trusted_B78 G (jf_X12_trusted_L33 n) (ih) l1 l2 l3 l4 l5 r15 hl1 hl2 hl3 hl4 hl5 (jl_nz hr15) s16
        · refine jr_sub [0, 2, 3, 4] rfl ?_
          exact jj_X12_trusted_B102 G l2 l3 l4 hl2 hl3 hl4 s0
def jf_X12_trusted (v1 : Int) (v2 : Int) (s0 : jl_Mm) : jl_O :=
  jl_bd (jf_X12_isLie v1 s0) fun r1 s2 => if r1 = (0 : Int) then (jf_X12_trusted_B19 s2) else (jl_bd (jf_X12_isIn v2 (0 : Int) (1 : Int) s2) fun r4 s5 => if r4 = (0 : Int) then (jf_X12_trusted_B19 s5) else (jl_bd (jf_X12_putsAside s5) fun r7 s8 => jf_X12_trusted_L33 jl_fu v1 v2 (-1 : Int) (-1 : Int) (0 : Int) s8))
set_option maxRecDepth 20000 in
set_option maxHeartbeats 2000000 in
theorem jt_X12_trusted (G : jl_GC) (v1 : Int) (v2 : Int) (h1 : jl_n3 v1) (h2 : jl_n3 v2) (s0 : jl_Mm) : jC2 G jM_X12_trusted [jl_vr G 206, jl_vi v1, jl_vi v2] s0 (jf_X12_trusted v1 v2 s0) := by
  refine jl_met (plainFor_of_name rfl) (Nat.le_of_ble_eq_true rfl) ?_
  show j2 G jM_X12_trusted 0 [(0, jl_vr G 206), (1, jl_vi v1), (2, jl_vi v2)] [] s0 _
  refine jr_aload_n dX12_trusted_0 0 rfl ?_
  refine jr_iload_n dX12_trusted_1 1 rfl ?_
  refine jr_i2l dX12_trusted_2 h1 ?_
  refine j2_callVz (As := [jl_vl v1]) dX12_trusted_3 (jt_X12_isLie G v1 (jl_n36 h1) s0) jv_X12_isLie ⟨rfl, rfl, rfl⟩ jw_1850 jk_206 (by decide) (by decide) rfl ⟨Nat.le_of_ble_eq_true rfl, Nat.le_of_ble_eq_true rfl⟩ rfl (Nat.le_of_ble_eq_true rfl) (fun r1 s2 hr1 => ?_)
  refine jr_if_eq (t := 19) dX12_trusted_6 (by decide) (jl_nz hr1) (fun c3 => ?_) (fun c3 => ?_)
  · refine jr_sub [] rfl ?_
    exact jj_X12_trusted_B19 G s2
  · refine jr_iload_n dX12_trusted_9 2 rfl ?_
    refine jr_i2l dX12_trusted_10 h2 ?_
    refine jr_lconst (v := 0) dX12_trusted_11 (by decide) ?_
    refine jr_lconst (v := 1) dX12_trusted_12 (by decide) ?_
    refine j2_callSz (As := [jl_vl v2, jl_vl (0 : Int), jl_vl (1 : Int)]) dX12_trusted_13 (jt_X12_isIn G v2 (0 : Int) (1 : Int) (jl_n36 h2) (jl_n6lit rfl) (jl_n6lit rfl) s2) jv_X12_isIn ⟨rfl, rfl, rfl⟩ jw_1588 ⟨Nat.le_of_ble_eq_true rfl, Nat.le_of_ble_eq_true rfl⟩ rfl (Nat.le_of_ble_eq_true rfl) (fun r4 s5 hr4 => ?_)
    refine jr_if_ne (t := 21) dX12_trusted_16 (by decide) (jl_nz hr4) (fun c6 => ?_) (fun c6 => ?_)
    · refine jr_sub [] rfl ?_
      exact jj_X12_trusted_B19 G s5
    · refine jr_iconst dX12_trusted_21 ?_
      refine jr_istore_n (lv := [(3, jl_vi (-1 : Int)), (0, jl_vr G 206), (1, jl_vi v1), (2, jl_vi v2)]) dX12_trusted_22 rfl (Nat.le_of_ble_eq_true rfl) rfl ?_
      refine jr_iconst dX12_trusted_23 ?_
      refine jr_istore (lv := [(4, jl_vi (-1 : Int)), (3, jl_vi (-1 : Int)), (0, jl_vr G 206), (1, jl_vi v1), (2, jl_vi v2)]) dX12_trusted_24 (Nat.le_of_ble_eq_true rfl) rfl ?_
      refine jr_aload_n dX12_trusted_26 2 rfl ?_
      refine j2_callVv (As := []) dX12_trusted_27 (jt_X12_putsAside G s5) jv_X12_putsAside ⟨rfl, rfl, rfl⟩ jw_1886 jk_206 (by decide) (by decide) rfl ⟨Nat.le_of_ble_eq_true rfl, Nat.le_of_ble_eq_true rfl⟩ rfl (Nat.le_of_ble_eq_true rfl) (fun r7 s8 hr7 => ?_)
      refine jr_iconst dX12_trusted_30 ?_
      refine jr_istore (lv := [(5, jl_vi (0 : Int)), (4, jl_vi (-1 : Int)), (3, jl_vi (-1 : Int)), (0, jl_vr G 206), (1, jl_vi v1), (2, jl_vi v2)]) dX12_trusted_31 (Nat.le_of_ble_eq_true rfl) rfl ?_
      refine jr_sub [3, 4, 5, 2, 1, 0] rfl ?_
      exact jj_X12_trusted_L33 G jl_fu v1 v2 (-1 : Int) (-1 : Int) (0 : Int) h1 h2 (jl_nlit rfl) (jl_nlit rfl) (jl_nlit rfl) s8
def jf_X12_isEnough_B69 (k0 : Int) (s0 : jl_Mm) : jl_O :=
  jl_bd (jf_X12_triesAnew s0) fun r9 s10 => jl_zb k0 s10
set_option maxRecDepth 20000 in
set_option maxHeartbeats 2000000 in
theorem jj_X12_isEnough_B69 (G : jl_GC) (k0 : Int) (hk0 : jl_n3 k0) (s0 : jl_Mm) : j2 G jM_X12_isEnough 69 [(0, jl_vr G 206)] [jl_vi k0] s0 (jf_X12_isEnough_B69 k0 s0) := by
  refine jr_istore (lv := [(4, jl_vi k0), (0, jl_vr G 206)]) dX12_isEnough_69 (Nat.le_of_ble_eq_true rfl) rfl ?_
  refine jr_aload_n dX12_isEnough_71 1 rfl ?_
  refine j2_callVv (As := []) dX12_isEnough_72 (jt_X12_triesAnew G s0) jv_X12_triesAnew ⟨rfl, rfl, rfl⟩ jw_1922 jk_206 (by decide) (by decide) rfl ⟨Nat.le_of_ble_eq_true rfl, Nat.le_of_ble_eq_true rfl⟩ rfl (Nat.le_of_ble_eq_true rfl) (fun r9 s10 hr9 => ?_)
  refine jr_iload dX12_isEnough_75 0 rfl ?_
  exact jr_ret_z rfl dX12_isEnough_77
def jf_X12_isEnough_B42 (R3 : Int → Int → Int → Int → jl_Mm → jl_O) (l1 : Int) (l2 : Int) (l3 : Int) (l4 : Int) (s0 : jl_Mm) : jl_O :=
  R3 l1 l2 l3 (jl_add l4 1) s0
set_option maxRecDepth 20000 in
set_option maxHeartbeats 2000000 in
theorem jj_X12_isEnough_B42 (G : jl_GC) (R3 : Int → Int → Int → Int → jl_Mm → jl_O) (hR3 : ∀ (l1 : Int) (l2 : Int) (l3 : Int) (l4 : Int) (_hl1 : jl_n3 l1) (_hl2 : jl_n3 l2) (_hl3 : jl_n3 l3) (_hl4 : jl_n3 l4) (s0 : jl_Mm), j2 G jM_X12_isEnough 3 [(0, jl_vr G 206), (1, jl_vi l1), (2, jl_vi l2), (3, jl_vi l3), (4, jl_vi l4)] [] s0 (R3 l1 l2 l3 l4 s0)) (l1 : Int) (l2 : Int) (l3 : Int) (l4 : Int) (hl1 : jl_n3 l1) (hl2 : jl_n3 l2) (hl3 : jl_n3 l3) (hl4 : jl_n3 l4) (s0 : jl_Mm) : j2 G jM_X12_isEnough 42 [(0, jl_vr G 206), (1, jl_vi l1), (2, jl_vi l2), (3, jl_vi l3), (4, jl_vi l4)] [] s0 (jf_X12_isEnough_B42 R3 l1 l2 l3 l4 s0) := by
  refine jr_iinc (j := 4) (lv := [(4, jl_vi (jl_add l4 1)), (0, jl_vr G 206), (1, jl_vi l1), (2, jl_vi l2), (3, jl_vi l3)]) dX12_isEnough_42 rfl (Nat.le_of_ble_eq_true rfl) rfl ?_
  refine jr_goto (t := 3) dX12_isEnough_45 (by decide) ?_
  refine jr_sub [1, 2, 3, 4, 0] rfl ?_
  exact hR3 l1 l2 l3 (jl_add l4 1) hl1 hl2 hl3 (jl_n3_to _) s0
def jf_X12_isEnough_L3 : Nat → Int → Int → Int → Int → jl_Mm → jl_O
  | 0, _, _, _, _, _ => none
  | n + 1, l1, l2, l3, l4, s0 =>
    jl_bd (jf_X12_lieMany s0) fun r1 s2 => if r1 ≤ l4 then (jl_bd (jf_X12_hoursGo l3 s2) fun r4 s5 => jl_bd (jf_X12_laysHeld s5) fun r6 s7 => if jl_and l1 (jl_xor r6 (-1 : Int)) = (0 : Int) then (jf_X12_isEnough_B69 (1 : Int) s7) else (jf_X12_isEnough_B69 (0 : Int) s7)) else (if jl_and (jl_shr l1 l4) (1 : Int) = (1 : Int) then (jl_bd (jf_X12_isLit l4 s2) fun r12 s13 => if r12 = (0 : Int) then (if 0 ≤ jl_add (8 : Int) l4 ∧ jl_add (8 : Int) l4 < ((105 : Nat) : Int) then jl_lm (jl_up s13 249 (jl_add (8 : Int) l4).toNat l2) fun s16 => jf_X12_isEnough_B42 (jf_X12_isEnough_L3 n) l1 l2 l3 l4 s16 else none) else (jf_X12_isEnough_B42 (jf_X12_isEnough_L3 n) l1 l2 l3 l4 s13)) else (jf_X12_isEnough_B42 (jf_X12_isEnough_L3 n) l1 l2 l3 l4 s2))
set_option maxRecDepth 20000 in
set_option maxHeartbeats 2000000 in
theorem jj_X12_isEnough_L3 (G : jl_GC) : ∀ (n : Nat) (l1 : Int) (l2 : Int) (l3 : Int) (l4 : Int) (hl1 : jl_n3 l1) (hl2 : jl_n3 l2) (hl3 : jl_n3 l3) (hl4 : jl_n3 l4) (s0 : jl_Mm), j2 G jM_X12_isEnough 3 [(0, jl_vr G 206), (1, jl_vi l1), (2, jl_vi l2), (3, jl_vi l3), (4, jl_vi l4)] [] s0 (jf_X12_isEnough_L3 n l1 l2 l3 l4 s0) := by
  intro n
  induction n with
  | zero =>
    intros
    exact jr_none
  | succ n ih =>
    intro l1 l2 l3 l4 hl1 hl2 hl3 hl4 s0
    refine jr_iload dX12_isEnough_3 4 rfl ?_
    refine jr_aload_n dX12_isEnough_5 0 rfl ?_
    refine j2_callVi (As := []) dX12_isEnough_6 (jt_X12_lieMany G s0) jv_X12_lieMany ⟨rfl, rfl, rfl⟩ jw_1751 jk_206 (by decide) (by decide) rfl ⟨Nat.le_of_ble_eq_true rfl, Nat.le_of_ble_eq_true rfl⟩ rfl (Nat.le_of_ble_eq_true rfl) (fun r1 s2 hr1 => ?_)
    refine jr_icmp_ge (t := 48) dX12_isEnough_9 (by decide) hl4 hr1 (fun c3 => ?_) (fun c3 => ?_)
    · refine jr_aload_n dX12_isEnough_48 0 rfl ?_
      refine jr_iload_n dX12_isEnough_49 3 rfl ?_
      refine j2_callVv (As := [jl_vi l3]) dX12_isEnough_50 (jt_X12_hoursGo G l3 hl3 s2) jv_X12_hoursGo ⟨rfl, rfl, rfl⟩ jw_1890 jk_206 (by decide) (by decide) rfl ⟨Nat.le_of_ble_eq_true rfl, Nat.le_of_ble_eq_true rfl⟩ rfl (Nat.le_of_ble_eq_true rfl) (fun r4 s5 hr4 => ?_)
      refine jr_iload_n dX12_isEnough_53 1 rfl ?_
      refine jr_aload_n dX12_isEnough_54 0 rfl ?_
      refine j2_callVi (As := []) dX12_isEnough_55 (jt_X12_laysHeld G s5) jv_X12_laysHeld ⟨rfl, rfl, rfl⟩ jw_1767 jk_206 (by decide) (by decide) rfl ⟨Nat.le_of_ble_eq_true rfl, Nat.le_of_ble_eq_true rfl⟩ rfl (Nat.le_of_ble_eq_true rfl) (fun r6 s7 hr6 => ?_)
      refine jr_iconst dX12_isEnough_58 ?_
      refine jr_ixor dX12_isEnough_59 ?_
      refine jr_iand dX12_isEnough_60 ?_
      refine jr_if_ne (t := 68) dX12_isEnough_61 (by decide) (jl_n3_to _) (fun c8 => ?_) (fun c8 => ?_)
      · refine jr_iconst dX12_isEnough_64 ?_
        refine jr_goto (t := 69) dX12_isEnough_65 (by decide) ?_
        refine jr_sub [0] rfl ?_
        exact jj_X12_isEnough_B69 G (1 : Int) (jl_nlit rfl) s7
      · refine jr_iconst dX12_isEnough_68 ?_
        refine jr_sub [0] rfl ?_
        exact jj_X12_isEnough_B69 G (0 : Int) (jl_nlit rfl) s7
    · refine jr_iload_n dX12_isEnough_12 1 rfl ?_
      refine jr_iload dX12_isEnough_13 4 rfl ?_
      refine jr_ishr dX12_isEnough_15 ?_
      refine jr_iconst dX12_isEnough_16 ?_
      refine jr_iand dX12_isEnough_17 ?_
      refine jr_iconst dX12_isEnough_18 ?_
      refine jr_icmp_ne (t := 42) dX12_isEnough_19 (by decide) (jl_n3_to _) (jl_nlit rfl) (fun c11 => ?_) (fun c11 => ?_)
      · refine jr_aload_n dX12_isEnough_22 0 rfl ?_
        refine jr_iload dX12_isEnough_23 4 rfl ?_
        refine j2_callVz (As := [jl_vi l4]) dX12_isEnough_25 (jt_X12_isLit G l4 hl4 s2) jv_X12_isLit ⟨rfl, rfl, rfl⟩ jw_1763 jk_206 (by decide) (by decide) rfl ⟨Nat.le_of_ble_eq_true rfl, Nat.le_of_ble_eq_true rfl⟩ rfl (Nat.le_of_ble_eq_true rfl) (fun r12 s13 hr12 => ?_)
        refine jr_if_ne (t := 42) dX12_isEnough_28 (by decide) (jl_nz hr12) (fun c14 => ?_) (fun c14 => ?_)
        · refine jr_aload_n dX12_isEnough_31 0 rfl ?_
          refine jr_getk (i := 56) jc_12 jk_206 (by decide) (Nat.le_of_ble_eq_true rfl) jlk_206_56 jw_1261 dX12_isEnough_32 ?_
          refine jr_bipush dX12_isEnough_35 (by decide) ?_
          refine jr_iload dX12_isEnough_37 4 rfl ?_
          refine jr_iadd dX12_isEnough_39 ?_
          refine jr_iload_n dX12_isEnough_40 2 rfl ?_
          refine jr_grd (fun g15 => ?_)
          refine jr_iastore jk_249 (by decide) (jl_n3_to _) g15 dX12_isEnough_41 ?_
          refine jr_lm (fun s16 => ?_)
          exact jj_X12_isEnough_B42 G (jf_X12_isEnough_L3 n) (ih) l1 l2 l3 l4 hl1 hl2 hl3 hl4 s16
        · exact jj_X12_isEnough_B42 G (jf_X12_isEnough_L3 n) (ih) l1 l2 l3 l4 hl1 hl2 hl3 hl4 s13
      · exact jj_X12_isEnough_B42 G (jf_X12_isEnough_L3 n) (ih) l1 l2 l3 l4 hl1 hl2 hl3 hl4 s2
def jf_X12_isEnough (v1 : Int) (v2 : Int) (v3 : Int) (s0 : jl_Mm) : jl_O :=
  jf_X12_isEnough_L3 jl_fu v1 v2 v3 (0 : Int) s0
set_option maxRecDepth 20000 in
set_option maxHeartbeats 2000000 in
theorem jt_X12_isEnough (G : jl_GC) (v1 : Int) (v2 : Int) (v3 : Int) (h1 : jl_n3 v1) (h2 : jl_n3 v2) (h3 : jl_n3 v3) (s0 : jl_Mm) : jC2 G jM_X12_isEnough [jl_vr G 206, jl_vi v1, jl_vi v2, jl_vi v3] s0 (jf_X12_isEnough v1 v2 v3 s0) := by
  refine jl_met (plainFor_of_name rfl) (Nat.le_of_ble_eq_true rfl) ?_
  show j2 G jM_X12_isEnough 0 [(0, jl_vr G 206), (1, jl_vi v1), (2, jl_vi v2), (3, jl_vi v3)] [] s0 _
  refine jr_iconst dX12_isEnough_0 ?_
  refine jr_istore (lv := [(4, jl_vi (0 : Int)), (0, jl_vr G 206), (1, jl_vi v1), (2, jl_vi v2), (3, jl_vi v3)]) dX12_isEnough_1 (Nat.le_of_ble_eq_true rfl) rfl ?_
  refine jr_sub [1, 2, 3, 4, 0] rfl ?_
  exact jj_X12_isEnough_L3 G jl_fu v1 v2 v3 (0 : Int) h1 h2 h3 (jl_nlit rfl) s0
def jf_X12_leastFor_B41 (l3 : Int) (s0 : jl_Mm) : jl_O :=
  jl_bd (jf_X12_takesBack s0) fun r4 s5 => some (l3, s5)
set_option maxRecDepth 20000 in
set_option maxHeartbeats 2000000 in
theorem jj_X12_leastFor_B41 (G : jl_GC) (l3 : Int) (hl3 : jl_n3 l3) (s0 : jl_Mm) : j2 G jM_X12_leastFor 41 [(0, jl_vr G 206), (3, jl_vi l3)] [] s0 (jf_X12_leastFor_B41 l3 s0) := by
  refine jr_aload_n dX12_leastFor_41 0 rfl ?_
  refine j2_callVv (As := []) dX12_leastFor_42 (jt_X12_takesBack G s0) jv_X12_takesBack ⟨rfl, rfl, rfl⟩ jw_1918 jk_206 (by decide) (by decide) rfl ⟨Nat.le_of_ble_eq_true rfl, Nat.le_of_ble_eq_true rfl⟩ rfl (Nat.le_of_ble_eq_true rfl) (fun r4 s5 hr4 => ?_)
  refine jr_iload_n dX12_leastFor_45 1 rfl ?_
  exact jr_ret_i rfl hl3 dX12_leastFor_46
def jf_X12_leastFor_B35 (R9 : Int → Int → Int → Int → jl_Mm → jl_O) (l1 : Int) (l2 : Int) (l3 : Int) (l4 : Int) (s0 : jl_Mm) : jl_O :=
  R9 l1 l2 l3 (jl_add l4 1) s0
set_option maxRecDepth 20000 in
set_option maxHeartbeats 2000000 in
theorem jj_X12_leastFor_B35 (G : jl_GC) (R9 : Int → Int → Int → Int → jl_Mm → jl_O) (hR9 : ∀ (l1 : Int) (l2 : Int) (l3 : Int) (l4 : Int) (_hl1 : jl_n3 l1) (_hl2 : jl_n3 l2) (_hl3 : jl_n3 l3) (_hl4 : jl_n3 l4) (s0 : jl_Mm), j2 G jM_X12_leastFor 9 [(0, jl_vr G 206), (1, jl_vi l1), (2, jl_vi l2), (3, jl_vi l3), (4, jl_vi l4)] [] s0 (R9 l1 l2 l3 l4 s0)) (l1 : Int) (l2 : Int) (l3 : Int) (l4 : Int) (hl1 : jl_n3 l1) (hl2 : jl_n3 l2) (hl3 : jl_n3 l3) (hl4 : jl_n3 l4) (s0 : jl_Mm) : j2 G jM_X12_leastFor 35 [(0, jl_vr G 206), (1, jl_vi l1), (2, jl_vi l2), (3, jl_vi l3), (4, jl_vi l4)] [] s0 (jf_X12_leastFor_B35 R9 l1 l2 l3 l4 s0) := by
  refine jr_iinc (j := 4) (lv := [(4, jl_vi (jl_add l4 1)), (0, jl_vr G 206), (1, jl_vi l1), (2, jl_vi l2), (3, jl_vi l3)]) dX12_leastFor_35 rfl (Nat.le_of_ble_eq_true rfl) rfl ?_
  refine jr_goto (t := 9) dX12_leastFor_38 (by decide) ?_
  refine jr_sub [1, 2, 3, 4, 0] rfl ?_
  exact hR9 l1 l2 l3 (jl_add l4 1) hl1 hl2 hl3 (jl_n3_to _) s0
def jf_X12_leastFor_L9 : Nat → Int → Int → Int → Int → jl_Mm → jl_O
  | 0, _, _, _, _, _ => none
  | n + 1, l1, l2, l3, l4, s0 =>
    if (99 : Int) < l4 then (jf_X12_leastFor_B41 l3 s0) else (if l3 = (-1 : Int) then (jl_bd (jf_X12_isEnough l1 l4 l2 s0) fun r7 s8 => if r7 = (0 : Int) then (jf_X12_leastFor_B35 (jf_X12_leastFor_L9 n) l1 l2 l3 l4 s8) else (jf_X12_leastFor_B35 (jf_X12_leastFor_L9 n) l1 l2 l4 l4 s8)) else (jf_X12_leastFor_B41 l3 s0))
set_option maxRecDepth 20000 in
set_option maxHeartbeats 2000000 in
theorem jj_X12_leastFor_L9 (G : jl_GC) : ∀ (n : Nat) (l1 : Int) (l2 : Int) (l3 : Int) (l4 : Int) (hl1 : jl_n3 l1) (hl2 : jl_n3 l2) (hl3 : jl_n3 l3) (hl4 : jl_n3 l4) (s0 : jl_Mm), j2 G jM_X12_leastFor 9 [(0, jl_vr G 206), (1, jl_vi l1), (2, jl_vi l2), (3, jl_vi l3), (4, jl_vi l4)] [] s0 (jf_X12_leastFor_L9 n l1 l2 l3 l4 s0) := by
  intro n
  induction n with
  | zero =>
    intros
    exact jr_none
  | succ n ih =>
    intro l1 l2 l3 l4 hl1 hl2 hl3 hl4 s0
    refine jr_iload dX12_leastFor_9 4 rfl ?_
    refine jr_bipush dX12_leastFor_11 (by decide) ?_
    refine jr_icmp_gt (t := 41) dX12_leastFor_13 (by decide) hl4 (jl_nlit rfl) (fun c3 => ?_) (fun c3 => ?_)
    · refine jr_sub [0, 3] rfl ?_
      exact jj_X12_leastFor_B41 G l3 hl3 s0
    · refine jr_iload_n dX12_leastFor_16 3 rfl ?_
      refine jr_iconst dX12_leastFor_17 ?_
      refine jr_icmp_ne (t := 41) dX12_leastFor_18 (by decide) hl3 (jl_nlit rfl) (fun c6 => ?_) (fun c6 => ?_)
      · refine jr_aload_n dX12_leastFor_21 0 rfl ?_
        refine jr_iload_n dX12_leastFor_22 1 rfl ?_
        refine jr_iload dX12_leastFor_23 4 rfl ?_
        refine jr_iload_n dX12_leastFor_25 2 rfl ?_
        refine j2_callVz (As := [jl_vi l1, jl_vi l4, jl_vi l2]) dX12_leastFor_26 (jt_X12_isEnough G l1 l4 l2 hl1 hl4 hl2 s0) jv_X12_isEnough ⟨rfl, rfl, rfl⟩ jw_1946 jk_206 (by decide) (by decide) rfl ⟨Nat.le_of_ble_eq_true rfl, Nat.le_of_ble_eq_true rfl⟩ rfl (Nat.le_of_ble_eq_true rfl) (fun r7 s8 hr7 => ?_)
        refine jr_if_eq (t := 35) dX12_leastFor_29 (by decide) (jl_nz hr7) (fun c9 => ?_) (fun c9 => ?_)
        · exact jj_X12_leastFor_B35 G (jf_X12_leastFor_L9 n) (ih) l1 l2 l3 l4 hl1 hl2 hl3 hl4 s8
        · refine jr_iload dX12_leastFor_32 4 rfl ?_
          refine jr_istore_n (lv := [(3, jl_vi l4), (0, jl_vr G 206), (1, jl_vi l1), (2, jl_vi l2), (4, jl_vi l4)]) dX12_leastFor_34 rfl (Nat.le_of_ble_eq_true rfl) rfl ?_
          refine jr_sub [1, 2, 3, 0, 4] rfl ?_
          exact jj_X12_leastFor_B35 G (jf_X12_leastFor_L9 n) (ih) l1 l2 l4 l4 hl1 hl2 hl4 hl4 s8
      · refine jr_sub [0, 3] rfl ?_
        exact jj_X12_leastFor_B41 G l3 hl3 s0
def jf_X12_leastFor (v1 : Int) (v2 : Int) (s0 : jl_Mm) : jl_O :=
  jl_bd (jf_X12_putsAside s0) fun r1 s2 => jf_X12_leastFor_L9 jl_fu v1 v2 (-1 : Int) (1 : Int) s2
set_option maxRecDepth 20000 in
set_option maxHeartbeats 2000000 in
theorem jt_X12_leastFor (G : jl_GC) (v1 : Int) (v2 : Int) (h1 : jl_n3 v1) (h2 : jl_n3 v2) (s0 : jl_Mm) : jC2 G jM_X12_leastFor [jl_vr G 206, jl_vi v1, jl_vi v2] s0 (jf_X12_leastFor v1 v2 s0) := by
  refine jl_met (plainFor_of_name rfl) (Nat.le_of_ble_eq_true rfl) ?_
  show j2 G jM_X12_leastFor 0 [(0, jl_vr G 206), (1, jl_vi v1), (2, jl_vi v2)] [] s0 _
  refine jr_iconst dX12_leastFor_0 ?_
  refine jr_istore_n (lv := [(3, jl_vi (-1 : Int)), (0, jl_vr G 206), (1, jl_vi v1), (2, jl_vi v2)]) dX12_leastFor_1 rfl (Nat.le_of_ble_eq_true rfl) rfl ?_
  refine jr_aload_n dX12_leastFor_2 1 rfl ?_
  refine j2_callVv (As := []) dX12_leastFor_3 (jt_X12_putsAside G s0) jv_X12_putsAside ⟨rfl, rfl, rfl⟩ jw_1886 jk_206 (by decide) (by decide) rfl ⟨Nat.le_of_ble_eq_true rfl, Nat.le_of_ble_eq_true rfl⟩ rfl (Nat.le_of_ble_eq_true rfl) (fun r1 s2 hr1 => ?_)
  refine jr_iconst dX12_leastFor_6 ?_
  refine jr_istore (lv := [(4, jl_vi (1 : Int)), (3, jl_vi (-1 : Int)), (0, jl_vr G 206), (1, jl_vi v1), (2, jl_vi v2)]) dX12_leastFor_7 (Nat.le_of_ble_eq_true rfl) rfl ?_
  refine jr_sub [2, 3, 4, 1, 0] rfl ?_
  exact jj_X12_leastFor_L9 G jl_fu v1 v2 (-1 : Int) (1 : Int) h1 h2 (jl_nlit rfl) (jl_nlit rfl) s2
def jf_X12_shorts_B40 (k0 : Int) (s0 : jl_Mm) : jl_O :=
  some (k0, s0)
set_option maxRecDepth 20000 in
set_option maxHeartbeats 2000000 in
theorem jj_X12_shorts_B40 (G : jl_GC) (k0 : Int) (hk0 : jl_n3 k0) (s0 : jl_Mm) : j2 G jM_X12_shorts 40 [] [jl_vi k0] s0 (jf_X12_shorts_B40 k0 s0) := by
  exact jr_ret_i rfl hk0 dX12_shorts_40
def jf_X12_shorts_B39 (s0 : jl_Mm) : jl_O :=
  jf_X12_shorts_B40 (-1 : Int) s0
set_option maxRecDepth 20000 in
set_option maxHeartbeats 2000000 in
theorem jj_X12_shorts_B39 (G : jl_GC) (s0 : jl_Mm) : j2 G jM_X12_shorts 39 [] [] s0 (jf_X12_shorts_B39 s0) := by
  refine jr_iconst dX12_shorts_39 ?_
  exact jj_X12_shorts_B40 G (-1 : Int) (jl_nlit rfl) s0
def jf_X12_shorts (v1 : Int) (v2 : Int) (s0 : jl_Mm) : jl_O :=
  jl_bd (jf_X12_isLie v1 s0) fun r1 s2 => if r1 = (0 : Int) then (jf_X12_shorts_B39 s2) else (jl_bd (jf_X12_isLit v1 s2) fun r4 s5 => if r4 = (0 : Int) then (jl_bd (jf_X12_isAhead v2 (1 : Int) (40 : Int) s5) fun r7 s8 => if r7 = (0 : Int) then (jf_X12_shorts_B39 s8) else (jl_bd (jf_X12_leastFor (jl_shl (1 : Int) v1) v2 s8) fun r10 s11 => jf_X12_shorts_B40 r10 s11)) else (jf_X12_shorts_B39 s5))
set_option maxRecDepth 20000 in
set_option maxHeartbeats 2000000 in
theorem jt_X12_shorts (G : jl_GC) (v1 : Int) (v2 : Int) (h1 : jl_n3 v1) (h2 : jl_n3 v2) (s0 : jl_Mm) : jC2 G jM_X12_shorts [jl_vr G 206, jl_vi v1, jl_vi v2] s0 (jf_X12_shorts v1 v2 s0) := by
  refine jl_met (plainFor_of_name rfl) (Nat.le_of_ble_eq_true rfl) ?_
  show j2 G jM_X12_shorts 0 [(0, jl_vr G 206), (1, jl_vi v1), (2, jl_vi v2)] [] s0 _
  refine jr_aload_n dX12_shorts_0 0 rfl ?_
  refine jr_iload_n dX12_shorts_1 1 rfl ?_
  refine jr_i2l dX12_shorts_2 h1 ?_
  refine j2_callVz (As := [jl_vl v1]) dX12_shorts_3 (jt_X12_isLie G v1 (jl_n36 h1) s0) jv_X12_isLie ⟨rfl, rfl, rfl⟩ jw_1850 jk_206 (by decide) (by decide) rfl ⟨Nat.le_of_ble_eq_true rfl, Nat.le_of_ble_eq_true rfl⟩ rfl (Nat.le_of_ble_eq_true rfl) (fun r1 s2 hr1 => ?_)
  refine jr_if_eq (t := 39) dX12_shorts_6 (by decide) (jl_nz hr1) (fun c3 => ?_) (fun c3 => ?_)
  · refine jr_sub [] rfl ?_
    exact jj_X12_shorts_B39 G s2
  · refine jr_aload_n dX12_shorts_9 0 rfl ?_
    refine jr_iload_n dX12_shorts_10 1 rfl ?_
    refine j2_callVz (As := [jl_vi v1]) dX12_shorts_11 (jt_X12_isLit G v1 h1 s2) jv_X12_isLit ⟨rfl, rfl, rfl⟩ jw_1763 jk_206 (by decide) (by decide) rfl ⟨Nat.le_of_ble_eq_true rfl, Nat.le_of_ble_eq_true rfl⟩ rfl (Nat.le_of_ble_eq_true rfl) (fun r4 s5 hr4 => ?_)
    refine jr_if_ne (t := 39) dX12_shorts_14 (by decide) (jl_nz hr4) (fun c6 => ?_) (fun c6 => ?_)
    · refine jr_aload_n dX12_shorts_17 0 rfl ?_
      refine jr_iload_n dX12_shorts_18 2 rfl ?_
      refine jr_iconst dX12_shorts_19 ?_
      refine jr_bipush dX12_shorts_20 (by decide) ?_
      refine j2_callVz (As := [jl_vi v2, jl_vi (1 : Int), jl_vi (40 : Int)]) dX12_shorts_22 (jt_X12_isAhead G v2 (1 : Int) (40 : Int) h2 (jl_nlit rfl) (jl_nlit rfl) s5) jv_X12_isAhead ⟨rfl, rfl, rfl⟩ jw_1870 jk_206 (by decide) (by decide) rfl ⟨Nat.le_of_ble_eq_true rfl, Nat.le_of_ble_eq_true rfl⟩ rfl (Nat.le_of_ble_eq_true rfl) (fun r7 s8 hr7 => ?_)
      refine jr_if_eq (t := 39) dX12_shorts_25 (by decide) (jl_nz hr7) (fun c9 => ?_) (fun c9 => ?_)
      · refine jr_sub [] rfl ?_
        exact jj_X12_shorts_B39 G s8
      · refine jr_aload_n dX12_shorts_28 0 rfl ?_
        refine jr_iconst dX12_shorts_29 ?_
        refine jr_iload_n dX12_shorts_30 1 rfl ?_
        refine jr_ishl dX12_shorts_31 ?_
        refine jr_iload_n dX12_shorts_32 2 rfl ?_
        refine j2_callVi (As := [jl_vi (jl_shl (1 : Int) v1), jl_vi v2]) dX12_shorts_33 (jt_X12_leastFor G (jl_shl (1 : Int) v1) v2 (jl_n3_to _) h2 s8) jv_X12_leastFor ⟨rfl, rfl, rfl⟩ jw_1942 jk_206 (by decide) (by decide) rfl ⟨Nat.le_of_ble_eq_true rfl, Nat.le_of_ble_eq_true rfl⟩ rfl (Nat.le_of_ble_eq_true rfl) (fun r10 s11 hr10 => ?_)
        refine jr_goto (t := 40) dX12_shorts_36 (by decide) ?_
        refine jr_sub [] rfl ?_
        exact jj_X12_shorts_B40 G r10 hr10 s11
    · refine jr_sub [] rfl ?_
      exact jj_X12_shorts_B39 G s5
def jf_X12_together_B35 (k0 : Int) (s0 : jl_Mm) : jl_O :=
  some (k0, s0)
set_option maxRecDepth 20000 in
set_option maxHeartbeats 2000000 in
theorem jj_X12_together_B35 (G : jl_GC) (k0 : Int) (hk0 : jl_n3 k0) (s0 : jl_Mm) : j2 G jM_X12_together 35 [] [jl_vi k0] s0 (jf_X12_together_B35 k0 s0) := by
  exact jr_ret_i rfl hk0 dX12_together_35
def jf_X12_together_B34 (s0 : jl_Mm) : jl_O :=
  jf_X12_together_B35 (-1 : Int) s0
set_option maxRecDepth 20000 in
set_option maxHeartbeats 2000000 in
theorem jj_X12_together_B34 (G : jl_GC) (s0 : jl_Mm) : j2 G jM_X12_together 34 [] [] s0 (jf_X12_together_B34 s0) := by
  refine jr_iconst dX12_together_34 ?_
  exact jj_X12_together_B35 G (-1 : Int) (jl_nlit rfl) s0
def jf_X12_together (v1 : Int) (v2 : Int) (s0 : jl_Mm) : jl_O :=
  if v1 ≤ (0 : Int) then (jf_X12_together_B34 s0) else (jl_bd (jf_X12_lieMany s0) fun r2 s3 => if jl_shl (1 : Int) r2 ≤ v1 then (jf_X12_together_B34 s3) else (jl_bd (jf_X12_isAhead v2 (1 : Int) (40 : Int) s3) fun r5 s6 => if r5 = (0 : Int) then (jf_X12_together_B34 s6) else (jl_bd (jf_X12_leastFor v1 v2 s6) fun r8 s9 => jf_X12_together_B35 r8 s9)))
set_option maxRecDepth 20000 in
set_option maxHeartbeats 2000000 in
theorem jt_X12_together (G : jl_GC) (v1 : Int) (v2 : Int) (h1 : jl_n3 v1) (h2 : jl_n3 v2) (s0 : jl_Mm) : jC2 G jM_X12_together [jl_vr G 206, jl_vi v1, jl_vi v2] s0 (jf_X12_together v1 v2 s0) := by
  refine jl_met (plainFor_of_name rfl) (Nat.le_of_ble_eq_true rfl) ?_
  show j2 G jM_X12_together 0 [(0, jl_vr G 206), (1, jl_vi v1), (2, jl_vi v2)] [] s0 _
  refine jr_iload_n dX12_together_0 1 rfl ?_
  refine jr_if_le (t := 34) dX12_together_1 (by decide) h1 (fun c1 => ?_) (fun c1 => ?_)
  · refine jr_sub [] rfl ?_
    exact jj_X12_together_B34 G s0
  · refine jr_iload_n dX12_together_4 1 rfl ?_
    refine jr_iconst dX12_together_5 ?_
    refine jr_aload_n dX12_together_6 0 rfl ?_
    refine j2_callVi (As := []) dX12_together_7 (jt_X12_lieMany G s0) jv_X12_lieMany ⟨rfl, rfl, rfl⟩ jw_1751 jk_206 (by decide) (by decide) rfl ⟨Nat.le_of_ble_eq_true rfl, Nat.le_of_ble_eq_true rfl⟩ rfl (Nat.le_of_ble_eq_true rfl) (fun r2 s3 hr2 => ?_)
    refine jr_ishl dX12_together_10 ?_
    refine jr_icmp_ge (t := 34) dX12_together_11 (by decide) h1 (jl_n3_to _) (fun c4 => ?_) (fun c4 => ?_)
    · refine jr_sub [] rfl ?_
      exact jj_X12_together_B34 G s3
    · refine jr_aload_n dX12_together_14 0 rfl ?_
      refine jr_iload_n dX12_together_15 2 rfl ?_
      refine jr_iconst dX12_together_16 ?_
      refine jr_bipush dX12_together_17 (by decide) ?_
      refine j2_callVz (As := [jl_vi v2, jl_vi (1 : Int), jl_vi (40 : Int)]) dX12_together_19 (jt_X12_isAhead G v2 (1 : Int) (40 : Int) h2 (jl_nlit rfl) (jl_nlit rfl) s3) jv_X12_isAhead ⟨rfl, rfl, rfl⟩ jw_1870 jk_206 (by decide) (by decide) rfl ⟨Nat.le_of_ble_eq_true rfl, Nat.le_of_ble_eq_true rfl⟩ rfl (Nat.le_of_ble_eq_true rfl) (fun r5 s6 hr5 => ?_)
      refine jr_if_eq (t := 34) dX12_together_22 (by decide) (jl_nz hr5) (fun c7 => ?_) (fun c7 => ?_)
      · refine jr_sub [] rfl ?_
        exact jj_X12_together_B34 G s6
      · refine jr_aload_n dX12_together_25 0 rfl ?_
        refine jr_iload_n dX12_together_26 1 rfl ?_
        refine jr_iload_n dX12_together_27 2 rfl ?_
        refine j2_callVi (As := [jl_vi v1, jl_vi v2]) dX12_together_28 (jt_X12_leastFor G v1 v2 h1 h2 s6) jv_X12_leastFor ⟨rfl, rfl, rfl⟩ jw_1942 jk_206 (by decide) (by decide) rfl ⟨Nat.le_of_ble_eq_true rfl, Nat.le_of_ble_eq_true rfl⟩ rfl (Nat.le_of_ble_eq_true rfl) (fun r8 s9 hr8 => ?_)
        refine jr_goto (t := 35) dX12_together_31 (by decide) ?_
        refine jr_sub [] rfl ?_
        exact jj_X12_together_B35 G r8 hr8 s9
def jf_X12_snuffs (v1 : Int) (s0 : jl_Mm) : jl_O :=
  if 0 ≤ jl_add (8 : Int) v1 ∧ jl_add (8 : Int) v1 < ((105 : Nat) : Int) then jl_bd (jf_X12_clamp (jl_add (jl_g s0 249 (((1 : Int) : Int).toNat)) (jl_g s0 249 (jl_add (8 : Int) v1).toNat)) (999 : Int) s0) fun r2 s3 => jl_lm (jl_up s3 249 (((1 : Int) : Int).toNat) r2) fun s4 => jl_bd (jf_X12_darkens v1 s4) fun r5 s6 => some (0, s6) else none
set_option maxRecDepth 20000 in
set_option maxHeartbeats 2000000 in
theorem jt_X12_snuffs (G : jl_GC) (v1 : Int) (h1 : jl_n3 v1) (s0 : jl_Mm) : jC2 G jM_X12_snuffs [jl_vr G 206, jl_vi v1] s0 (jf_X12_snuffs v1 s0) := by
  refine jl_met (plainFor_of_name rfl) (Nat.le_of_ble_eq_true rfl) ?_
  show j2 G jM_X12_snuffs 0 [(0, jl_vr G 206), (1, jl_vi v1)] [] s0 _
  refine jr_aload_n dX12_snuffs_0 0 rfl ?_
  refine jr_getk (i := 56) jc_12 jk_206 (by decide) (Nat.le_of_ble_eq_true rfl) jlk_206_56 jw_1261 dX12_snuffs_1 ?_
  refine jr_iconst dX12_snuffs_4 ?_
  refine jr_aload_n dX12_snuffs_5 0 rfl ?_
  refine jr_getk (i := 56) jc_12 jk_206 (by decide) (Nat.le_of_ble_eq_true rfl) jlk_206_56 jw_1261 dX12_snuffs_6 ?_
  refine jr_iconst dX12_snuffs_9 ?_
  refine jr_iaload jk_249 (by decide) (jl_nlit rfl) ⟨by decide, by decide⟩ dX12_snuffs_10 ?_
  refine jr_aload_n dX12_snuffs_11 0 rfl ?_
  refine jr_getk (i := 56) jc_12 jk_206 (by decide) (Nat.le_of_ble_eq_true rfl) jlk_206_56 jw_1261 dX12_snuffs_12 ?_
  refine jr_bipush dX12_snuffs_15 (by decide) ?_
  refine jr_iload_n dX12_snuffs_17 1 rfl ?_
  refine jr_iadd dX12_snuffs_18 ?_
  refine jr_grd (fun g1 => ?_)
  refine jr_iaload jk_249 (by decide) (jl_n3_to _) g1 dX12_snuffs_19 ?_
  refine jr_iadd dX12_snuffs_20 ?_
  refine jr_i2l dX12_snuffs_21 (jl_n3_to _) ?_
  refine jr_sipush dX12_snuffs_22 (by decide) ?_
  refine j2_callSi (As := [jl_vl (jl_add (jl_g s0 249 (((1 : Int) : Int).toNat)) (jl_g s0 249 (jl_add (8 : Int) v1).toNat)), jl_vi (999 : Int)]) dX12_snuffs_25 (jt_X12_clamp G (jl_add (jl_g s0 249 (((1 : Int) : Int).toNat)) (jl_g s0 249 (jl_add (8 : Int) v1).toNat)) (999 : Int) (jl_n36 (jl_n3_to _)) (jl_nlit rfl) s0) jv_X12_clamp ⟨rfl, rfl, rfl⟩ jw_1820 ⟨Nat.le_of_ble_eq_true rfl, Nat.le_of_ble_eq_true rfl⟩ rfl (Nat.le_of_ble_eq_true rfl) (fun r2 s3 hr2 => ?_)
  refine jr_iastore jk_249 (by decide) (jl_nlit rfl) ⟨by decide, by decide⟩ dX12_snuffs_28 ?_
  refine jr_lm (fun s4 => ?_)
  refine jr_aload_n dX12_snuffs_29 0 rfl ?_
  refine jr_iload_n dX12_snuffs_30 1 rfl ?_
  refine j2_callVv (As := [jl_vi v1]) dX12_snuffs_31 (jt_X12_darkens G v1 h1 s4) jv_X12_darkens ⟨rfl, rfl, rfl⟩ jw_1910 jk_206 (by decide) (by decide) rfl ⟨Nat.le_of_ble_eq_true rfl, Nat.le_of_ble_eq_true rfl⟩ rfl (Nat.le_of_ble_eq_true rfl) (fun r5 s6 hr5 => ?_)
  exact jr_ret_v rfl dX12_snuffs_34
def jf_X12_keystone_B21 (s0 : jl_Mm) : jl_O :=
  some ((-1 : Int), s0)
set_option maxRecDepth 20000 in
set_option maxHeartbeats 2000000 in
theorem jj_X12_keystone_B21 (G : jl_GC) (s0 : jl_Mm) : j2 G jM_X12_keystone 21 [] [] s0 (jf_X12_keystone_B21 s0) := by
  refine jr_iconst dX12_keystone_21 ?_
  exact jr_ret_i rfl (jl_nlit rfl) dX12_keystone_22
def jf_X12_keystone_B122 (k0 : Int) (s0 : jl_Mm) : jl_O :=
  some (k0, s0)
set_option maxRecDepth 20000 in
set_option maxHeartbeats 2000000 in
theorem jj_X12_keystone_B122 (G : jl_GC) (k0 : Int) (hk0 : jl_n3 k0) (s0 : jl_Mm) : j2 G jM_X12_keystone 122 [] [jl_vi k0] s0 (jf_X12_keystone_B122 k0 s0) := by
  exact jr_ret_i rfl hk0 dX12_keystone_122
def jf_X12_keystone_B102 (R35 : Int → Int → Int → Int → Int → jl_Mm → jl_O) (l1 : Int) (l2 : Int) (l3 : Int) (l4 : Int) (l5 : Int) (s0 : jl_Mm) : jl_O :=
  R35 l1 l2 l3 l4 (jl_add l5 1) s0
set_option maxRecDepth 20000 in
set_option maxHeartbeats 2000000 in
theorem jj_X12_keystone_B102 (G : jl_GC) (R35 : Int → Int → Int → Int → Int → jl_Mm → jl_O) (hR35 : ∀ (l1 : Int) (l2 : Int) (l3 : Int) (l4 : Int) (l5 : Int) (_hl1 : jl_n3 l1) (_hl2 : jl_n3 l2) (_hl3 : jl_n3 l3) (_hl4 : jl_n3 l4) (_hl5 : jl_n3 l5) (s0 : jl_Mm), j2 G jM_X12_keystone 35 [(0, jl_vr G 206), (1, jl_vi l1), (2, jl_vi l2), (3, jl_vi l3), (4, jl_vi l4), (5, jl_vi l5)] [] s0 (R35 l1 l2 l3 l4 l5 s0)) (l1 : Int) (l2 : Int) (l3 : Int) (l4 : Int) (l5 : Int) (hl1 : jl_n3 l1) (hl2 : jl_n3 l2) (hl3 : jl_n3 l3) (hl4 : jl_n3 l4) (hl5 : jl_n3 l5) (s0 : jl_Mm) : j2 G jM_X12_keystone 102 [(0, jl_vr G 206), (1, jl_vi l1), (2, jl_vi l2), (3, jl_vi l3), (4, jl_vi l4), (5, jl_vi l5)] [] s0 (jf_X12_keystone_B102 R35 l1 l2 l3 l4 l5 s0) := by
  refine jr_iinc (j := 5) (lv := [(5, jl_vi (jl_add l5 1)), (0, jl_vr G 206), (1, jl_vi l1), (2, jl_vi l2), (3, jl_vi l3), (4, jl_vi l4)]) dX12_keystone_102 rfl (Nat.le_of_ble_eq_true rfl) rfl ?_
  refine jr_goto (t := 35) dX12_keystone_105 (by decide) ?_
  refine jr_sub [1, 2, 3, 4, 5, 0] rfl ?_
  exact hR35 l1 l2 l3 l4 (jl_add l5 1) hl1 hl2 hl3 hl4 (jl_n3_to _) s0
def jf_X12_keystone_B95 (R35 : Int → Int → Int → Int → Int → jl_Mm → jl_O) (l1 : Int) (l2 : Int) (l5 : Int) (l6 : Int) (s0 : jl_Mm) : jl_O :=
  jf_X12_keystone_B102 (R35) l1 l2 l5 l6 l5 s0
set_option maxRecDepth 20000 in
set_option maxHeartbeats 2000000 in
theorem jj_X12_keystone_B95 (G : jl_GC) (R35 : Int → Int → Int → Int → Int → jl_Mm → jl_O) (hR35 : ∀ (l1 : Int) (l2 : Int) (l3 : Int) (l4 : Int) (l5 : Int) (_hl1 : jl_n3 l1) (_hl2 : jl_n3 l2) (_hl3 : jl_n3 l3) (_hl4 : jl_n3 l4) (_hl5 : jl_n3 l5) (s0 : jl_Mm), j2 G jM_X12_keystone 35 [(0, jl_vr G 206), (1, jl_vi l1), (2, jl_vi l2), (3, jl_vi l3), (4, jl_vi l4), (5, jl_vi l5)] [] s0 (R35 l1 l2 l3 l4 l5 s0)) (l1 : Int) (l2 : Int) (l5 : Int) (l6 : Int) (hl1 : jl_n3 l1) (hl2 : jl_n3 l2) (hl5 : jl_n3 l5) (hl6 : jl_n3 l6) (s0 : jl_Mm) : j2 G jM_X12_keystone 95 [(0, jl_vr G 206), (1, jl_vi l1), (2, jl_vi l2), (5, jl_vi l5), (6, jl_vi l6)] [] s0 (jf_X12_keystone_B95 R35 l1 l2 l5 l6 s0) := by
  refine jr_iload dX12_keystone_95 3 rfl ?_
  refine jr_istore_n (lv := [(3, jl_vi l5), (0, jl_vr G 206), (1, jl_vi l1), (2, jl_vi l2), (5, jl_vi l5), (6, jl_vi l6)]) dX12_keystone_97 rfl (Nat.le_of_ble_eq_true rfl) rfl ?_
  refine jr_iload dX12_keystone_98 5 rfl ?_
  refine jr_istore (lv := [(4, jl_vi l6), (3, jl_vi l5), (0, jl_vr G 206), (1, jl_vi l1), (2, jl_vi l2), (5, jl_vi l5), (6, jl_vi l6)]) dX12_keystone_100 (Nat.le_of_ble_eq_true rfl) rfl ?_
  refine jr_sub [2, 3, 4, 1, 0, 5] rfl ?_
  exact jj_X12_keystone_B102 G (R35) (hR35) l1 l2 l5 l6 l5 hl1 hl2 hl5 hl6 hl5 s0
def jf_X12_keystone_L35 : Nat → Int → Int → Int → Int → Int → jl_Mm → jl_O
  | 0, _, _, _, _, _, _ => none
  | n + 1, l1, l2, l3, l4, l5, s0 =>
    jl_bd (jf_X12_lieMany s0) fun r9 s10 => if r9 ≤ l5 then (jl_bd (jf_X12_takesBack s10) fun r12 s13 => if l2 = (0 : Int) then (jf_X12_keystone_B122 l3 s13) else (jf_X12_keystone_B122 l4 s13)) else (jl_bd (jf_X12_isLit l5 s10) fun r15 s16 => if r15 = (0 : Int) then (jf_X12_keystone_B102 (jf_X12_keystone_L35 n) l1 l2 l3 l4 l5 s16) else (jl_bd (jf_X12_snuffs l5 s16) fun r18 s19 => jl_bd (jf_X12_hoursGo l1 s19) fun r20 s21 => jl_bd (jf_X12_laysHeld s21) fun r22 s23 => jl_bd (jf_X12_bits r22 s23) fun r24 s25 => jl_bd (jf_X12_triesAnew s25) fun r26 s27 => if l3 = (-1 : Int) then (jf_X12_keystone_B95 (jf_X12_keystone_L35 n) l1 l2 l5 r24 s27) else (if r24 < l4 then (jf_X12_keystone_B95 (jf_X12_keystone_L35 n) l1 l2 l5 r24 s27) else (jf_X12_keystone_B102 (jf_X12_keystone_L35 n) l1 l2 l3 l4 l5 s27))))
set_option maxRecDepth 20000 in
set_option maxHeartbeats 2000000 in
theorem jj_X12_keystone_L35 (G : jl_GC) : ∀ (n : Nat) (l1 : Int) (l2 : Int) (l3 : Int) (l4 : Int) (l5 : Int) (hl1 : jl_n3 l1) (hl2 : jl_n3 l2) (hl3 : jl_n3 l3) (hl4 : jl_n3 l4) (hl5 : jl_n3 l5) (s0 : jl_Mm), j2 G jM_X12_keystone 35 [(0, jl_vr G 206), (1, jl_vi l1), (2, jl_vi l2), (3, jl_vi l3), (4, jl_vi l4), (5, jl_vi l5)] [] s0 (jf_X12_keystone_L35 n l1 l2 l3 l4 l5 s0) := by
  intro n
  induction n with
  | zero =>
    intros
    exact jr_none
  | succ n ih =>
    intro l1 l2 l3 l4 l5 hl1 hl2 hl3 hl4 hl5 s0
    refine jr_iload dX12_keystone_35 5 rfl ?_
    refine jr_aload_n dX12_keystone_37 0 rfl ?_
    refine j2_callVi (As := []) dX12_keystone_38 (jt_X12_lieMany G s0) jv_X12_lieMany ⟨rfl, rfl, rfl⟩ jw_1751 jk_206 (by decide) (by decide) rfl ⟨Nat.le_of_ble_eq_true rfl, Nat.le_of_ble_eq_true rfl⟩ rfl (Nat.le_of_ble_eq_true rfl) (fun r9 s10 hr9 => ?_)
    refine jr_icmp_ge (t := 108) dX12_keystone_41 (by decide) hl5 hr9 (fun c11 => ?_) (fun c11 => ?_)
    · refine jr_aload_n dX12_keystone_108 0 rfl ?_
      refine j2_callVv (As := []) dX12_keystone_109 (jt_X12_takesBack G s10) jv_X12_takesBack ⟨rfl, rfl, rfl⟩ jw_1918 jk_206 (by decide) (by decide) rfl ⟨Nat.le_of_ble_eq_true rfl, Nat.le_of_ble_eq_true rfl⟩ rfl (Nat.le_of_ble_eq_true rfl) (fun r12 s13 hr12 => ?_)
      refine jr_iload_n dX12_keystone_112 2 rfl ?_
      refine jr_if_ne (t := 120) dX12_keystone_113 (by decide) hl2 (fun c14 => ?_) (fun c14 => ?_)
      · refine jr_iload_n dX12_keystone_116 3 rfl ?_
        refine jr_goto (t := 122) dX12_keystone_117 (by decide) ?_
        refine jr_sub [] rfl ?_
        exact jj_X12_keystone_B122 G l3 hl3 s13
      · refine jr_iload dX12_keystone_120 4 rfl ?_
        refine jr_sub [] rfl ?_
        exact jj_X12_keystone_B122 G l4 hl4 s13
    · refine jr_aload_n dX12_keystone_44 0 rfl ?_
      refine jr_iload dX12_keystone_45 5 rfl ?_
      refine j2_callVz (As := [jl_vi l5]) dX12_keystone_47 (jt_X12_isLit G l5 hl5 s10) jv_X12_isLit ⟨rfl, rfl, rfl⟩ jw_1763 jk_206 (by decide) (by decide) rfl ⟨Nat.le_of_ble_eq_true rfl, Nat.le_of_ble_eq_true rfl⟩ rfl (Nat.le_of_ble_eq_true rfl) (fun r15 s16 hr15 => ?_)
      refine jr_if_ne (t := 56) dX12_keystone_50 (by decide) (jl_nz hr15) (fun c17 => ?_) (fun c17 => ?_)
      · refine jr_goto (t := 102) dX12_keystone_53 (by decide) ?_
        exact jj_X12_keystone_B102 G (jf_X12_keystone_L35 n) (ih) l1 l2 l3 l4 l5 hl1 hl2 hl3 hl4 hl5 s16
      · refine jr_aload_n dX12_keystone_56 0 rfl ?_
        refine jr_iload dX12_keystone_57 5 rfl ?_
        refine j2_callVv (As := [jl_vi l5]) dX12_keystone_59 (jt_X12_snuffs G l5 hl5 s16) jv_X12_snuffs ⟨rfl, rfl, rfl⟩ jw_1958 jk_206 (by decide) (by decide) rfl ⟨Nat.le_of_ble_eq_true rfl, Nat.le_of_ble_eq_true rfl⟩ rfl (Nat.le_of_ble_eq_true rfl) (fun r18 s19 hr18 => ?_)
        refine jr_aload_n dX12_keystone_62 0 rfl ?_
        refine jr_iload_n dX12_keystone_63 1 rfl ?_
        refine j2_callVv (As := [jl_vi l1]) dX12_keystone_64 (jt_X12_hoursGo G l1 hl1 s19) jv_X12_hoursGo ⟨rfl, rfl, rfl⟩ jw_1890 jk_206 (by decide) (by decide) rfl ⟨Nat.le_of_ble_eq_true rfl, Nat.le_of_ble_eq_true rfl⟩ rfl (Nat.le_of_ble_eq_true rfl) (fun r20 s21 hr20 => ?_)
        refine jr_aload_n dX12_keystone_67 0 rfl ?_
        refine j2_callVi (As := []) dX12_keystone_68 (jt_X12_laysHeld G s21) jv_X12_laysHeld ⟨rfl, rfl, rfl⟩ jw_1767 jk_206 (by decide) (by decide) rfl ⟨Nat.le_of_ble_eq_true rfl, Nat.le_of_ble_eq_true rfl⟩ rfl (Nat.le_of_ble_eq_true rfl) (fun r22 s23 hr22 => ?_)
        refine j2_callSi (As := [jl_vi r22]) dX12_keystone_71 (jt_X12_bits G r22 hr22 s23) jv_X12_bits ⟨rfl, rfl, rfl⟩ jw_1827 ⟨Nat.le_of_ble_eq_true rfl, Nat.le_of_ble_eq_true rfl⟩ rfl (Nat.le_of_ble_eq_true rfl) (fun r24 s25 hr24 => ?_)
        refine jr_istore (lv := [(6, jl_vi r24), (0, jl_vr G 206), (1, jl_vi l1), (2, jl_vi l2), (3, jl_vi l3), (4, jl_vi l4), (5, jl_vi l5)]) dX12_keystone_74 (Nat.le_of_ble_eq_true rfl) rfl ?_
        refine jr_aload_n dX12_keystone_76 1 rfl ?_
        refine j2_callVv (As := []) dX12_keystone_77 (jt_X12_triesAnew G s25) jv_X12_triesAnew ⟨rfl, rfl, rfl⟩ jw_1922 jk_206 (by decide) (by decide) rfl ⟨Nat.le_of_ble_eq_true rfl, Nat.le_of_ble_eq_true rfl⟩ rfl (Nat.le_of_ble_eq_true rfl) (fun r26 s27 hr26 => ?_)
        refine jr_iload_n dX12_keystone_80 4 rfl ?_
        refine jr_iconst dX12_keystone_81 ?_
        refine jr_icmp_eq (t := 95) dX12_keystone_82 (by decide) hl3 (jl_nlit rfl) (fun c28 => ?_) (fun c28 => ?_)
        · refine jr_sub [1, 2, 3, 6, 0] rfl ?_
          exact jj_X12_keystone_B95 G (jf_X12_keystone_L35 n) (ih) l1 l2 l5 r24 hl1 hl2 hl5 hr24 s27
        · refine jr_iload dX12_keystone_85 0 rfl ?_
          refine jr_iload dX12_keystone_87 5 rfl ?_
          refine jr_icmp_lt (t := 95) dX12_keystone_89 (by decide) hr24 hl4 (fun c29 => ?_) (fun c29 => ?_)
          · refine jr_sub [1, 2, 3, 6, 0] rfl ?_
            exact jj_X12_keystone_B95 G (jf_X12_keystone_L35 n) (ih) l1 l2 l5 r24 hl1 hl2 hl5 hr24 s27
          · refine jr_goto (t := 102) dX12_keystone_92 (by decide) ?_
            refine jr_sub [1, 2, 3, 4, 5, 6] rfl ?_
            exact jj_X12_keystone_B102 G (jf_X12_keystone_L35 n) (ih) l1 l2 l3 l4 l5 hl1 hl2 hl3 hl4 hl5 s27
def jf_X12_keystone (v1 : Int) (v2 : Int) (s0 : jl_Mm) : jl_O :=
  jl_bd (jf_X12_isAhead v1 (1 : Int) (40 : Int) s0) fun r1 s2 => if r1 = (0 : Int) then (jf_X12_keystone_B21 s2) else (jl_bd (jf_X12_isIn v2 (0 : Int) (1 : Int) s2) fun r4 s5 => if r4 = (0 : Int) then (jf_X12_keystone_B21 s5) else (jl_bd (jf_X12_putsAside s5) fun r7 s8 => jf_X12_keystone_L35 jl_fu v1 v2 (-1 : Int) (-1 : Int) (0 : Int) s8))
set_option maxRecDepth 20000 in
set_option maxHeartbeats 2000000 in
theorem jt_X12_keystone (G : jl_GC) (v1 : Int) (v2 : Int) (h1 : jl_n3 v1) (h2 : jl_n3 v2) (s0 : jl_Mm) : jC2 G jM_X12_keystone [jl_vr G 206, jl_vi v1, jl_vi v2] s0 (jf_X12_keystone v1 v2 s0) := by
  refine jl_met (plainFor_of_name rfl) (Nat.le_of_ble_eq_true rfl) ?_
  show j2 G jM_X12_keystone 0 [(0, jl_vr G 206), (1, jl_vi v1), (2, jl_vi v2)] [] s0 _
  refine jr_aload_n dX12_keystone_0 0 rfl ?_
  refine jr_iload_n dX12_keystone_1 1 rfl ?_
  refine jr_iconst dX12_keystone_2 ?_
  refine jr_bipush dX12_keystone_3 (by decide) ?_
  refine j2_callVz (As := [jl_vi v1, jl_vi (1 : Int), jl_vi (40 : Int)]) dX12_keystone_5 (jt_X12_isAhead G v1 (1 : Int) (40 : Int) h1 (jl_nlit rfl) (jl_nlit rfl) s0) jv_X12_isAhead ⟨rfl, rfl, rfl⟩ jw_1870 jk_206 (by decide) (by decide) rfl ⟨Nat.le_of_ble_eq_true rfl, Nat.le_of_ble_eq_true rfl⟩ rfl (Nat.le_of_ble_eq_true rfl) (fun r1 s2 hr1 => ?_)
  refine jr_if_eq (t := 21) dX12_keystone_8 (by decide) (jl_nz hr1) (fun c3 => ?_) (fun c3 => ?_)
  · refine jr_sub [] rfl ?_
    exact jj_X12_keystone_B21 G s2
  · refine jr_iload_n dX12_keystone_11 2 rfl ?_
    refine jr_i2l dX12_keystone_12 h2 ?_
    refine jr_lconst (v := 0) dX12_keystone_13 (by decide) ?_
    refine jr_lconst (v := 1) dX12_keystone_14 (by decide) ?_
    refine j2_callSz (As := [jl_vl v2, jl_vl (0 : Int), jl_vl (1 : Int)]) dX12_keystone_15 (jt_X12_isIn G v2 (0 : Int) (1 : Int) (jl_n36 h2) (jl_n6lit rfl) (jl_n6lit rfl) s2) jv_X12_isIn ⟨rfl, rfl, rfl⟩ jw_1588 ⟨Nat.le_of_ble_eq_true rfl, Nat.le_of_ble_eq_true rfl⟩ rfl (Nat.le_of_ble_eq_true rfl) (fun r4 s5 hr4 => ?_)
    refine jr_if_ne (t := 23) dX12_keystone_18 (by decide) (jl_nz hr4) (fun c6 => ?_) (fun c6 => ?_)
    · refine jr_sub [] rfl ?_
      exact jj_X12_keystone_B21 G s5
    · refine jr_iconst dX12_keystone_23 ?_
      refine jr_istore_n (lv := [(3, jl_vi (-1 : Int)), (0, jl_vr G 206), (1, jl_vi v1), (2, jl_vi v2)]) dX12_keystone_24 rfl (Nat.le_of_ble_eq_true rfl) rfl ?_
      refine jr_iconst dX12_keystone_25 ?_
      refine jr_istore (lv := [(4, jl_vi (-1 : Int)), (3, jl_vi (-1 : Int)), (0, jl_vr G 206), (1, jl_vi v1), (2, jl_vi v2)]) dX12_keystone_26 (Nat.le_of_ble_eq_true rfl) rfl ?_
      refine jr_aload_n dX12_keystone_28 2 rfl ?_
      refine j2_callVv (As := []) dX12_keystone_29 (jt_X12_putsAside G s5) jv_X12_putsAside ⟨rfl, rfl, rfl⟩ jw_1886 jk_206 (by decide) (by decide) rfl ⟨Nat.le_of_ble_eq_true rfl, Nat.le_of_ble_eq_true rfl⟩ rfl (Nat.le_of_ble_eq_true rfl) (fun r7 s8 hr7 => ?_)
      refine jr_iconst dX12_keystone_32 ?_
      refine jr_istore (lv := [(5, jl_vi (0 : Int)), (4, jl_vi (-1 : Int)), (3, jl_vi (-1 : Int)), (0, jl_vr G 206), (1, jl_vi v1), (2, jl_vi v2)]) dX12_keystone_33 (Nat.le_of_ble_eq_true rfl) rfl ?_
      refine jr_sub [3, 4, 5, 2, 1, 0] rfl ?_
      exact jj_X12_keystone_L35 G jl_fu v1 v2 (-1 : Int) (-1 : Int) (0 : Int) h1 h2 (jl_nlit rfl) (jl_nlit rfl) (jl_nlit rfl) s8
