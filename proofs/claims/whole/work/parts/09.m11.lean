def jf_X12_qKind_B90 (l1 : Int) (s0 : jl_Mm) : jl_O :=
  some (l1, s0)
set_option maxRecDepth 20000 in
set_option maxHeartbeats 2000000 in
theorem jj_X12_qKind_B90 (G : jl_GC) (l1 : Int) (hl1 : jl_n3 l1) (s0 : jl_Mm) : j2 G jM_X12_qKind 90 [(1, jl_vi l1)] [] s0 (jf_X12_qKind_B90 l1 s0) := by
  refine jr_iload_n dX12_qKind_90 0 rfl ?_
  exact jr_ret_i rfl hl1 dX12_qKind_91
def jf_X12_qKind_B76 (k0 : Int) (s0 : jl_Mm) : jl_O :=
  if k0 = (5 : Int) then (jl_bd (jf_X12_asks 263 s0) fun r17 s18 => jf_X12_qKind_B90 k0 s18) else (jf_X12_qKind_B90 k0 s0)
set_option maxRecDepth 20000 in
set_option maxHeartbeats 2000000 in
theorem jj_X12_qKind_B76 (G : jl_GC) (k0 : Int) (hk0 : jl_n3 k0) (s0 : jl_Mm) : j2 G jM_X12_qKind 76 [(0, jl_vr G 206)] [jl_vi k0] s0 (jf_X12_qKind_B76 k0 s0) := by
  refine jr_istore_n (lv := [(1, jl_vi k0), (0, jl_vr G 206)]) dX12_qKind_76 rfl (Nat.le_of_ble_eq_true rfl) rfl ?_
  refine jr_iload_n dX12_qKind_77 0 rfl ?_
  refine jr_iconst dX12_qKind_78 ?_
  refine jr_icmp_ne (t := 90) dX12_qKind_79 (by decide) hk0 (jl_nlit rfl) (fun c16 => ?_) (fun c16 => ?_)
  · refine jr_aload_n dX12_qKind_82 1 rfl ?_
    refine jr_aload_n dX12_qKind_83 1 rfl ?_
    refine jr_getk (i := 80) jc_12 jk_206 (by decide) (Nat.le_of_ble_eq_true rfl) jlk_206_80 jw_1285 dX12_qKind_84 ?_
    refine j2_callVv (As := [jl_vr G 263]) dX12_qKind_87 (jt_X12_asks G 263 s0) jv_X12_asks ⟨rfl, rfl, rfl⟩ jw_1558 jk_206 (by decide) (by decide) rfl ⟨Nat.le_of_ble_eq_true rfl, Nat.le_of_ble_eq_true rfl⟩ rfl (Nat.le_of_ble_eq_true rfl) (fun r17 s18 hr17 => ?_)
    refine jr_sub [0] rfl ?_
    exact jj_X12_qKind_B90 G k0 hk0 s18
  · refine jr_sub [0] rfl ?_
    exact jj_X12_qKind_B90 G k0 hk0 s0
def jf_X12_qKind (s0 : jl_Mm) : jl_O :=
  jl_bd (jf_X12_takes 258 s0) fun r1 s2 => if r1 = (0 : Int) then (jl_bd (jf_X12_takes 259 s2) fun r4 s5 => if r4 = (0 : Int) then (jl_bd (jf_X12_takes 260 s5) fun r7 s8 => if r7 = (0 : Int) then (jl_bd (jf_X12_takes 261 s8) fun r10 s11 => if r10 = (0 : Int) then (jl_bd (jf_X12_takes 262 s11) fun r13 s14 => if r13 = (0 : Int) then (jf_X12_qKind_B76 (5 : Int) s14) else (jf_X12_qKind_B76 (4 : Int) s14)) else (jf_X12_qKind_B76 (3 : Int) s11)) else (jf_X12_qKind_B76 (2 : Int) s8)) else (jf_X12_qKind_B76 (1 : Int) s5)) else (jf_X12_qKind_B76 (0 : Int) s2)
set_option maxRecDepth 20000 in
set_option maxHeartbeats 2000000 in
theorem jt_X12_qKind (G : jl_GC) (s0 : jl_Mm) : jC2 G jM_X12_qKind [jl_vr G 206] s0 (jf_X12_qKind s0) := by
  refine jl_met (plainFor_of_name rfl) (Nat.le_of_ble_eq_true rfl) ?_
  show j2 G jM_X12_qKind 0 [(0, jl_vr G 206)] [] s0 _
  refine jr_aload_n dX12_qKind_0 0 rfl ?_
  refine jr_aload_n dX12_qKind_1 0 rfl ?_
  refine jr_getk (i := 75) jc_12 jk_206 (by decide) (Nat.le_of_ble_eq_true rfl) jlk_206_75 jw_1280 dX12_qKind_2 ?_
  refine j2_callVz (As := [jl_vr G 258]) dX12_qKind_5 (jt_X12_takes G 258 s0) jv_X12_takes ⟨rfl, rfl, rfl⟩ jw_1562 jk_206 (by decide) (by decide) rfl ⟨Nat.le_of_ble_eq_true rfl, Nat.le_of_ble_eq_true rfl⟩ rfl (Nat.le_of_ble_eq_true rfl) (fun r1 s2 hr1 => ?_)
  refine jr_if_eq (t := 15) dX12_qKind_8 (by decide) (jl_nz hr1) (fun c3 => ?_) (fun c3 => ?_)
  · refine jr_aload_n dX12_qKind_15 0 rfl ?_
    refine jr_aload_n dX12_qKind_16 0 rfl ?_
    refine jr_getk (i := 76) jc_12 jk_206 (by decide) (Nat.le_of_ble_eq_true rfl) jlk_206_76 jw_1281 dX12_qKind_17 ?_
    refine j2_callVz (As := [jl_vr G 259]) dX12_qKind_20 (jt_X12_takes G 259 s2) jv_X12_takes ⟨rfl, rfl, rfl⟩ jw_1562 jk_206 (by decide) (by decide) rfl ⟨Nat.le_of_ble_eq_true rfl, Nat.le_of_ble_eq_true rfl⟩ rfl (Nat.le_of_ble_eq_true rfl) (fun r4 s5 hr4 => ?_)
    refine jr_if_eq (t := 30) dX12_qKind_23 (by decide) (jl_nz hr4) (fun c6 => ?_) (fun c6 => ?_)
    · refine jr_aload_n dX12_qKind_30 0 rfl ?_
      refine jr_aload_n dX12_qKind_31 0 rfl ?_
      refine jr_getk (i := 77) jc_12 jk_206 (by decide) (Nat.le_of_ble_eq_true rfl) jlk_206_77 jw_1282 dX12_qKind_32 ?_
      refine j2_callVz (As := [jl_vr G 260]) dX12_qKind_35 (jt_X12_takes G 260 s5) jv_X12_takes ⟨rfl, rfl, rfl⟩ jw_1562 jk_206 (by decide) (by decide) rfl ⟨Nat.le_of_ble_eq_true rfl, Nat.le_of_ble_eq_true rfl⟩ rfl (Nat.le_of_ble_eq_true rfl) (fun r7 s8 hr7 => ?_)
      refine jr_if_eq (t := 45) dX12_qKind_38 (by decide) (jl_nz hr7) (fun c9 => ?_) (fun c9 => ?_)
      · refine jr_aload_n dX12_qKind_45 0 rfl ?_
        refine jr_aload_n dX12_qKind_46 0 rfl ?_
        refine jr_getk (i := 78) jc_12 jk_206 (by decide) (Nat.le_of_ble_eq_true rfl) jlk_206_78 jw_1283 dX12_qKind_47 ?_
        refine j2_callVz (As := [jl_vr G 261]) dX12_qKind_50 (jt_X12_takes G 261 s8) jv_X12_takes ⟨rfl, rfl, rfl⟩ jw_1562 jk_206 (by decide) (by decide) rfl ⟨Nat.le_of_ble_eq_true rfl, Nat.le_of_ble_eq_true rfl⟩ rfl (Nat.le_of_ble_eq_true rfl) (fun r10 s11 hr10 => ?_)
        refine jr_if_eq (t := 60) dX12_qKind_53 (by decide) (jl_nz hr10) (fun c12 => ?_) (fun c12 => ?_)
        · refine jr_aload_n dX12_qKind_60 0 rfl ?_
          refine jr_aload_n dX12_qKind_61 0 rfl ?_
          refine jr_getk (i := 79) jc_12 jk_206 (by decide) (Nat.le_of_ble_eq_true rfl) jlk_206_79 jw_1284 dX12_qKind_62 ?_
          refine j2_callVz (As := [jl_vr G 262]) dX12_qKind_65 (jt_X12_takes G 262 s11) jv_X12_takes ⟨rfl, rfl, rfl⟩ jw_1562 jk_206 (by decide) (by decide) rfl ⟨Nat.le_of_ble_eq_true rfl, Nat.le_of_ble_eq_true rfl⟩ rfl (Nat.le_of_ble_eq_true rfl) (fun r13 s14 hr13 => ?_)
          refine jr_if_eq (t := 75) dX12_qKind_68 (by decide) (jl_nz hr13) (fun c15 => ?_) (fun c15 => ?_)
          · refine jr_iconst dX12_qKind_75 ?_
            exact jj_X12_qKind_B76 G (5 : Int) (jl_nlit rfl) s14
          · refine jr_iconst dX12_qKind_71 ?_
            refine jr_goto (t := 76) dX12_qKind_72 (by decide) ?_
            exact jj_X12_qKind_B76 G (4 : Int) (jl_nlit rfl) s14
        · refine jr_iconst dX12_qKind_56 ?_
          refine jr_goto (t := 76) dX12_qKind_57 (by decide) ?_
          exact jj_X12_qKind_B76 G (3 : Int) (jl_nlit rfl) s11
      · refine jr_iconst dX12_qKind_41 ?_
        refine jr_goto (t := 76) dX12_qKind_42 (by decide) ?_
        exact jj_X12_qKind_B76 G (2 : Int) (jl_nlit rfl) s8
    · refine jr_iconst dX12_qKind_26 ?_
      refine jr_goto (t := 76) dX12_qKind_27 (by decide) ?_
      exact jj_X12_qKind_B76 G (1 : Int) (jl_nlit rfl) s5
  · refine jr_iconst dX12_qKind_11 ?_
    refine jr_goto (t := 76) dX12_qKind_12 (by decide) ?_
    exact jj_X12_qKind_B76 G (0 : Int) (jl_nlit rfl) s2
def jf_X12_qTakes_B133 (s0 : jl_Mm) : jl_O :=
  jl_lm (jl_up s0 206 108 (0 : Int)) fun s7 => some (0, s7)
set_option maxRecDepth 20000 in
set_option maxHeartbeats 2000000 in
theorem jj_X12_qTakes_B133 (G : jl_GC) (s0 : jl_Mm) : j2 G jM_X12_qTakes 133 [(0, jl_vr G 206)] [] s0 (jf_X12_qTakes_B133 s0) := by
  refine jr_aload_n dX12_qTakes_133 0 rfl ?_
  refine jr_iconst dX12_qTakes_134 ?_
  refine jr_putz (i := 108) jc_12 jk_206 (by decide) (Nat.le_of_ble_eq_true rfl) jlk_206_108 jft_12_108 rfl (by decide) jw_1313 rfl dX12_qTakes_135 ?_
  refine jr_lm (fun s7 => ?_)
  exact jr_ret_v rfl dX12_qTakes_138
def jf_X12_qTakes_B128 (l2 : Int) (s0 : jl_Mm) : jl_O :=
  jl_lm (jl_up s0 206 107 l2) fun s9 => jf_X12_qTakes_B133 s9
set_option maxRecDepth 20000 in
set_option maxHeartbeats 2000000 in
theorem jj_X12_qTakes_B128 (G : jl_GC) (l2 : Int) (hl2 : jl_n6 l2) (s0 : jl_Mm) : j2 G jM_X12_qTakes 128 [(0, jl_vr G 206), (2, jl_vl l2)] [] s0 (jf_X12_qTakes_B128 l2 s0) := by
  refine jr_aload_n dX12_qTakes_128 0 rfl ?_
  refine jr_lload_n dX12_qTakes_129 1 rfl ?_
  refine jr_putl (i := 107) jc_12 jk_206 (by decide) (Nat.le_of_ble_eq_true rfl) jlk_206_107 jft_12_107 rfl jw_1312 rfl dX12_qTakes_130 ?_
  refine jr_lm (fun s9 => ?_)
  refine jr_sub [0] rfl ?_
  exact jj_X12_qTakes_B133 G s9
def jf_X12_qTakes_B90 (l1 : Int) (l2 : Int) (s0 : jl_Mm) : jl_O :=
  if l1 ≤ (3 : Int) then (jf_X12_qTakes_B133 s0) else (if jl_g s0 206 108 = (0 : Int) then (if l1 = (4 : Int) then (if jl_lcmp l2 (jl_gl s0 206 107) ≤ (0 : Int) then (jf_X12_qTakes_B133 s0) else (jf_X12_qTakes_B128 l2 s0)) else (if (0 : Int) ≤ jl_lcmp l2 (jl_gl s0 206 107) then (jf_X12_qTakes_B133 s0) else (jf_X12_qTakes_B128 l2 s0))) else (jf_X12_qTakes_B128 l2 s0))
set_option maxRecDepth 20000 in
set_option maxHeartbeats 2000000 in
theorem jj_X12_qTakes_B90 (G : jl_GC) (l1 : Int) (l2 : Int) (hl1 : jl_n3 l1) (hl2 : jl_n6 l2) (s0 : jl_Mm) : j2 G jM_X12_qTakes 90 [(0, jl_vr G 206), (1, jl_vi l1), (2, jl_vl l2)] [] s0 (jf_X12_qTakes_B90 l1 l2 s0) := by
  refine jr_iload_n dX12_qTakes_90 1 rfl ?_
  refine jr_iconst dX12_qTakes_91 ?_
  refine jr_icmp_le (t := 133) dX12_qTakes_92 (by decide) hl1 (jl_nlit rfl) (fun c6 => ?_) (fun c6 => ?_)
  · refine jr_sub [0] rfl ?_
    exact jj_X12_qTakes_B133 G s0
  · refine jr_aload_n dX12_qTakes_95 0 rfl ?_
    refine jr_geti (i := 108) jc_12 jk_206 (by decide) (Nat.le_of_ble_eq_true rfl) jlk_206_108 jft_12_108 jw_1313 dX12_qTakes_96 ?_
    refine jr_if_ne (t := 128) dX12_qTakes_99 (by decide) (jl_n3_to _) (fun c8 => ?_) (fun c8 => ?_)
    · refine jr_iload_n dX12_qTakes_102 1 rfl ?_
      refine jr_iconst dX12_qTakes_103 ?_
      refine jr_icmp_ne (t := 119) dX12_qTakes_104 (by decide) hl1 (jl_nlit rfl) (fun c10 => ?_) (fun c10 => ?_)
      · refine jr_lload_n dX12_qTakes_107 2 rfl ?_
        refine jr_aload_n dX12_qTakes_108 0 rfl ?_
        refine jr_getl (i := 107) jc_12 jk_206 (by decide) (Nat.le_of_ble_eq_true rfl) jlk_206_107 jft_12_107 jw_1312 dX12_qTakes_109 ?_
        refine jr_lcmp dX12_qTakes_112 ?_
        refine jr_if_le (t := 133) dX12_qTakes_113 (by decide) (jl_n3_to _) (fun c12 => ?_) (fun c12 => ?_)
        · refine jr_sub [0] rfl ?_
          exact jj_X12_qTakes_B133 G s0
        · refine jr_goto (t := 128) dX12_qTakes_116 (by decide) ?_
          refine jr_sub [0, 2] rfl ?_
          exact jj_X12_qTakes_B128 G l2 hl2 s0
      · refine jr_lload_n dX12_qTakes_119 2 rfl ?_
        refine jr_aload_n dX12_qTakes_120 0 rfl ?_
        refine jr_getl (i := 107) jc_12 jk_206 (by decide) (Nat.le_of_ble_eq_true rfl) jlk_206_107 jft_12_107 jw_1312 dX12_qTakes_121 ?_
        refine jr_lcmp dX12_qTakes_124 ?_
        refine jr_if_ge (t := 133) dX12_qTakes_125 (by decide) (jl_n3_to _) (fun c11 => ?_) (fun c11 => ?_)
        · refine jr_sub [0] rfl ?_
          exact jj_X12_qTakes_B133 G s0
        · refine jr_sub [0, 2] rfl ?_
          exact jj_X12_qTakes_B128 G l2 hl2 s0
    · refine jr_sub [0, 2] rfl ?_
      exact jj_X12_qTakes_B128 G l2 hl2 s0
def jf_X12_qTakes_B75 (l1 : Int) (l2 : Int) (s0 : jl_Mm) : jl_O :=
  if l1 = (3 : Int) then (jl_lm (jl_up s0 206 107 (jl_ladd (jl_gl s0 206 107) l2)) fun s13 => jf_X12_qTakes_B90 l1 l2 s13) else (jf_X12_qTakes_B90 l1 l2 s0)
set_option maxRecDepth 20000 in
set_option maxHeartbeats 2000000 in
theorem jj_X12_qTakes_B75 (G : jl_GC) (l1 : Int) (l2 : Int) (hl1 : jl_n3 l1) (hl2 : jl_n6 l2) (s0 : jl_Mm) : j2 G jM_X12_qTakes 75 [(0, jl_vr G 206), (1, jl_vi l1), (2, jl_vl l2)] [] s0 (jf_X12_qTakes_B75 l1 l2 s0) := by
  refine jr_iload_n dX12_qTakes_75 1 rfl ?_
  refine jr_iconst dX12_qTakes_76 ?_
  refine jr_icmp_ne (t := 90) dX12_qTakes_77 (by decide) hl1 (jl_nlit rfl) (fun c5 => ?_) (fun c5 => ?_)
  · refine jr_aload_n dX12_qTakes_80 0 rfl ?_
    refine jr_dup dX12_qTakes_81 rfl ?_
    refine jr_getl (i := 107) jc_12 jk_206 (by decide) (Nat.le_of_ble_eq_true rfl) jlk_206_107 jft_12_107 jw_1312 dX12_qTakes_82 ?_
    refine jr_lload_n dX12_qTakes_85 2 rfl ?_
    refine jr_ladd dX12_qTakes_86 ?_
    refine jr_putl (i := 107) jc_12 jk_206 (by decide) (Nat.le_of_ble_eq_true rfl) jlk_206_107 jft_12_107 rfl jw_1312 rfl dX12_qTakes_87 ?_
    refine jr_lm (fun s13 => ?_)
    exact jj_X12_qTakes_B90 G l1 l2 hl1 hl2 s13
  · exact jj_X12_qTakes_B90 G l1 l2 hl1 hl2 s0
def jf_X12_qTakes_B55 (l1 : Int) (l2 : Int) (l5 : Int) (s0 : jl_Mm) : jl_O :=
  if l1 = (2 : Int) then (if l5 = (0 : Int) then (jf_X12_qTakes_B75 l1 l2 s0) else (jl_lm (jl_up s0 206 107 (jl_ladd (jl_gl s0 206 107) (1 : Int))) fun s15 => jf_X12_qTakes_B75 l1 l2 s15)) else (jf_X12_qTakes_B75 l1 l2 s0)
set_option maxRecDepth 20000 in
set_option maxHeartbeats 2000000 in
theorem jj_X12_qTakes_B55 (G : jl_GC) (l1 : Int) (l2 : Int) (l5 : Int) (hl1 : jl_n3 l1) (hl2 : jl_n6 l2) (hl5 : jl_n3 l5) (s0 : jl_Mm) : j2 G jM_X12_qTakes 55 [(0, jl_vr G 206), (1, jl_vi l1), (2, jl_vl l2), (5, jl_vi l5)] [] s0 (jf_X12_qTakes_B55 l1 l2 l5 s0) := by
  refine jr_iload_n dX12_qTakes_55 1 rfl ?_
  refine jr_iconst dX12_qTakes_56 ?_
  refine jr_icmp_ne (t := 75) dX12_qTakes_57 (by decide) hl1 (jl_nlit rfl) (fun c4 => ?_) (fun c4 => ?_)
  · refine jr_iload dX12_qTakes_60 3 rfl ?_
    refine jr_if_eq (t := 75) dX12_qTakes_62 (by decide) hl5 (fun c14 => ?_) (fun c14 => ?_)
    · refine jr_sub [0, 1, 2] rfl ?_
      exact jj_X12_qTakes_B75 G l1 l2 hl1 hl2 s0
    · refine jr_aload_n dX12_qTakes_65 0 rfl ?_
      refine jr_dup dX12_qTakes_66 rfl ?_
      refine jr_getl (i := 107) jc_12 jk_206 (by decide) (Nat.le_of_ble_eq_true rfl) jlk_206_107 jft_12_107 jw_1312 dX12_qTakes_67 ?_
      refine jr_lconst (v := 1) dX12_qTakes_70 (by decide) ?_
      refine jr_ladd dX12_qTakes_71 ?_
      refine jr_putl (i := 107) jc_12 jk_206 (by decide) (Nat.le_of_ble_eq_true rfl) jlk_206_107 jft_12_107 rfl jw_1312 rfl dX12_qTakes_72 ?_
      refine jr_lm (fun s15 => ?_)
      refine jr_sub [0, 1, 2] rfl ?_
      exact jj_X12_qTakes_B75 G l1 l2 hl1 hl2 s15
  · refine jr_sub [0, 1, 2] rfl ?_
    exact jj_X12_qTakes_B75 G l1 l2 hl1 hl2 s0
def jf_X12_qTakes_B48 (l1 : Int) (l2 : Int) (l4 : Int) (l5 : Int) (s0 : jl_Mm) : jl_O :=
  jl_lm (jl_up s0 206 107 l4) fun s17 => jf_X12_qTakes_B55 l1 l2 l5 s17
set_option maxRecDepth 20000 in
set_option maxHeartbeats 2000000 in
theorem jj_X12_qTakes_B48 (G : jl_GC) (l1 : Int) (l2 : Int) (l4 : Int) (l5 : Int) (hl1 : jl_n3 l1) (hl2 : jl_n6 l2) (hl4 : jl_n3 l4) (hl5 : jl_n3 l5) (s0 : jl_Mm) : j2 G jM_X12_qTakes 48 [(0, jl_vr G 206), (1, jl_vi l1), (2, jl_vl l2), (4, jl_vi l4), (5, jl_vi l5)] [] s0 (jf_X12_qTakes_B48 l1 l2 l4 l5 s0) := by
  refine jr_aload_n dX12_qTakes_48 0 rfl ?_
  refine jr_iload dX12_qTakes_49 3 rfl ?_
  refine jr_i2l dX12_qTakes_51 hl4 ?_
  refine jr_putl (i := 107) jc_12 jk_206 (by decide) (Nat.le_of_ble_eq_true rfl) jlk_206_107 jft_12_107 rfl jw_1312 rfl dX12_qTakes_52 ?_
  refine jr_lm (fun s17 => ?_)
  refine jr_sub [0, 1, 2, 4] rfl ?_
  exact jj_X12_qTakes_B55 G l1 l2 l5 hl1 hl2 hl5 s17
def jf_X12_qTakes_B38 (l1 : Int) (l2 : Int) (l4 : Int) (l5 : Int) (s0 : jl_Mm) : jl_O :=
  if l1 = (1 : Int) then (if l5 = (0 : Int) then (jf_X12_qTakes_B55 l1 l2 l5 s0) else (jf_X12_qTakes_B48 l1 l2 l4 l5 s0)) else (jf_X12_qTakes_B55 l1 l2 l5 s0)
set_option maxRecDepth 20000 in
set_option maxHeartbeats 2000000 in
theorem jj_X12_qTakes_B38 (G : jl_GC) (l1 : Int) (l2 : Int) (l4 : Int) (l5 : Int) (hl1 : jl_n3 l1) (hl2 : jl_n6 l2) (hl4 : jl_n3 l4) (hl5 : jl_n3 l5) (s0 : jl_Mm) : j2 G jM_X12_qTakes 38 [(0, jl_vr G 206), (1, jl_vi l1), (2, jl_vl l2), (4, jl_vi l4), (5, jl_vi l5)] [] s0 (jf_X12_qTakes_B38 l1 l2 l4 l5 s0) := by
  refine jr_iload_n dX12_qTakes_38 1 rfl ?_
  refine jr_iconst dX12_qTakes_39 ?_
  refine jr_icmp_ne (t := 55) dX12_qTakes_40 (by decide) hl1 (jl_nlit rfl) (fun c3 => ?_) (fun c3 => ?_)
  · refine jr_iload dX12_qTakes_43 4 rfl ?_
    refine jr_if_eq (t := 55) dX12_qTakes_45 (by decide) hl5 (fun c16 => ?_) (fun c16 => ?_)
    · refine jr_sub [0, 1, 2, 4] rfl ?_
      exact jj_X12_qTakes_B55 G l1 l2 l5 hl1 hl2 hl5 s0
    · exact jj_X12_qTakes_B48 G l1 l2 l4 l5 hl1 hl2 hl4 hl5 s0
  · refine jr_sub [0, 1, 2, 4] rfl ?_
    exact jj_X12_qTakes_B55 G l1 l2 l5 hl1 hl2 hl5 s0
def jf_X12_qTakes_B16 (l1 : Int) (l2 : Int) (l4 : Int) (k0 : Int) (s0 : jl_Mm) : jl_O :=
  if l1 = (0 : Int) then (if k0 = (0 : Int) then (jf_X12_qTakes_B38 l1 l2 l4 k0 s0) else (if jl_lcmp (jl_gl s0 206 107) (-1 : Int) = (0 : Int) then (jf_X12_qTakes_B48 l1 l2 l4 k0 s0) else (jf_X12_qTakes_B38 l1 l2 l4 k0 s0))) else (jf_X12_qTakes_B38 l1 l2 l4 k0 s0)
set_option maxRecDepth 20000 in
set_option maxHeartbeats 2000000 in
theorem jj_X12_qTakes_B16 (G : jl_GC) (l1 : Int) (l2 : Int) (l4 : Int) (k0 : Int) (hl1 : jl_n3 l1) (hl2 : jl_n6 l2) (hl4 : jl_n3 l4) (hk0 : jl_n3 k0) (s0 : jl_Mm) : j2 G jM_X12_qTakes 16 [(0, jl_vr G 206), (1, jl_vi l1), (2, jl_vl l2), (4, jl_vi l4)] [jl_vi k0] s0 (jf_X12_qTakes_B16 l1 l2 l4 k0 s0) := by
  refine jr_istore (lv := [(5, jl_vi k0), (0, jl_vr G 206), (1, jl_vi l1), (2, jl_vl l2), (4, jl_vi l4)]) dX12_qTakes_16 (Nat.le_of_ble_eq_true rfl) rfl ?_
  refine jr_iload_n dX12_qTakes_18 2 rfl ?_
  refine jr_if_ne (t := 38) dX12_qTakes_19 (by decide) hl1 (fun c2 => ?_) (fun c2 => ?_)
  · refine jr_iload dX12_qTakes_22 0 rfl ?_
    refine jr_if_eq (t := 38) dX12_qTakes_24 (by decide) hk0 (fun c18 => ?_) (fun c18 => ?_)
    · refine jr_sub [1, 2, 3, 4, 0] rfl ?_
      exact jj_X12_qTakes_B38 G l1 l2 l4 k0 hl1 hl2 hl4 hk0 s0
    · refine jr_aload_n dX12_qTakes_27 1 rfl ?_
      refine jr_getl (i := 107) jc_12 jk_206 (by decide) (Nat.le_of_ble_eq_true rfl) jlk_206_107 jft_12_107 jw_1312 dX12_qTakes_28 ?_
      refine jr_ldc2_w (v := -1) dX12_qTakes_31 jw_1807 (by decide) ?_
      refine jr_lcmp dX12_qTakes_34 ?_
      refine jr_if_eq (t := 48) dX12_qTakes_35 (by decide) (jl_n3_to _) (fun c19 => ?_) (fun c19 => ?_)
      · refine jr_sub [1, 2, 3, 4, 0] rfl ?_
        exact jj_X12_qTakes_B48 G l1 l2 l4 k0 hl1 hl2 hl4 hk0 s0
      · refine jr_sub [1, 2, 3, 4, 0] rfl ?_
        exact jj_X12_qTakes_B38 G l1 l2 l4 k0 hl1 hl2 hl4 hk0 s0
  · refine jr_sub [1, 2, 3, 4, 0] rfl ?_
    exact jj_X12_qTakes_B38 G l1 l2 l4 k0 hl1 hl2 hl4 hk0 s0
def jf_X12_qTakes_B15 (l1 : Int) (l2 : Int) (l4 : Int) (s0 : jl_Mm) : jl_O :=
  jf_X12_qTakes_B16 l1 l2 l4 (0 : Int) s0
set_option maxRecDepth 20000 in
set_option maxHeartbeats 2000000 in
theorem jj_X12_qTakes_B15 (G : jl_GC) (l1 : Int) (l2 : Int) (l4 : Int) (hl1 : jl_n3 l1) (hl2 : jl_n6 l2) (hl4 : jl_n3 l4) (s0 : jl_Mm) : j2 G jM_X12_qTakes 15 [(0, jl_vr G 206), (1, jl_vi l1), (2, jl_vl l2), (4, jl_vi l4)] [] s0 (jf_X12_qTakes_B15 l1 l2 l4 s0) := by
  refine jr_iconst dX12_qTakes_15 ?_
  exact jj_X12_qTakes_B16 G l1 l2 l4 (0 : Int) hl1 hl2 hl4 (jl_nlit rfl) s0
def jf_X12_qTakes (v1 : Int) (v2 : Int) (v3 : Int) (s0 : jl_Mm) : jl_O :=
  if (3 : Int) ≤ v1 then (jf_X12_qTakes_B15 v1 v2 v3 s0) else (if jl_lcmp v2 (1 : Int) = (0 : Int) then (jf_X12_qTakes_B16 v1 v2 v3 (1 : Int) s0) else (jf_X12_qTakes_B15 v1 v2 v3 s0))
set_option maxRecDepth 20000 in
set_option maxHeartbeats 2000000 in
theorem jt_X12_qTakes (G : jl_GC) (v1 : Int) (v2 : Int) (v3 : Int) (h1 : jl_n3 v1) (h2 : jl_n6 v2) (h3 : jl_n3 v3) (s0 : jl_Mm) : jC2 G jM_X12_qTakes [jl_vr G 206, jl_vi v1, jl_vl v2, jl_vi v3] s0 (jf_X12_qTakes v1 v2 v3 s0) := by
  refine jl_met (plainFor_of_name rfl) (Nat.le_of_ble_eq_true rfl) ?_
  show j2 G jM_X12_qTakes 0 [(0, jl_vr G 206), (1, jl_vi v1), (2, jl_vl v2), (4, jl_vi v3)] [] s0 _
  refine jr_iload_n dX12_qTakes_0 1 rfl ?_
  refine jr_iconst dX12_qTakes_1 ?_
  refine jr_icmp_ge (t := 15) dX12_qTakes_2 (by decide) h1 (jl_nlit rfl) (fun c1 => ?_) (fun c1 => ?_)
  · exact jj_X12_qTakes_B15 G v1 v2 v3 h1 h2 h3 s0
  · refine jr_lload_n dX12_qTakes_5 2 rfl ?_
    refine jr_lconst (v := 1) dX12_qTakes_6 (by decide) ?_
    refine jr_lcmp dX12_qTakes_7 ?_
    refine jr_if_ne (t := 15) dX12_qTakes_8 (by decide) (jl_n3_to _) (fun c20 => ?_) (fun c20 => ?_)
    · refine jr_iconst dX12_qTakes_11 ?_
      refine jr_goto (t := 16) dX12_qTakes_12 (by decide) ?_
      exact jj_X12_qTakes_B16 G v1 v2 v3 (1 : Int) h1 h2 h3 (jl_nlit rfl) s0
    · exact jj_X12_qTakes_B15 G v1 v2 v3 h1 h2 h3 s0
def jf_X12_ask_L191 : Nat → Int → Int → jl_Mm → jl_O
  | 0, _, _, _ => none
  | n + 1, l1, l2, s0 =>
    jl_bd (jf_X12_lieMany s0) fun r27 s28 => if r27 ≤ l2 then (some (jl_gl s28 206 107, s28)) else (jl_lm (jl_up s28 206 57 l2) fun s30 => jl_bd (jf_X12_windowOf l2 s30) fun r31 s32 => jl_lm (jl_up s32 206 58 r31) fun s33 => jl_bd (jf_X12_qTold l2 s33) fun r34 s35 => jl_bd (jf_X12_qTakes l1 r34 l2 s35) fun r36 s37 => jf_X12_ask_L191 n l1 (jl_add l2 1) s37)
set_option maxRecDepth 20000 in
set_option maxHeartbeats 2000000 in
theorem jj_X12_ask_L191 (G : jl_GC) : ∀ (n : Nat) (l1 : Int) (l2 : Int) (hl1 : jl_n3 l1) (hl2 : jl_n3 l2) (s0 : jl_Mm), j2 G jM_X12_ask 191 [(0, jl_vr G 206), (1, jl_vi l1), (2, jl_vi l2)] [] s0 (jf_X12_ask_L191 n l1 l2 s0) := by
  intro n
  induction n with
  | zero =>
    intros
    exact jr_none
  | succ n ih =>
    intro l1 l2 hl1 hl2 s0
    refine jr_iload_n dX12_ask_191 2 rfl ?_
    refine jr_aload_n dX12_ask_192 0 rfl ?_
    refine j2_callVi (As := []) dX12_ask_193 (jt_X12_lieMany G s0) jv_X12_lieMany ⟨rfl, rfl, rfl⟩ jw_1751 jk_206 (by decide) (by decide) rfl ⟨Nat.le_of_ble_eq_true rfl, Nat.le_of_ble_eq_true rfl⟩ rfl (Nat.le_of_ble_eq_true rfl) (fun r27 s28 hr27 => ?_)
    refine jr_icmp_ge (t := 230) dX12_ask_196 (by decide) hl2 hr27 (fun c29 => ?_) (fun c29 => ?_)
    · refine jr_aload_n dX12_ask_230 0 rfl ?_
      refine jr_getl (i := 107) jc_12 jk_206 (by decide) (Nat.le_of_ble_eq_true rfl) jlk_206_107 jft_12_107 jw_1312 dX12_ask_231 ?_
      exact jr_ret_l rfl (jl_n6_to _) dX12_ask_234
    · refine jr_aload_n dX12_ask_199 0 rfl ?_
      refine jr_iload_n dX12_ask_200 2 rfl ?_
      refine jr_puti (i := 57) jc_12 jk_206 (by decide) (Nat.le_of_ble_eq_true rfl) jlk_206_57 jft_12_57 rfl jw_1262 rfl dX12_ask_201 ?_
      refine jr_lm (fun s30 => ?_)
      refine jr_aload_n dX12_ask_204 0 rfl ?_
      refine jr_aload_n dX12_ask_205 0 rfl ?_
      refine jr_iload_n dX12_ask_206 2 rfl ?_
      refine j2_callVi (As := [jl_vi l2]) dX12_ask_207 (jt_X12_windowOf G l2 hl2 s30) jv_X12_windowOf ⟨rfl, rfl, rfl⟩ jw_1799 jk_206 (by decide) (by decide) rfl ⟨Nat.le_of_ble_eq_true rfl, Nat.le_of_ble_eq_true rfl⟩ rfl (Nat.le_of_ble_eq_true rfl) (fun r31 s32 hr31 => ?_)
      refine jr_puti (i := 58) jc_12 jk_206 (by decide) (Nat.le_of_ble_eq_true rfl) jlk_206_58 jft_12_58 rfl jw_1263 rfl dX12_ask_210 ?_
      refine jr_lm (fun s33 => ?_)
      refine jr_aload_n dX12_ask_213 0 rfl ?_
      refine jr_iload_n dX12_ask_214 1 rfl ?_
      refine jr_aload_n dX12_ask_215 0 rfl ?_
      refine jr_iload_n dX12_ask_216 2 rfl ?_
      refine j2_callVl (As := [jl_vi l2]) dX12_ask_217 (jt_X12_qTold G l2 hl2 s33) jv_X12_qTold ⟨rfl, rfl, rfl⟩ jw_2061 jk_206 (by decide) (by decide) rfl ⟨Nat.le_of_ble_eq_true rfl, Nat.le_of_ble_eq_true rfl⟩ rfl (Nat.le_of_ble_eq_true rfl) (fun r34 s35 hr34 => ?_)
      refine jr_iload_n dX12_ask_220 2 rfl ?_
      refine j2_callVv (As := [jl_vi l1, jl_vl r34, jl_vi l2]) dX12_ask_221 (jt_X12_qTakes G l1 r34 l2 hl1 hr34 hl2 s35) jv_X12_qTakes ⟨rfl, rfl, rfl⟩ jw_2069 jk_206 (by decide) (by decide) rfl ⟨Nat.le_of_ble_eq_true rfl, Nat.le_of_ble_eq_true rfl⟩ rfl (Nat.le_of_ble_eq_true rfl) (fun r36 s37 hr36 => ?_)
      refine jr_iinc (j := 2) (lv := [(2, jl_vi (jl_add l2 1)), (0, jl_vr G 206), (1, jl_vi l1)]) dX12_ask_224 rfl (Nat.le_of_ble_eq_true rfl) rfl ?_
      refine jr_goto (t := 191) dX12_ask_227 (by decide) ?_
      refine jr_sub [1, 2, 0] rfl ?_
      exact ih l1 (jl_add l2 1) hl1 (jl_n3_to _) s37
def jf_X12_ask_B173 (l1 : Int) (k1 : Int) (s0 : jl_Mm) : jl_O :=
  jl_lm (jl_up s0 206 107 k1) fun s22 => jl_lm (jl_up s22 206 108 (1 : Int)) fun s23 => jl_bd (jf_X12_laysHeld s23) fun r24 s25 => jl_lm (jl_up s25 206 59 r24) fun s26 => jf_X12_ask_L191 jl_fu l1 (0 : Int) s26
set_option maxRecDepth 20000 in
set_option maxHeartbeats 2000000 in
theorem jj_X12_ask_B173 (G : jl_GC) (l1 : Int) (k1 : Int) (hl1 : jl_n3 l1) (hk1 : jl_n6 k1) (s0 : jl_Mm) : j2 G jM_X12_ask 173 [(0, jl_vr G 206), (1, jl_vi l1)] [jl_vl k1, jl_vr G 206] s0 (jf_X12_ask_B173 l1 k1 s0) := by
  refine jr_putl (i := 107) jc_12 jk_206 (by decide) (Nat.le_of_ble_eq_true rfl) jlk_206_107 jft_12_107 rfl jw_1312 rfl dX12_ask_173 ?_
  refine jr_lm (fun s22 => ?_)
  refine jr_aload_n dX12_ask_176 0 rfl ?_
  refine jr_iconst dX12_ask_177 ?_
  refine jr_putz (i := 108) jc_12 jk_206 (by decide) (Nat.le_of_ble_eq_true rfl) jlk_206_108 jft_12_108 rfl (by decide) jw_1313 rfl dX12_ask_178 ?_
  refine jr_lm (fun s23 => ?_)
  refine jr_aload_n dX12_ask_181 0 rfl ?_
  refine jr_aload_n dX12_ask_182 0 rfl ?_
  refine j2_callVi (As := []) dX12_ask_183 (jt_X12_laysHeld G s23) jv_X12_laysHeld ⟨rfl, rfl, rfl⟩ jw_1767 jk_206 (by decide) (by decide) rfl ⟨Nat.le_of_ble_eq_true rfl, Nat.le_of_ble_eq_true rfl⟩ rfl (Nat.le_of_ble_eq_true rfl) (fun r24 s25 hr24 => ?_)
  refine jr_puti (i := 59) jc_12 jk_206 (by decide) (Nat.le_of_ble_eq_true rfl) jlk_206_59 jft_12_59 rfl jw_1264 rfl dX12_ask_186 ?_
  refine jr_lm (fun s26 => ?_)
  refine jr_iconst dX12_ask_189 ?_
  refine jr_istore_n (lv := [(2, jl_vi (0 : Int)), (0, jl_vr G 206), (1, jl_vi l1)]) dX12_ask_190 rfl (Nat.le_of_ble_eq_true rfl) rfl ?_
  refine jr_sub [1, 2, 0] rfl ?_
  exact jj_X12_ask_L191 G jl_fu l1 (0 : Int) hl1 (jl_nlit rfl) s26
def jf_X12_ask_B133 (l1 : Int) (s0 : jl_Mm) : jl_O :=
  jl_lm (jl_up s0 206 7 (jl_g s0 206 5)) fun s18 => jl_lm (jl_up s18 206 8 (jl_g s18 206 6)) fun s19 => if jl_g s19 206 5 = (0 : Int) then (if (2 : Int) ≤ l1 then (jf_X12_ask_B173 l1 (0 : Int) s19) else (jf_X12_ask_B173 l1 (-1 : Int) s19)) else (some ((-1000000000000000 : Int), s19))
set_option maxRecDepth 20000 in
set_option maxHeartbeats 2000000 in
theorem jj_X12_ask_B133 (G : jl_GC) (l1 : Int) (hl1 : jl_n3 l1) (s0 : jl_Mm) : j2 G jM_X12_ask 133 [(0, jl_vr G 206), (1, jl_vi l1)] [] s0 (jf_X12_ask_B133 l1 s0) := by
  refine jr_aload_n dX12_ask_133 0 rfl ?_
  refine jr_aload_n dX12_ask_134 0 rfl ?_
  refine jr_geti (i := 5) jc_12 jk_206 (by decide) (Nat.le_of_ble_eq_true rfl) jlk_206_5 jft_12_5 jw_1210 dX12_ask_135 ?_
  refine jr_puti (i := 7) jc_12 jk_206 (by decide) (Nat.le_of_ble_eq_true rfl) jlk_206_7 jft_12_7 rfl jw_1212 rfl dX12_ask_138 ?_
  refine jr_lm (fun s18 => ?_)
  refine jr_aload_n dX12_ask_141 0 rfl ?_
  refine jr_aload_n dX12_ask_142 0 rfl ?_
  refine jr_geti (i := 6) jc_12 jk_206 (by decide) (Nat.le_of_ble_eq_true rfl) jlk_206_6 jft_12_6 jw_1211 dX12_ask_143 ?_
  refine jr_puti (i := 8) jc_12 jk_206 (by decide) (Nat.le_of_ble_eq_true rfl) jlk_206_8 jft_12_8 rfl jw_1213 rfl dX12_ask_146 ?_
  refine jr_lm (fun s19 => ?_)
  refine jr_aload_n dX12_ask_149 0 rfl ?_
  refine jr_geti (i := 5) jc_12 jk_206 (by decide) (Nat.le_of_ble_eq_true rfl) jlk_206_5 jft_12_5 jw_1210 dX12_ask_150 ?_
  refine jr_if_eq (t := 160) dX12_ask_153 (by decide) (jl_n3_to _) (fun c20 => ?_) (fun c20 => ?_)
  · refine jr_aload_n dX12_ask_160 0 rfl ?_
    refine jr_iload_n dX12_ask_161 1 rfl ?_
    refine jr_iconst dX12_ask_162 ?_
    refine jr_icmp_ge (t := 172) dX12_ask_163 (by decide) hl1 (jl_nlit rfl) (fun c21 => ?_) (fun c21 => ?_)
    · refine jr_lconst (v := 0) dX12_ask_172 (by decide) ?_
      exact jj_X12_ask_B173 G l1 (0 : Int) hl1 (jl_n6lit rfl) s19
    · refine jr_ldc2_w (v := -1) dX12_ask_166 jw_1807 (by decide) ?_
      refine jr_goto (t := 173) dX12_ask_169 (by decide) ?_
      exact jj_X12_ask_B173 G l1 (-1 : Int) hl1 (jl_n6lit rfl) s19
  · refine jr_ldc2_w (v := -1000000000000000) dX12_ask_156 jw_2056 (by decide) ?_
    exact jr_ret_l rfl (jl_n6lit rfl) dX12_ask_159
def jf_X12_ask_B109 (l1 : Int) (s0 : jl_Mm) : jl_O :=
  if jl_g s0 206 5 = (0 : Int) then (jl_bd (jf_X12_look s0) fun r38 s39 => if r38 = (-1 : Int) then (jf_X12_ask_B133 l1 s39) else (jl_bd (jf_X12_fail (1 : Int) (jl_g s39 206 2) s39) fun r41 s42 => jf_X12_ask_B133 l1 s42)) else (jf_X12_ask_B133 l1 s0)
set_option maxRecDepth 20000 in
set_option maxHeartbeats 2000000 in
theorem jj_X12_ask_B109 (G : jl_GC) (l1 : Int) (hl1 : jl_n3 l1) (s0 : jl_Mm) : j2 G jM_X12_ask 109 [(0, jl_vr G 206), (1, jl_vi l1)] [] s0 (jf_X12_ask_B109 l1 s0) := by
  refine jr_aload_n dX12_ask_109 0 rfl ?_
  refine jr_geti (i := 5) jc_12 jk_206 (by decide) (Nat.le_of_ble_eq_true rfl) jlk_206_5 jft_12_5 jw_1210 dX12_ask_110 ?_
  refine jr_if_ne (t := 133) dX12_ask_113 (by decide) (jl_n3_to _) (fun c17 => ?_) (fun c17 => ?_)
  · refine jr_aload_n dX12_ask_116 0 rfl ?_
    refine j2_callVi (As := []) dX12_ask_117 (jt_X12_look G s0) jv_X12_look ⟨rfl, rfl, rfl⟩ jw_1570 jk_206 (by decide) (by decide) rfl ⟨Nat.le_of_ble_eq_true rfl, Nat.le_of_ble_eq_true rfl⟩ rfl (Nat.le_of_ble_eq_true rfl) (fun r38 s39 hr38 => ?_)
    refine jr_iconst dX12_ask_120 ?_
    refine jr_icmp_eq (t := 133) dX12_ask_121 (by decide) hr38 (jl_nlit rfl) (fun c40 => ?_) (fun c40 => ?_)
    · exact jj_X12_ask_B133 G l1 hl1 s39
    · refine jr_aload_n dX12_ask_124 0 rfl ?_
      refine jr_iconst dX12_ask_125 ?_
      refine jr_aload_n dX12_ask_126 0 rfl ?_
      refine jr_geti (i := 2) jc_12 jk_206 (by decide) (Nat.le_of_ble_eq_true rfl) jlk_206_2 jft_12_2 jw_1207 dX12_ask_127 ?_
      refine j2_callVv (As := [jl_vi (1 : Int), jl_vi (jl_g s39 206 2)]) dX12_ask_130 (jt_X12_fail G (1 : Int) (jl_g s39 206 2) (jl_nlit rfl) (jl_n3_to _) s39) jv_X12_fail ⟨rfl, rfl, rfl⟩ jw_1577 jk_206 (by decide) (by decide) rfl ⟨Nat.le_of_ble_eq_true rfl, Nat.le_of_ble_eq_true rfl⟩ rfl (Nat.le_of_ble_eq_true rfl) (fun r41 s42 hr41 => ?_)
      exact jj_X12_ask_B133 G l1 hl1 s42
  · exact jj_X12_ask_B133 G l1 hl1 s0
def jf_X12_ask_B98 (l1 : Int) (s0 : jl_Mm) : jl_O :=
  if jl_g s0 206 5 = (0 : Int) then (jl_bd (jf_X12_qSums s0) fun r43 s44 => jf_X12_ask_B109 l1 s44) else (jf_X12_ask_B109 l1 s0)
set_option maxRecDepth 20000 in
set_option maxHeartbeats 2000000 in
theorem jj_X12_ask_B98 (G : jl_GC) (l1 : Int) (hl1 : jl_n3 l1) (s0 : jl_Mm) : j2 G jM_X12_ask 98 [(0, jl_vr G 206), (1, jl_vi l1)] [] s0 (jf_X12_ask_B98 l1 s0) := by
  refine jr_aload_n dX12_ask_98 0 rfl ?_
  refine jr_geti (i := 5) jc_12 jk_206 (by decide) (Nat.le_of_ble_eq_true rfl) jlk_206_5 jft_12_5 jw_1210 dX12_ask_99 ?_
  refine jr_if_ne (t := 109) dX12_ask_102 (by decide) (jl_n3_to _) (fun c16 => ?_) (fun c16 => ?_)
  · refine jr_aload_n dX12_ask_105 0 rfl ?_
    refine j2_callVv (As := []) dX12_ask_106 (jt_X12_qSums G s0) jv_X12_qSums ⟨rfl, rfl, rfl⟩ jw_1661 jk_206 (by decide) (by decide) rfl ⟨Nat.le_of_ble_eq_true rfl, Nat.le_of_ble_eq_true rfl⟩ rfl (Nat.le_of_ble_eq_true rfl) (fun r43 s44 hr43 => ?_)
    exact jj_X12_ask_B109 G l1 hl1 s44
  · exact jj_X12_ask_B109 G l1 hl1 s0
def jf_X12_ask (s0 : jl_Mm) : jl_O :=
  if jl_g s0 206 54 = (0 : Int) then (jl_lm (jl_up s0 206 1 (0 : Int)) fun s48 => some ((-1000000000000000 : Int), s48)) else (jl_lm (jl_up s0 206 3 (jl_g s0 206 1)) fun s2 => jl_lm (jl_up s2 206 1 (0 : Int)) fun s3 => jl_lm (jl_up s3 206 2 (0 : Int)) fun s4 => jl_lm (jl_up s4 206 4 (-1 : Int)) fun s5 => jl_lm (jl_up s5 206 5 (0 : Int)) fun s6 => jl_lm (jl_up s6 206 6 (-1 : Int)) fun s7 => jl_lm (jl_up s7 206 55 (3 : Int)) fun s8 => jl_lm (jl_up s8 206 100 (0 : Int)) fun s9 => jl_lm (jl_up s9 206 102 (0 : Int)) fun s10 => jl_lm (jl_up s10 206 103 (0 : Int)) fun s11 => jl_lm (jl_up s11 206 104 (0 : Int)) fun s12 => jl_bd (jf_X12_qKind s12) fun r13 s14 => if jl_g s14 206 5 = (0 : Int) then (if (3 : Int) ≤ r13 then (jf_X12_ask_B98 r13 s14) else (jl_bd (jf_X12_qTest s14) fun r46 s47 => jf_X12_ask_B109 r13 s47)) else (jf_X12_ask_B98 r13 s14))
set_option maxRecDepth 20000 in
set_option maxHeartbeats 2000000 in
theorem jt_X12_ask (G : jl_GC) (s0 : jl_Mm) : jC2 G jM_X12_ask [jl_vr G 206] s0 (jf_X12_ask s0) := by
  refine jl_met (plainFor_of_name rfl) (Nat.le_of_ble_eq_true rfl) ?_
  show j2 G jM_X12_ask 0 [(0, jl_vr G 206)] [] s0 _
  refine jr_aload_n dX12_ask_0 0 rfl ?_
  refine jr_geti (i := 54) jc_12 jk_206 (by decide) (Nat.le_of_ble_eq_true rfl) jlk_206_54 jft_12_54 jw_1259 dX12_ask_1 ?_
  refine jr_if_ne (t := 16) dX12_ask_4 (by decide) (jl_n3_to _) (fun c1 => ?_) (fun c1 => ?_)
  · refine jr_aload_n dX12_ask_7 0 rfl ?_
    refine jr_iconst dX12_ask_8 ?_
    refine jr_puti (i := 1) jc_12 jk_206 (by decide) (Nat.le_of_ble_eq_true rfl) jlk_206_1 jft_12_1 rfl jw_1206 rfl dX12_ask_9 ?_
    refine jr_lm (fun s48 => ?_)
    refine jr_ldc2_w (v := -1000000000000000) dX12_ask_12 jw_2056 (by decide) ?_
    exact jr_ret_l rfl (jl_n6lit rfl) dX12_ask_15
  · refine jr_aload_n dX12_ask_16 0 rfl ?_
    refine jr_aload_n dX12_ask_17 0 rfl ?_
    refine jr_geti (i := 1) jc_12 jk_206 (by decide) (Nat.le_of_ble_eq_true rfl) jlk_206_1 jft_12_1 jw_1206 dX12_ask_18 ?_
    refine jr_puti (i := 3) jc_12 jk_206 (by decide) (Nat.le_of_ble_eq_true rfl) jlk_206_3 jft_12_3 rfl jw_1208 rfl dX12_ask_21 ?_
    refine jr_lm (fun s2 => ?_)
    refine jr_aload_n dX12_ask_24 0 rfl ?_
    refine jr_iconst dX12_ask_25 ?_
    refine jr_puti (i := 1) jc_12 jk_206 (by decide) (Nat.le_of_ble_eq_true rfl) jlk_206_1 jft_12_1 rfl jw_1206 rfl dX12_ask_26 ?_
    refine jr_lm (fun s3 => ?_)
    refine jr_aload_n dX12_ask_29 0 rfl ?_
    refine jr_iconst dX12_ask_30 ?_
    refine jr_puti (i := 2) jc_12 jk_206 (by decide) (Nat.le_of_ble_eq_true rfl) jlk_206_2 jft_12_2 rfl jw_1207 rfl dX12_ask_31 ?_
    refine jr_lm (fun s4 => ?_)
    refine jr_aload_n dX12_ask_34 0 rfl ?_
    refine jr_iconst dX12_ask_35 ?_
    refine jr_puti (i := 4) jc_12 jk_206 (by decide) (Nat.le_of_ble_eq_true rfl) jlk_206_4 jft_12_4 rfl jw_1209 rfl dX12_ask_36 ?_
    refine jr_lm (fun s5 => ?_)
    refine jr_aload_n dX12_ask_39 0 rfl ?_
    refine jr_iconst dX12_ask_40 ?_
    refine jr_puti (i := 5) jc_12 jk_206 (by decide) (Nat.le_of_ble_eq_true rfl) jlk_206_5 jft_12_5 rfl jw_1210 rfl dX12_ask_41 ?_
    refine jr_lm (fun s6 => ?_)
    refine jr_aload_n dX12_ask_44 0 rfl ?_
    refine jr_iconst dX12_ask_45 ?_
    refine jr_puti (i := 6) jc_12 jk_206 (by decide) (Nat.le_of_ble_eq_true rfl) jlk_206_6 jft_12_6 rfl jw_1211 rfl dX12_ask_46 ?_
    refine jr_lm (fun s7 => ?_)
    refine jr_aload_n dX12_ask_49 0 rfl ?_
    refine jr_iconst dX12_ask_50 ?_
    refine jr_puti (i := 55) jc_12 jk_206 (by decide) (Nat.le_of_ble_eq_true rfl) jlk_206_55 jft_12_55 rfl jw_1260 rfl dX12_ask_51 ?_
    refine jr_lm (fun s8 => ?_)
    refine jr_aload_n dX12_ask_54 0 rfl ?_
    refine jr_iconst dX12_ask_55 ?_
    refine jr_puti (i := 100) jc_12 jk_206 (by decide) (Nat.le_of_ble_eq_true rfl) jlk_206_100 jft_12_100 rfl jw_1305 rfl dX12_ask_56 ?_
    refine jr_lm (fun s9 => ?_)
    refine jr_aload_n dX12_ask_59 0 rfl ?_
    refine jr_iconst dX12_ask_60 ?_
    refine jr_puti (i := 102) jc_12 jk_206 (by decide) (Nat.le_of_ble_eq_true rfl) jlk_206_102 jft_12_102 rfl jw_1307 rfl dX12_ask_61 ?_
    refine jr_lm (fun s10 => ?_)
    refine jr_aload_n dX12_ask_64 0 rfl ?_
    refine jr_iconst dX12_ask_65 ?_
    refine jr_puti (i := 103) jc_12 jk_206 (by decide) (Nat.le_of_ble_eq_true rfl) jlk_206_103 jft_12_103 rfl jw_1308 rfl dX12_ask_66 ?_
    refine jr_lm (fun s11 => ?_)
    refine jr_aload_n dX12_ask_69 0 rfl ?_
    refine jr_iconst dX12_ask_70 ?_
    refine jr_puti (i := 104) jc_12 jk_206 (by decide) (Nat.le_of_ble_eq_true rfl) jlk_206_104 jft_12_104 rfl jw_1309 rfl dX12_ask_71 ?_
    refine jr_lm (fun s12 => ?_)
    refine jr_aload_n dX12_ask_74 0 rfl ?_
    refine j2_callVi (As := []) dX12_ask_75 (jt_X12_qKind G s12) jv_X12_qKind ⟨rfl, rfl, rfl⟩ jw_2057 jk_206 (by decide) (by decide) rfl ⟨Nat.le_of_ble_eq_true rfl, Nat.le_of_ble_eq_true rfl⟩ rfl (Nat.le_of_ble_eq_true rfl) (fun r13 s14 hr13 => ?_)
    refine jr_istore_n (lv := [(1, jl_vi r13), (0, jl_vr G 206)]) dX12_ask_78 rfl (Nat.le_of_ble_eq_true rfl) rfl ?_
    refine jr_aload_n dX12_ask_79 1 rfl ?_
    refine jr_geti (i := 5) jc_12 jk_206 (by decide) (Nat.le_of_ble_eq_true rfl) jlk_206_5 jft_12_5 jw_1210 dX12_ask_80 ?_
    refine jr_if_ne (t := 98) dX12_ask_83 (by decide) (jl_n3_to _) (fun c15 => ?_) (fun c15 => ?_)
    · refine jr_iload_n dX12_ask_86 0 rfl ?_
      refine jr_iconst dX12_ask_87 ?_
      refine jr_icmp_ge (t := 98) dX12_ask_88 (by decide) hr13 (jl_nlit rfl) (fun c45 => ?_) (fun c45 => ?_)
      · refine jr_sub [1, 0] rfl ?_
        exact jj_X12_ask_B98 G r13 hr13 s14
      · refine jr_aload_n dX12_ask_91 1 rfl ?_
        refine j2_callVv (As := []) dX12_ask_92 (jt_X12_qTest G s14) jv_X12_qTest ⟨rfl, rfl, rfl⟩ jw_1645 jk_206 (by decide) (by decide) rfl ⟨Nat.le_of_ble_eq_true rfl, Nat.le_of_ble_eq_true rfl⟩ rfl (Nat.le_of_ble_eq_true rfl) (fun r46 s47 hr46 => ?_)
        refine jr_goto (t := 109) dX12_ask_95 (by decide) ?_
        refine jr_sub [1, 0] rfl ?_
        exact jj_X12_ask_B109 G r13 hr13 s47
    · refine jr_sub [1, 0] rfl ?_
      exact jj_X12_ask_B98 G r13 hr13 s14
def jf_X12_checked_L6 : Nat → Nat → Int → Int → Int → jl_Mm → jl_O
  | 0, _, _, _, _, _ => none
  | n + 1, l0, l1, l2, l3, s0 =>
    if l1 ≤ l3 then (some (l2, s0)) else (if 0 ≤ l3 ∧ l3 < (((jl_kd l0).2 : Nat) : Int) then jl_let (jl_rem (jl_add (jl_mul (3 : Int) l2) (jl_g s0 l0 (l3).toNat)) (251 : Int)) fun x3 => jf_X12_checked_L6 n l0 l1 x3 (jl_add l3 1) s0 else none)
set_option maxRecDepth 20000 in
set_option maxHeartbeats 2000000 in
theorem jj_X12_checked_L6 (G : jl_GC) : ∀ (n : Nat) (l0 : Nat) (l1 : Int) (l2 : Int) (l3 : Int) (hl0 : (jl_kd l0).1 = 20) (hl1 : jl_n3 l1) (hl2 : jl_n3 l2) (hl3 : jl_n3 l3) (s0 : jl_Mm), j2 G jM_X12_checked 6 [(0, jl_vr G l0), (1, jl_vi l1), (2, jl_vi l2), (3, jl_vi l3)] [] s0 (jf_X12_checked_L6 n l0 l1 l2 l3 s0) := by
  intro n
  induction n with
  | zero =>
    intros
    exact jr_none
  | succ n ih =>
    intro l0 l1 l2 l3 hl0 hl1 hl2 hl3 s0
    refine jr_iload_n dX12_checked_6 3 rfl ?_
    refine jr_iload_n dX12_checked_7 1 rfl ?_
    refine jr_icmp_ge (t := 29) dX12_checked_8 (by decide) hl3 hl1 (fun c1 => ?_) (fun c1 => ?_)
    · refine jr_iload_n dX12_checked_29 2 rfl ?_
      exact jr_ret_i rfl hl2 dX12_checked_30
    · refine jr_iconst dX12_checked_11 ?_
      refine jr_iload_n dX12_checked_12 2 rfl ?_
      refine jr_imul dX12_checked_13 ?_
      refine jr_aload_n dX12_checked_14 0 rfl ?_
      refine jr_iload_n dX12_checked_15 3 rfl ?_
      refine jr_grd (fun g2 => ?_)
      refine jr_iaload (jl_kd1 hl0) (jl_kdlt hl0 (by decide)) hl3 g2 dX12_checked_16 ?_
      refine jr_iadd dX12_checked_17 ?_
      refine jr_sipush dX12_checked_18 (by decide) ?_
      refine jr_irem dX12_checked_21 (jl_nlit rfl) (by decide) ?_
      refine jr_let (jl_n3_to _) (fun x3 hx3 => ?_)
      refine jr_istore_n (lv := [(2, jl_vi x3), (0, jl_vr G l0), (1, jl_vi l1), (3, jl_vi l3)]) dX12_checked_22 rfl (Nat.le_of_ble_eq_true rfl) rfl ?_
      refine jr_iinc (j := 3) (lv := [(3, jl_vi (jl_add l3 1)), (2, jl_vi x3), (0, jl_vr G l0), (1, jl_vi l1)]) dX12_checked_23 rfl (Nat.le_of_ble_eq_true rfl) rfl ?_
      refine jr_goto (t := 6) dX12_checked_26 (by decide) ?_
      refine jr_sub [2, 3, 1, 0] rfl ?_
      exact ih l0 l1 x3 (jl_add l3 1) hl0 hl1 hx3 (jl_n3_to _) s0
def jf_X12_checked (q1 : Nat) (v2 : Int) (s0 : jl_Mm) : jl_O :=
  if (jl_kd q1).1 = 20 then jf_X12_checked_L6 jl_fu q1 v2 (167 : Int) (0 : Int) s0 else none
set_option maxRecDepth 20000 in
set_option maxHeartbeats 2000000 in
theorem jt_X12_checked (G : jl_GC) (q1 : Nat) (v2 : Int) (h2 : jl_n3 v2) (s0 : jl_Mm) : jC2 G jM_X12_checked [jl_vr G q1, jl_vi v2] s0 (jf_X12_checked q1 v2 s0) := by
  refine jl_met (plainFor_of_name rfl) (Nat.le_of_ble_eq_true rfl) ?_
  show j2 G jM_X12_checked 0 [(0, jl_vr G q1), (1, jl_vi v2)] [] s0 _
  refine jr_grd (fun gp1 => ?_)
  refine jr_sipush dX12_checked_0 (by decide) ?_
  refine jr_istore_n (lv := [(2, jl_vi (167 : Int)), (0, jl_vr G q1), (1, jl_vi v2)]) dX12_checked_3 rfl (Nat.le_of_ble_eq_true rfl) rfl ?_
  refine jr_iconst dX12_checked_4 ?_
  refine jr_istore_n (lv := [(3, jl_vi (0 : Int)), (2, jl_vi (167 : Int)), (0, jl_vr G q1), (1, jl_vi v2)]) dX12_checked_5 rfl (Nat.le_of_ble_eq_true rfl) rfl ?_
  refine jr_sub [2, 3, 1, 0] rfl ?_
  exact jj_X12_checked_L6 G jl_fu q1 v2 (167 : Int) (0 : Int) gp1 h2 (jl_nlit rfl) (jl_nlit rfl) s0
def jf_X12_writes (v1 : Int) (s0 : jl_Mm) : jl_O :=
  if 0 ≤ jl_g s0 206 110 ∧ jl_g s0 206 110 < ((27 : Nat) : Int) then jl_lm (jl_up s0 285 (jl_g s0 206 110).toNat v1) fun s2 => jl_lm (jl_up s2 206 110 (jl_add (jl_g s2 206 110) (1 : Int))) fun s3 => some (0, s3) else none
set_option maxRecDepth 20000 in
set_option maxHeartbeats 2000000 in
theorem jt_X12_writes (G : jl_GC) (v1 : Int) (h1 : jl_n3 v1) (s0 : jl_Mm) : jC2 G jM_X12_writes [jl_vr G 206, jl_vi v1] s0 (jf_X12_writes v1 s0) := by
  refine jl_met (plainFor_of_name rfl) (Nat.le_of_ble_eq_true rfl) ?_
  show j2 G jM_X12_writes 0 [(0, jl_vr G 206), (1, jl_vi v1)] [] s0 _
  refine jr_aload_n dX12_writes_0 0 rfl ?_
  refine jr_getk (i := 109) jc_12 jk_206 (by decide) (Nat.le_of_ble_eq_true rfl) jlk_206_109 jw_1314 dX12_writes_1 ?_
  refine jr_aload_n dX12_writes_4 0 rfl ?_
  refine jr_geti (i := 110) jc_12 jk_206 (by decide) (Nat.le_of_ble_eq_true rfl) jlk_206_110 jft_12_110 jw_1315 dX12_writes_5 ?_
  refine jr_iload_n dX12_writes_8 1 rfl ?_
  refine jr_grd (fun g1 => ?_)
  refine jr_iastore jk_285 (by decide) (jl_n3_to _) g1 dX12_writes_9 ?_
  refine jr_lm (fun s2 => ?_)
  refine jr_aload_n dX12_writes_10 0 rfl ?_
  refine jr_dup dX12_writes_11 rfl ?_
  refine jr_geti (i := 110) jc_12 jk_206 (by decide) (Nat.le_of_ble_eq_true rfl) jlk_206_110 jft_12_110 jw_1315 dX12_writes_12 ?_
  refine jr_iconst dX12_writes_15 ?_
  refine jr_iadd dX12_writes_16 ?_
  refine jr_puti (i := 110) jc_12 jk_206 (by decide) (Nat.le_of_ble_eq_true rfl) jlk_206_110 jft_12_110 rfl jw_1315 rfl dX12_writes_17 ?_
  refine jr_lm (fun s3 => ?_)
  exact jr_ret_v rfl dX12_writes_20
def jf_X12_writesTwo (v1 : Int) (s0 : jl_Mm) : jl_O :=
  jl_bd (jf_X12_writes (jl_div v1 (256 : Int)) s0) fun r1 s2 => jl_bd (jf_X12_writes (jl_rem v1 (256 : Int)) s2) fun r3 s4 => some (0, s4)
set_option maxRecDepth 20000 in
set_option maxHeartbeats 2000000 in
theorem jt_X12_writesTwo (G : jl_GC) (v1 : Int) (h1 : jl_n3 v1) (s0 : jl_Mm) : jC2 G jM_X12_writesTwo [jl_vr G 206, jl_vi v1] s0 (jf_X12_writesTwo v1 s0) := by
  refine jl_met (plainFor_of_name rfl) (Nat.le_of_ble_eq_true rfl) ?_
  show j2 G jM_X12_writesTwo 0 [(0, jl_vr G 206), (1, jl_vi v1)] [] s0 _
  refine jr_aload_n dX12_writesTwo_0 0 rfl ?_
  refine jr_iload_n dX12_writesTwo_1 1 rfl ?_
  refine jr_sipush dX12_writesTwo_2 (by decide) ?_
  refine jr_idiv dX12_writesTwo_5 (jl_nlit rfl) (by decide) ?_
  refine j2_callVv (As := [jl_vi (jl_div v1 (256 : Int))]) dX12_writesTwo_6 (jt_X12_writes G (jl_div v1 (256 : Int)) (jl_n3_to _) s0) jv_X12_writes ⟨rfl, rfl, rfl⟩ jw_2089 jk_206 (by decide) (by decide) rfl ⟨Nat.le_of_ble_eq_true rfl, Nat.le_of_ble_eq_true rfl⟩ rfl (Nat.le_of_ble_eq_true rfl) (fun r1 s2 hr1 => ?_)
  refine jr_aload_n dX12_writesTwo_9 0 rfl ?_
  refine jr_iload_n dX12_writesTwo_10 1 rfl ?_
  refine jr_sipush dX12_writesTwo_11 (by decide) ?_
  refine jr_irem dX12_writesTwo_14 (jl_nlit rfl) (by decide) ?_
  refine j2_callVv (As := [jl_vi (jl_rem v1 (256 : Int))]) dX12_writesTwo_15 (jt_X12_writes G (jl_rem v1 (256 : Int)) (jl_n3_to _) s2) jv_X12_writes ⟨rfl, rfl, rfl⟩ jw_2089 jk_206 (by decide) (by decide) rfl ⟨Nat.le_of_ble_eq_true rfl, Nat.le_of_ble_eq_true rfl⟩ rfl (Nat.le_of_ble_eq_true rfl) (fun r3 s4 hr3 => ?_)
  exact jr_ret_v rfl dX12_writesTwo_18
def jf_X12_twoAt (v1 : Int) (s0 : jl_Mm) : jl_O :=
  if 0 ≤ v1 ∧ v1 < ((1600 : Nat) : Int) then if 0 ≤ jl_add v1 (1 : Int) ∧ jl_add v1 (1 : Int) < ((1600 : Nat) : Int) then some (jl_add (jl_mul (256 : Int) (jl_g s0 207 (v1).toNat)) (jl_g s0 207 (jl_add v1 (1 : Int)).toNat), s0) else none else none
set_option maxRecDepth 20000 in
set_option maxHeartbeats 2000000 in
theorem jt_X12_twoAt (G : jl_GC) (v1 : Int) (h1 : jl_n3 v1) (s0 : jl_Mm) : jC2 G jM_X12_twoAt [jl_vr G 206, jl_vi v1] s0 (jf_X12_twoAt v1 s0) := by
  refine jl_met (plainFor_of_name rfl) (Nat.le_of_ble_eq_true rfl) ?_
  show j2 G jM_X12_twoAt 0 [(0, jl_vr G 206), (1, jl_vi v1)] [] s0 _
  refine jr_sipush dX12_twoAt_0 (by decide) ?_
  refine jr_aload_n dX12_twoAt_3 0 rfl ?_
  refine jr_getk (i := 0) jc_12 jk_206 (by decide) (Nat.le_of_ble_eq_true rfl) jlk_206_0 jw_1205 dX12_twoAt_4 ?_
  refine jr_iload_n dX12_twoAt_7 1 rfl ?_
  refine jr_grd (fun g1 => ?_)
  refine jr_iaload jk_207 (by decide) h1 g1 dX12_twoAt_8 ?_
  refine jr_imul dX12_twoAt_9 ?_
  refine jr_aload_n dX12_twoAt_10 0 rfl ?_
  refine jr_getk (i := 0) jc_12 jk_206 (by decide) (Nat.le_of_ble_eq_true rfl) jlk_206_0 jw_1205 dX12_twoAt_11 ?_
  refine jr_iload_n dX12_twoAt_14 1 rfl ?_
  refine jr_iconst dX12_twoAt_15 ?_
  refine jr_iadd dX12_twoAt_16 ?_
  refine jr_grd (fun g2 => ?_)
  refine jr_iaload jk_207 (by decide) (jl_n3_to _) g2 dX12_twoAt_17 ?_
  refine jr_iadd dX12_twoAt_18 ?_
  exact jr_ret_i rfl (jl_n3_to _) dX12_twoAt_19
def jf_X12_octet_B22 (k0 : Int) (s0 : jl_Mm) : jl_O :=
  some (k0, s0)
set_option maxRecDepth 20000 in
set_option maxHeartbeats 2000000 in
theorem jj_X12_octet_B22 (G : jl_GC) (k0 : Int) (hk0 : jl_n3 k0) (s0 : jl_Mm) : j2 G jM_X12_octet 22 [] [jl_vi k0] s0 (jf_X12_octet_B22 k0 s0) := by
  exact jr_ret_i rfl hk0 dX12_octet_22
def jf_X12_octet_B21 (s0 : jl_Mm) : jl_O :=
  jf_X12_octet_B22 (-1 : Int) s0
set_option maxRecDepth 20000 in
set_option maxHeartbeats 2000000 in
theorem jj_X12_octet_B21 (G : jl_GC) (s0 : jl_Mm) : j2 G jM_X12_octet 21 [] [] s0 (jf_X12_octet_B21 s0) := by
  refine jr_iconst dX12_octet_21 ?_
  exact jj_X12_octet_B22 G (-1 : Int) (jl_nlit rfl) s0
def jf_X12_octet (v1 : Int) (s0 : jl_Mm) : jl_O :=
  if v1 < (0 : Int) then (jf_X12_octet_B21 s0) else (if jl_g s0 206 110 ≤ v1 then (jf_X12_octet_B21 s0) else (if 0 ≤ v1 ∧ v1 < ((27 : Nat) : Int) then jf_X12_octet_B22 (jl_g s0 285 (v1).toNat) s0 else none))
set_option maxRecDepth 20000 in
set_option maxHeartbeats 2000000 in
theorem jt_X12_octet (G : jl_GC) (v1 : Int) (h1 : jl_n3 v1) (s0 : jl_Mm) : jC2 G jM_X12_octet [jl_vr G 206, jl_vi v1] s0 (jf_X12_octet v1 s0) := by
  refine jl_met (plainFor_of_name rfl) (Nat.le_of_ble_eq_true rfl) ?_
  show j2 G jM_X12_octet 0 [(0, jl_vr G 206), (1, jl_vi v1)] [] s0 _
  refine jr_iload_n dX12_octet_0 1 rfl ?_
  refine jr_if_lt (t := 21) dX12_octet_1 (by decide) h1 (fun c1 => ?_) (fun c1 => ?_)
  · refine jr_sub [] rfl ?_
    exact jj_X12_octet_B21 G s0
  · refine jr_iload_n dX12_octet_4 1 rfl ?_
    refine jr_aload_n dX12_octet_5 0 rfl ?_
    refine jr_geti (i := 110) jc_12 jk_206 (by decide) (Nat.le_of_ble_eq_true rfl) jlk_206_110 jft_12_110 jw_1315 dX12_octet_6 ?_
    refine jr_icmp_ge (t := 21) dX12_octet_9 (by decide) h1 (jl_n3_to _) (fun c2 => ?_) (fun c2 => ?_)
    · refine jr_sub [] rfl ?_
      exact jj_X12_octet_B21 G s0
    · refine jr_aload_n dX12_octet_12 0 rfl ?_
      refine jr_getk (i := 109) jc_12 jk_206 (by decide) (Nat.le_of_ble_eq_true rfl) jlk_206_109 jw_1314 dX12_octet_13 ?_
      refine jr_iload_n dX12_octet_16 1 rfl ?_
      refine jr_grd (fun g3 => ?_)
      refine jr_iaload jk_285 (by decide) h1 g3 dX12_octet_17 ?_
      refine jr_goto (t := 22) dX12_octet_18 (by decide) ?_
      refine jr_sub [] rfl ?_
      exact jj_X12_octet_B22 G (jl_g s0 285 (v1).toNat) (jl_n3_to _) s0
def jf_X12_status_B22 (k0 : Int) (s0 : jl_Mm) : jl_O :=
  some (k0, s0)
set_option maxRecDepth 20000 in
set_option maxHeartbeats 2000000 in
theorem jj_X12_status_B22 (G : jl_GC) (k0 : Int) (hk0 : jl_n3 k0) (s0 : jl_Mm) : j2 G jM_X12_status 22 [] [jl_vi k0] s0 (jf_X12_status_B22 k0 s0) := by
  exact jr_ret_i rfl hk0 dX12_status_22
def jf_X12_status (v1 : Int) (s0 : jl_Mm) : jl_O :=
  jl_bd (jf_X12_isIn v1 (0 : Int) (5 : Int) s0) fun r1 s2 => if r1 = (0 : Int) then (jf_X12_status_B22 (-1 : Int) s2) else (if 0 ≤ v1 ∧ v1 < ((6 : Nat) : Int) then jf_X12_status_B22 (jl_g s2 208 (v1).toNat) s2 else none)
set_option maxRecDepth 20000 in
set_option maxHeartbeats 2000000 in
theorem jt_X12_status (G : jl_GC) (v1 : Int) (h1 : jl_n3 v1) (s0 : jl_Mm) : jC2 G jM_X12_status [jl_vr G 206, jl_vi v1] s0 (jf_X12_status v1 s0) := by
  refine jl_met (plainFor_of_name rfl) (Nat.le_of_ble_eq_true rfl) ?_
  show j2 G jM_X12_status 0 [(0, jl_vr G 206), (1, jl_vi v1)] [] s0 _
  refine jr_iload_n dX12_status_0 1 rfl ?_
  refine jr_i2l dX12_status_1 h1 ?_
  refine jr_lconst (v := 0) dX12_status_2 (by decide) ?_
  refine jr_ldc2_w (v := 5) dX12_status_3 jw_1682 (by decide) ?_
  refine j2_callSz (As := [jl_vl v1, jl_vl (0 : Int), jl_vl (5 : Int)]) dX12_status_6 (jt_X12_isIn G v1 (0 : Int) (5 : Int) (jl_n36 h1) (jl_n6lit rfl) (jl_n6lit rfl) s0) jv_X12_isIn ⟨rfl, rfl, rfl⟩ jw_1588 ⟨Nat.le_of_ble_eq_true rfl, Nat.le_of_ble_eq_true rfl⟩ rfl (Nat.le_of_ble_eq_true rfl) (fun r1 s2 hr1 => ?_)
  refine jr_if_eq (t := 21) dX12_status_9 (by decide) (jl_nz hr1) (fun c3 => ?_) (fun c3 => ?_)
  · refine jr_iconst dX12_status_21 ?_
    refine jr_sub [] rfl ?_
    exact jj_X12_status_B22 G (-1 : Int) (jl_nlit rfl) s2
  · refine jr_aload_n dX12_status_12 0 rfl ?_
    refine jr_getk (i := 9) jc_12 jk_206 (by decide) (Nat.le_of_ble_eq_true rfl) jlk_206_9 jw_1214 dX12_status_13 ?_
    refine jr_iload_n dX12_status_16 1 rfl ?_
    refine jr_grd (fun g4 => ?_)
    refine jr_iaload jk_208 (by decide) h1 g4 dX12_status_17 ?_
    refine jr_goto (t := 22) dX12_status_18 (by decide) ?_
    refine jr_sub [] rfl ?_
    exact jj_X12_status_B22 G (jl_g s2 208 (v1).toNat) (jl_n3_to _) s2
def jf_X12_image_L55 : Nat → Int → jl_Mm → jl_O
  | 0, _, _ => none
  | n + 1, l1, s0 =>
    jl_bd (jf_X12_lieMany s0) fun r9 s10 => if r9 ≤ l1 then (jl_bd (jf_X12_checked 285 (jl_g s10 206 110) s10) fun r12 s13 => jl_bd (jf_X12_writes r12 s13) fun r14 s15 => some (jl_g s15 206 110, s15)) else (if 0 ≤ jl_add (8 : Int) l1 ∧ jl_add (8 : Int) l1 < ((105 : Nat) : Int) then jl_bd (jf_X12_writes (jl_g s10 249 (jl_add (8 : Int) l1).toNat) s10) fun r17 s18 => if 0 ≤ jl_add (16 : Int) l1 ∧ jl_add (16 : Int) l1 < ((105 : Nat) : Int) then jl_bd (jf_X12_writes (jl_g s18 249 (jl_add (16 : Int) l1).toNat) s18) fun r20 s21 => jf_X12_image_L55 n (jl_add l1 1) s21 else none else none)
set_option maxRecDepth 20000 in
set_option maxHeartbeats 2000000 in
theorem jj_X12_image_L55 (G : jl_GC) : ∀ (n : Nat) (l1 : Int) (hl1 : jl_n3 l1) (s0 : jl_Mm), j2 G jM_X12_image 55 [(0, jl_vr G 206), (1, jl_vi l1)] [] s0 (jf_X12_image_L55 n l1 s0) := by
  intro n
  induction n with
  | zero =>
    intros
    exact jr_none
  | succ n ih =>
    intro l1 hl1 s0
    refine jr_iload_n dX12_image_55 1 rfl ?_
    refine jr_aload_n dX12_image_56 0 rfl ?_
    refine j2_callVi (As := []) dX12_image_57 (jt_X12_lieMany G s0) jv_X12_lieMany ⟨rfl, rfl, rfl⟩ jw_1751 jk_206 (by decide) (by decide) rfl ⟨Nat.le_of_ble_eq_true rfl, Nat.le_of_ble_eq_true rfl⟩ rfl (Nat.le_of_ble_eq_true rfl) (fun r9 s10 hr9 => ?_)
    refine jr_icmp_ge (t := 95) dX12_image_60 (by decide) hl1 hr9 (fun c11 => ?_) (fun c11 => ?_)
    · refine jr_aload_n dX12_image_95 0 rfl ?_
      refine jr_aload_n dX12_image_96 0 rfl ?_
      refine jr_getk (i := 109) jc_12 jk_206 (by decide) (Nat.le_of_ble_eq_true rfl) jlk_206_109 jw_1314 dX12_image_97 ?_
      refine jr_aload_n dX12_image_100 0 rfl ?_
      refine jr_geti (i := 110) jc_12 jk_206 (by decide) (Nat.le_of_ble_eq_true rfl) jlk_206_110 jft_12_110 jw_1315 dX12_image_101 ?_
      refine j2_callSi (As := [jl_vr G 285, jl_vi (jl_g s10 206 110)]) dX12_image_104 (jt_X12_checked G 285 (jl_g s10 206 110) (jl_n3_to _) s10) jv_X12_checked ⟨rfl, rfl, rfl⟩ jw_2093 ⟨Nat.le_of_ble_eq_true rfl, Nat.le_of_ble_eq_true rfl⟩ rfl (Nat.le_of_ble_eq_true rfl) (fun r12 s13 hr12 => ?_)
      refine j2_callVv (As := [jl_vi r12]) dX12_image_107 (jt_X12_writes G r12 hr12 s13) jv_X12_writes ⟨rfl, rfl, rfl⟩ jw_2089 jk_206 (by decide) (by decide) rfl ⟨Nat.le_of_ble_eq_true rfl, Nat.le_of_ble_eq_true rfl⟩ rfl (Nat.le_of_ble_eq_true rfl) (fun r14 s15 hr14 => ?_)
      refine jr_aload_n dX12_image_110 0 rfl ?_
      refine jr_geti (i := 110) jc_12 jk_206 (by decide) (Nat.le_of_ble_eq_true rfl) jlk_206_110 jft_12_110 jw_1315 dX12_image_111 ?_
      exact jr_ret_i rfl (jl_n3_to _) dX12_image_114
    · refine jr_aload_n dX12_image_63 0 rfl ?_
      refine jr_aload_n dX12_image_64 0 rfl ?_
      refine jr_getk (i := 56) jc_12 jk_206 (by decide) (Nat.le_of_ble_eq_true rfl) jlk_206_56 jw_1261 dX12_image_65 ?_
      refine jr_bipush dX12_image_68 (by decide) ?_
      refine jr_iload_n dX12_image_70 1 rfl ?_
      refine jr_iadd dX12_image_71 ?_
      refine jr_grd (fun g16 => ?_)
      refine jr_iaload jk_249 (by decide) (jl_n3_to _) g16 dX12_image_72 ?_
      refine j2_callVv (As := [jl_vi (jl_g s10 249 (jl_add (8 : Int) l1).toNat)]) dX12_image_73 (jt_X12_writes G (jl_g s10 249 (jl_add (8 : Int) l1).toNat) (jl_n3_to _) s10) jv_X12_writes ⟨rfl, rfl, rfl⟩ jw_2089 jk_206 (by decide) (by decide) rfl ⟨Nat.le_of_ble_eq_true rfl, Nat.le_of_ble_eq_true rfl⟩ rfl (Nat.le_of_ble_eq_true rfl) (fun r17 s18 hr17 => ?_)
      refine jr_aload_n dX12_image_76 0 rfl ?_
      refine jr_aload_n dX12_image_77 0 rfl ?_
      refine jr_getk (i := 56) jc_12 jk_206 (by decide) (Nat.le_of_ble_eq_true rfl) jlk_206_56 jw_1261 dX12_image_78 ?_
      refine jr_bipush dX12_image_81 (by decide) ?_
      refine jr_iload_n dX12_image_83 1 rfl ?_
      refine jr_iadd dX12_image_84 ?_
      refine jr_grd (fun g19 => ?_)
      refine jr_iaload jk_249 (by decide) (jl_n3_to _) g19 dX12_image_85 ?_
      refine j2_callVv (As := [jl_vi (jl_g s18 249 (jl_add (16 : Int) l1).toNat)]) dX12_image_86 (jt_X12_writes G (jl_g s18 249 (jl_add (16 : Int) l1).toNat) (jl_n3_to _) s18) jv_X12_writes ⟨rfl, rfl, rfl⟩ jw_2089 jk_206 (by decide) (by decide) rfl ⟨Nat.le_of_ble_eq_true rfl, Nat.le_of_ble_eq_true rfl⟩ rfl (Nat.le_of_ble_eq_true rfl) (fun r20 s21 hr20 => ?_)
      refine jr_iinc (j := 1) (lv := [(1, jl_vi (jl_add l1 1)), (0, jl_vr G 206)]) dX12_image_89 rfl (Nat.le_of_ble_eq_true rfl) rfl ?_
      refine jr_goto (t := 55) dX12_image_92 (by decide) ?_
      refine jr_sub [1, 0] rfl ?_
      exact ih (jl_add l1 1) (jl_n3_to _) s21
def jf_X12_image_L27 : Nat → Int → jl_Mm → jl_O
  | 0, _, _ => none
  | n + 1, l1, s0 =>
    jl_bd (jf_X12_personMany s0) fun r6 s7 => if r6 ≤ l1 then (jf_X12_image_L55 jl_fu (0 : Int) s7) else (if 0 ≤ jl_add (2 : Int) l1 ∧ jl_add (2 : Int) l1 < ((105 : Nat) : Int) then jl_bd (jf_X12_writes (jl_g s7 249 (jl_add (2 : Int) l1).toNat) s7) fun r23 s24 => jf_X12_image_L27 n (jl_add l1 1) s24 else none)
set_option maxRecDepth 20000 in
set_option maxHeartbeats 2000000 in
theorem jj_X12_image_L27 (G : jl_GC) : ∀ (n : Nat) (l1 : Int) (hl1 : jl_n3 l1) (s0 : jl_Mm), j2 G jM_X12_image 27 [(0, jl_vr G 206), (1, jl_vi l1)] [] s0 (jf_X12_image_L27 n l1 s0) := by
  intro n
  induction n with
  | zero =>
    intros
    exact jr_none
  | succ n ih =>
    intro l1 hl1 s0
    refine jr_iload_n dX12_image_27 1 rfl ?_
    refine jr_aload_n dX12_image_28 0 rfl ?_
    refine j2_callVi (As := []) dX12_image_29 (jt_X12_personMany G s0) jv_X12_personMany ⟨rfl, rfl, rfl⟩ jw_1747 jk_206 (by decide) (by decide) rfl ⟨Nat.le_of_ble_eq_true rfl, Nat.le_of_ble_eq_true rfl⟩ rfl (Nat.le_of_ble_eq_true rfl) (fun r6 s7 hr6 => ?_)
    refine jr_icmp_ge (t := 53) dX12_image_32 (by decide) hl1 hr6 (fun c8 => ?_) (fun c8 => ?_)
    · refine jr_iconst dX12_image_53 ?_
      refine jr_istore_n (lv := [(1, jl_vi (0 : Int)), (0, jl_vr G 206)]) dX12_image_54 rfl (Nat.le_of_ble_eq_true rfl) rfl ?_
      refine jr_sub [1, 0] rfl ?_
      exact jj_X12_image_L55 G jl_fu (0 : Int) (jl_nlit rfl) s7
    · refine jr_aload_n dX12_image_35 0 rfl ?_
      refine jr_aload_n dX12_image_36 0 rfl ?_
      refine jr_getk (i := 56) jc_12 jk_206 (by decide) (Nat.le_of_ble_eq_true rfl) jlk_206_56 jw_1261 dX12_image_37 ?_
      refine jr_iconst dX12_image_40 ?_
      refine jr_iload_n dX12_image_41 1 rfl ?_
      refine jr_iadd dX12_image_42 ?_
      refine jr_grd (fun g22 => ?_)
      refine jr_iaload jk_249 (by decide) (jl_n3_to _) g22 dX12_image_43 ?_
      refine j2_callVv (As := [jl_vi (jl_g s7 249 (jl_add (2 : Int) l1).toNat)]) dX12_image_44 (jt_X12_writes G (jl_g s7 249 (jl_add (2 : Int) l1).toNat) (jl_n3_to _) s7) jv_X12_writes ⟨rfl, rfl, rfl⟩ jw_2089 jk_206 (by decide) (by decide) rfl ⟨Nat.le_of_ble_eq_true rfl, Nat.le_of_ble_eq_true rfl⟩ rfl (Nat.le_of_ble_eq_true rfl) (fun r23 s24 hr23 => ?_)
      refine jr_iinc (j := 1) (lv := [(1, jl_vi (jl_add l1 1)), (0, jl_vr G 206)]) dX12_image_47 rfl (Nat.le_of_ble_eq_true rfl) rfl ?_
      refine jr_goto (t := 27) dX12_image_50 (by decide) ?_
      refine jr_sub [1, 0] rfl ?_
      exact ih (jl_add l1 1) (jl_n3_to _) s24
def jf_X12_image (s0 : jl_Mm) : jl_O :=
  jl_lm (jl_up s0 206 110 (0 : Int)) fun s1 => jl_bd (jf_X12_writesTwo (jl_g s1 249 (((0 : Int) : Int).toNat)) s1) fun r2 s3 => jl_bd (jf_X12_writesTwo (jl_g s3 249 (((1 : Int) : Int).toNat)) s3) fun r4 s5 => jf_X12_image_L27 jl_fu (0 : Int) s5
set_option maxRecDepth 20000 in
set_option maxHeartbeats 2000000 in
theorem jt_X12_image (G : jl_GC) (s0 : jl_Mm) : jC2 G jM_X12_image [jl_vr G 206] s0 (jf_X12_image s0) := by
  refine jl_met (plainFor_of_name rfl) (Nat.le_of_ble_eq_true rfl) ?_
  show j2 G jM_X12_image 0 [(0, jl_vr G 206)] [] s0 _
  refine jr_aload_n dX12_image_0 0 rfl ?_
  refine jr_iconst dX12_image_1 ?_
  refine jr_puti (i := 110) jc_12 jk_206 (by decide) (Nat.le_of_ble_eq_true rfl) jlk_206_110 jft_12_110 rfl jw_1315 rfl dX12_image_2 ?_
  refine jr_lm (fun s1 => ?_)
  refine jr_aload_n dX12_image_5 0 rfl ?_
  refine jr_aload_n dX12_image_6 0 rfl ?_
  refine jr_getk (i := 56) jc_12 jk_206 (by decide) (Nat.le_of_ble_eq_true rfl) jlk_206_56 jw_1261 dX12_image_7 ?_
  refine jr_iconst dX12_image_10 ?_
  refine jr_iaload jk_249 (by decide) (jl_nlit rfl) ⟨by decide, by decide⟩ dX12_image_11 ?_
  refine j2_callVv (As := [jl_vi (jl_g s1 249 (((0 : Int) : Int).toNat))]) dX12_image_12 (jt_X12_writesTwo G (jl_g s1 249 (((0 : Int) : Int).toNat)) (jl_n3_to _) s1) jv_X12_writesTwo ⟨rfl, rfl, rfl⟩ jw_2085 jk_206 (by decide) (by decide) rfl ⟨Nat.le_of_ble_eq_true rfl, Nat.le_of_ble_eq_true rfl⟩ rfl (Nat.le_of_ble_eq_true rfl) (fun r2 s3 hr2 => ?_)
  refine jr_aload_n dX12_image_15 0 rfl ?_
  refine jr_aload_n dX12_image_16 0 rfl ?_
  refine jr_getk (i := 56) jc_12 jk_206 (by decide) (Nat.le_of_ble_eq_true rfl) jlk_206_56 jw_1261 dX12_image_17 ?_
  refine jr_iconst dX12_image_20 ?_
  refine jr_iaload jk_249 (by decide) (jl_nlit rfl) ⟨by decide, by decide⟩ dX12_image_21 ?_
  refine j2_callVv (As := [jl_vi (jl_g s3 249 (((1 : Int) : Int).toNat))]) dX12_image_22 (jt_X12_writesTwo G (jl_g s3 249 (((1 : Int) : Int).toNat)) (jl_n3_to _) s3) jv_X12_writesTwo ⟨rfl, rfl, rfl⟩ jw_2085 jk_206 (by decide) (by decide) rfl ⟨Nat.le_of_ble_eq_true rfl, Nat.le_of_ble_eq_true rfl⟩ rfl (Nat.le_of_ble_eq_true rfl) (fun r4 s5 hr4 => ?_)
  refine jr_iconst dX12_image_25 ?_
  refine jr_istore_n (lv := [(1, jl_vi (0 : Int)), (0, jl_vr G 206)]) dX12_image_26 rfl (Nat.le_of_ble_eq_true rfl) rfl ?_
  refine jr_sub [1, 0] rfl ?_
  exact jj_X12_image_L27 G jl_fu (0 : Int) (jl_nlit rfl) s5
def jf_X12_isImage_B71 (s0 : jl_Mm) : jl_O :=
  jl_zb (0 : Int) s0
set_option maxRecDepth 20000 in
set_option maxHeartbeats 2000000 in
theorem jj_X12_isImage_B71 (G : jl_GC) (s0 : jl_Mm) : j2 G jM_X12_isImage 71 [] [] s0 (jf_X12_isImage_B71 s0) := by
  refine jr_iconst dX12_isImage_71 ?_
  exact jr_ret_z rfl dX12_isImage_72
def jf_X12_isImage_B148 (s0 : jl_Mm) : jl_O :=
  jl_zb (0 : Int) s0
set_option maxRecDepth 20000 in
set_option maxHeartbeats 2000000 in
theorem jj_X12_isImage_B148 (G : jl_GC) (s0 : jl_Mm) : j2 G jM_X12_isImage 148 [] [] s0 (jf_X12_isImage_B148 s0) := by
  refine jr_iconst dX12_isImage_148 ?_
  exact jr_ret_z rfl dX12_isImage_149
def jf_X12_isImage_B145 (R104 : Int → Int → jl_Mm → jl_O) (l1 : Int) (l3 : Int) (k0 : Int) (k1 : Int) (s0 : jl_Mm) : jl_O :=
  if k0 ≤ k1 then (R104 l1 (jl_add l3 2) s0) else (jf_X12_isImage_B148 s0)
set_option maxRecDepth 20000 in
set_option maxHeartbeats 2000000 in
theorem jj_X12_isImage_B145 (G : jl_GC) (R104 : Int → Int → jl_Mm → jl_O) (hR104 : ∀ (l1 : Int) (l3 : Int) (_hl1 : jl_n3 l1) (_hl3 : jl_n3 l3) (s0 : jl_Mm), j2 G jM_X12_isImage 104 [(0, jl_vr G 206), (1, jl_vi l1), (3, jl_vi l3)] [] s0 (R104 l1 l3 s0)) (l1 : Int) (l3 : Int) (k0 : Int) (k1 : Int) (hl1 : jl_n3 l1) (hl3 : jl_n3 l3) (hk0 : jl_n3 k0) (hk1 : jl_n3 k1) (s0 : jl_Mm) : j2 G jM_X12_isImage 145 [(0, jl_vr G 206), (1, jl_vi l1), (3, jl_vi l3)] [jl_vi k1, jl_vi k0] s0 (jf_X12_isImage_B145 R104 l1 l3 k0 k1 s0) := by
  refine jr_icmp_le (t := 150) dX12_isImage_145 (by decide) hk0 hk1 (fun c25 => ?_) (fun c25 => ?_)
  · refine jr_iinc (j := 2) (lv := [(3, jl_vi (jl_add l3 2)), (0, jl_vr G 206), (1, jl_vi l1)]) dX12_isImage_150 rfl (Nat.le_of_ble_eq_true rfl) rfl ?_
    refine jr_goto (t := 104) dX12_isImage_153 (by decide) ?_
    refine jr_sub [1, 2, 0] rfl ?_
    exact hR104 l1 (jl_add l3 2) hl1 (jl_n3_to _) s0
  · refine jr_sub [] rfl ?_
    exact jj_X12_isImage_B148 G s0
def jf_X12_isImage_L104 : Nat → Int → Int → jl_Mm → jl_O
  | 0, _, _, _ => none
  | n + 1, l1, l3, s0 =>
    if jl_sub l1 (1 : Int) ≤ l3 then (jl_zb (1 : Int) s0) else (if 0 ≤ l3 ∧ l3 < ((1600 : Nat) : Int) then if (99 : Int) < jl_g s0 207 (l3).toNat then (jf_X12_isImage_B148 s0) else (if 0 ≤ jl_add l3 (1 : Int) ∧ jl_add l3 (1 : Int) < ((1600 : Nat) : Int) then if 0 ≤ l3 ∧ l3 < ((1600 : Nat) : Int) then if jl_g s0 207 (l3).toNat ≤ (0 : Int) then (jf_X12_isImage_B145 (jf_X12_isImage_L104 n) l1 l3 (jl_g s0 207 (jl_add l3 (1 : Int)).toNat) (0 : Int) s0) else (jf_X12_isImage_B145 (jf_X12_isImage_L104 n) l1 l3 (jl_g s0 207 (jl_add l3 (1 : Int)).toNat) (99 : Int) s0) else none else none) else none)
set_option maxRecDepth 20000 in
set_option maxHeartbeats 2000000 in
theorem jj_X12_isImage_L104 (G : jl_GC) : ∀ (n : Nat) (l1 : Int) (l3 : Int) (hl1 : jl_n3 l1) (hl3 : jl_n3 l3) (s0 : jl_Mm), j2 G jM_X12_isImage 104 [(0, jl_vr G 206), (1, jl_vi l1), (3, jl_vi l3)] [] s0 (jf_X12_isImage_L104 n l1 l3 s0) := by
  intro n
  induction n with
  | zero =>
    intros
    exact jr_none
  | succ n ih =>
    intro l1 l3 hl1 hl3 s0
    refine jr_iload_n dX12_isImage_104 2 rfl ?_
    refine jr_iload_n dX12_isImage_105 1 rfl ?_
    refine jr_iconst dX12_isImage_106 ?_
    refine jr_isub dX12_isImage_107 ?_
    refine jr_icmp_ge (t := 156) dX12_isImage_108 (by decide) hl3 (jl_n3_to _) (fun c19 => ?_) (fun c19 => ?_)
    · refine jr_iconst dX12_isImage_156 ?_
      exact jr_ret_z rfl dX12_isImage_157
    · refine jr_aload_n dX12_isImage_111 0 rfl ?_
      refine jr_getk (i := 0) jc_12 jk_206 (by decide) (Nat.le_of_ble_eq_true rfl) jlk_206_0 jw_1205 dX12_isImage_112 ?_
      refine jr_iload_n dX12_isImage_115 2 rfl ?_
      refine jr_grd (fun g20 => ?_)
      refine jr_iaload jk_207 (by decide) hl3 g20 dX12_isImage_116 ?_
      refine jr_bipush dX12_isImage_117 (by decide) ?_
      refine jr_icmp_gt (t := 148) dX12_isImage_119 (by decide) (jl_n3_to _) (jl_nlit rfl) (fun c21 => ?_) (fun c21 => ?_)
      · refine jr_sub [] rfl ?_
        exact jj_X12_isImage_B148 G s0
      · refine jr_aload_n dX12_isImage_122 0 rfl ?_
        refine jr_getk (i := 0) jc_12 jk_206 (by decide) (Nat.le_of_ble_eq_true rfl) jlk_206_0 jw_1205 dX12_isImage_123 ?_
        refine jr_iload_n dX12_isImage_126 2 rfl ?_
        refine jr_iconst dX12_isImage_127 ?_
        refine jr_iadd dX12_isImage_128 ?_
        refine jr_grd (fun g22 => ?_)
        refine jr_iaload jk_207 (by decide) (jl_n3_to _) g22 dX12_isImage_129 ?_
        refine jr_aload_n dX12_isImage_130 0 rfl ?_
        refine jr_getk (i := 0) jc_12 jk_206 (by decide) (Nat.le_of_ble_eq_true rfl) jlk_206_0 jw_1205 dX12_isImage_131 ?_
        refine jr_iload_n dX12_isImage_134 2 rfl ?_
        refine jr_grd (fun g23 => ?_)
        refine jr_iaload jk_207 (by decide) hl3 g23 dX12_isImage_135 ?_
        refine jr_if_le (t := 144) dX12_isImage_136 (by decide) (jl_n3_to _) (fun c24 => ?_) (fun c24 => ?_)
        · refine jr_iconst dX12_isImage_144 ?_
          exact jj_X12_isImage_B145 G (jf_X12_isImage_L104 n) (ih) l1 l3 (jl_g s0 207 (jl_add l3 (1 : Int)).toNat) (0 : Int) hl1 hl3 (jl_n3_to _) (jl_nlit rfl) s0
        · refine jr_bipush dX12_isImage_139 (by decide) ?_
          refine jr_goto (t := 145) dX12_isImage_141 (by decide) ?_
          exact jj_X12_isImage_B145 G (jf_X12_isImage_L104 n) (ih) l1 l3 (jl_g s0 207 (jl_add l3 (1 : Int)).toNat) (99 : Int) hl1 hl3 (jl_n3_to _) (jl_nlit rfl) s0
def jf_X12_isImage_L75 : Nat → Int → Int → Int → jl_Mm → jl_O
  | 0, _, _, _, _ => none
  | n + 1, l1, l2, l3, s0 =>
    if l2 ≤ l3 then (jf_X12_isImage_L104 jl_fu l1 l2 s0) else (if 0 ≤ l3 ∧ l3 < ((1600 : Nat) : Int) then jl_bd (jf_X12_isWindow (jl_g s0 207 (l3).toNat) s0) fun r27 s28 => if r27 = (0 : Int) then (jl_zb (0 : Int) s28) else (jf_X12_isImage_L75 n l1 l2 (jl_add l3 1) s28) else none)
set_option maxRecDepth 20000 in
set_option maxHeartbeats 2000000 in
theorem jj_X12_isImage_L75 (G : jl_GC) : ∀ (n : Nat) (l1 : Int) (l2 : Int) (l3 : Int) (hl1 : jl_n3 l1) (hl2 : jl_n3 l2) (hl3 : jl_n3 l3) (s0 : jl_Mm), j2 G jM_X12_isImage 75 [(0, jl_vr G 206), (1, jl_vi l1), (2, jl_vi l2), (3, jl_vi l3)] [] s0 (jf_X12_isImage_L75 n l1 l2 l3 s0) := by
  intro n
  induction n with
  | zero =>
    intros
    exact jr_none
  | succ n ih =>
    intro l1 l2 l3 hl1 hl2 hl3 s0
    refine jr_iload_n dX12_isImage_75 3 rfl ?_
    refine jr_iload_n dX12_isImage_76 2 rfl ?_
    refine jr_icmp_ge (t := 102) dX12_isImage_77 (by decide) hl3 hl2 (fun c18 => ?_) (fun c18 => ?_)
    · refine jr_iload_n dX12_isImage_102 2 rfl ?_
      refine jr_istore_n (lv := [(3, jl_vi l2), (0, jl_vr G 206), (1, jl_vi l1), (2, jl_vi l2)]) dX12_isImage_103 rfl (Nat.le_of_ble_eq_true rfl) rfl ?_
      refine jr_sub [1, 2, 0] rfl ?_
      exact jj_X12_isImage_L104 G jl_fu l1 l2 hl1 hl2 s0
    · refine jr_aload_n dX12_isImage_80 0 rfl ?_
      refine jr_aload_n dX12_isImage_81 0 rfl ?_
      refine jr_getk (i := 0) jc_12 jk_206 (by decide) (Nat.le_of_ble_eq_true rfl) jlk_206_0 jw_1205 dX12_isImage_82 ?_
      refine jr_iload_n dX12_isImage_85 3 rfl ?_
      refine jr_grd (fun g26 => ?_)
      refine jr_iaload jk_207 (by decide) hl3 g26 dX12_isImage_86 ?_
      refine jr_i2l dX12_isImage_87 (jl_n3_to _) ?_
      refine j2_callVz (As := [jl_vl (jl_g s0 207 (l3).toNat)]) dX12_isImage_88 (jt_X12_isWindow G (jl_g s0 207 (l3).toNat) (jl_n36 (jl_n3_to _)) s0) jv_X12_isWindow ⟨rfl, rfl, rfl⟩ jw_1866 jk_206 (by decide) (by decide) rfl ⟨Nat.le_of_ble_eq_true rfl, Nat.le_of_ble_eq_true rfl⟩ rfl (Nat.le_of_ble_eq_true rfl) (fun r27 s28 hr27 => ?_)
      refine jr_if_ne (t := 96) dX12_isImage_91 (by decide) (jl_nz hr27) (fun c29 => ?_) (fun c29 => ?_)
      · refine jr_iconst dX12_isImage_94 ?_
        exact jr_ret_z rfl dX12_isImage_95
      · refine jr_iinc (j := 3) (lv := [(3, jl_vi (jl_add l3 1)), (0, jl_vr G 206), (1, jl_vi l1), (2, jl_vi l2)]) dX12_isImage_96 rfl (Nat.le_of_ble_eq_true rfl) rfl ?_
        refine jr_goto (t := 75) dX12_isImage_99 (by decide) ?_
        refine jr_sub [1, 2, 3, 0] rfl ?_
        exact ih l1 l2 (jl_add l3 1) hl1 hl2 (jl_n3_to _) s28
def jf_X12_isImage (v1 : Int) (s0 : jl_Mm) : jl_O :=
  jl_bd (jf_X12_personMany s0) fun r1 s2 => jl_let (jl_add (4 : Int) r1) fun x3 => if jl_g s2 206 54 = (0 : Int) then (jf_X12_isImage_B71 s2) else (jl_bd (jf_X12_lieMany s2) fun r5 s6 => if v1 = jl_add (jl_add x3 (jl_mul (2 : Int) r5)) (1 : Int) then (if 0 ≤ jl_sub v1 (1 : Int) ∧ jl_sub v1 (1 : Int) < ((1600 : Nat) : Int) then jl_bd (jf_X12_checked 207 (jl_sub v1 (1 : Int)) s6) fun r9 s10 => if jl_g s6 207 (jl_sub v1 (1 : Int)).toNat = r9 then (jl_bd (jf_X12_twoAt (0 : Int) s10) fun r12 s13 => if (999 : Int) < r12 then (jf_X12_isImage_B71 s13) else (jl_bd (jf_X12_twoAt (2 : Int) s13) fun r15 s16 => if r15 ≤ (999 : Int) then (jf_X12_isImage_L75 jl_fu v1 x3 (4 : Int) s16) else (jf_X12_isImage_B71 s16))) else (jf_X12_isImage_B71 s10) else none) else (jf_X12_isImage_B71 s6))
set_option maxRecDepth 20000 in
set_option maxHeartbeats 2000000 in
theorem jt_X12_isImage (G : jl_GC) (v1 : Int) (h1 : jl_n3 v1) (s0 : jl_Mm) : jC2 G jM_X12_isImage [jl_vr G 206, jl_vi v1] s0 (jf_X12_isImage v1 s0) := by
  refine jl_met (plainFor_of_name rfl) (Nat.le_of_ble_eq_true rfl) ?_
  show j2 G jM_X12_isImage 0 [(0, jl_vr G 206), (1, jl_vi v1)] [] s0 _
  refine jr_iconst dX12_isImage_0 ?_
  refine jr_aload_n dX12_isImage_1 0 rfl ?_
  refine j2_callVi (As := []) dX12_isImage_2 (jt_X12_personMany G s0) jv_X12_personMany ⟨rfl, rfl, rfl⟩ jw_1747 jk_206 (by decide) (by decide) rfl ⟨Nat.le_of_ble_eq_true rfl, Nat.le_of_ble_eq_true rfl⟩ rfl (Nat.le_of_ble_eq_true rfl) (fun r1 s2 hr1 => ?_)
  refine jr_iadd dX12_isImage_5 ?_
  refine jr_let (jl_n3_to _) (fun x3 hx3 => ?_)
  refine jr_istore_n (lv := [(2, jl_vi x3), (0, jl_vr G 206), (1, jl_vi v1)]) dX12_isImage_6 rfl (Nat.le_of_ble_eq_true rfl) rfl ?_
  refine jr_aload_n dX12_isImage_7 1 rfl ?_
  refine jr_geti (i := 54) jc_12 jk_206 (by decide) (Nat.le_of_ble_eq_true rfl) jlk_206_54 jft_12_54 jw_1259 dX12_isImage_8 ?_
  refine jr_if_eq (t := 71) dX12_isImage_11 (by decide) (jl_n3_to _) (fun c4 => ?_) (fun c4 => ?_)
  · refine jr_sub [] rfl ?_
    exact jj_X12_isImage_B71 G s2
  · refine jr_iload_n dX12_isImage_14 2 rfl ?_
    refine jr_iload_n dX12_isImage_15 0 rfl ?_
    refine jr_iconst dX12_isImage_16 ?_
    refine jr_aload_n dX12_isImage_17 1 rfl ?_
    refine j2_callVi (As := []) dX12_isImage_18 (jt_X12_lieMany G s2) jv_X12_lieMany ⟨rfl, rfl, rfl⟩ jw_1751 jk_206 (by decide) (by decide) rfl ⟨Nat.le_of_ble_eq_true rfl, Nat.le_of_ble_eq_true rfl⟩ rfl (Nat.le_of_ble_eq_true rfl) (fun r5 s6 hr5 => ?_)
    refine jr_imul dX12_isImage_21 ?_
    refine jr_iadd dX12_isImage_22 ?_
    refine jr_iconst dX12_isImage_23 ?_
    refine jr_iadd dX12_isImage_24 ?_
    refine jr_icmp_ne (t := 71) dX12_isImage_25 (by decide) h1 (jl_n3_to _) (fun c7 => ?_) (fun c7 => ?_)
    · refine jr_aload_n dX12_isImage_28 1 rfl ?_
      refine jr_getk (i := 0) jc_12 jk_206 (by decide) (Nat.le_of_ble_eq_true rfl) jlk_206_0 jw_1205 dX12_isImage_29 ?_
      refine jr_iload_n dX12_isImage_32 2 rfl ?_
      refine jr_iconst dX12_isImage_33 ?_
      refine jr_isub dX12_isImage_34 ?_
      refine jr_grd (fun g8 => ?_)
      refine jr_iaload jk_207 (by decide) (jl_n3_to _) g8 dX12_isImage_35 ?_
      refine jr_aload_n dX12_isImage_36 1 rfl ?_
      refine jr_getk (i := 0) jc_12 jk_206 (by decide) (Nat.le_of_ble_eq_true rfl) jlk_206_0 jw_1205 dX12_isImage_37 ?_
      refine jr_iload_n dX12_isImage_40 2 rfl ?_
      refine jr_iconst dX12_isImage_41 ?_
      refine jr_isub dX12_isImage_42 ?_
      refine j2_callSi (As := [jl_vr G 207, jl_vi (jl_sub v1 (1 : Int))]) dX12_isImage_43 (jt_X12_checked G 207 (jl_sub v1 (1 : Int)) (jl_n3_to _) s6) jv_X12_checked ⟨rfl, rfl, rfl⟩ jw_2093 ⟨Nat.le_of_ble_eq_true rfl, Nat.le_of_ble_eq_true rfl⟩ rfl (Nat.le_of_ble_eq_true rfl) (fun r9 s10 hr9 => ?_)
      refine jr_icmp_ne (t := 71) dX12_isImage_46 (by decide) (jl_n3_to _) hr9 (fun c11 => ?_) (fun c11 => ?_)
      · refine jr_aload_n dX12_isImage_49 1 rfl ?_
        refine jr_iconst dX12_isImage_50 ?_
        refine j2_callVi (As := [jl_vi (0 : Int)]) dX12_isImage_51 (jt_X12_twoAt G (0 : Int) (jl_nlit rfl) s10) jv_X12_twoAt ⟨rfl, rfl, rfl⟩ jw_2104 jk_206 (by decide) (by decide) rfl ⟨Nat.le_of_ble_eq_true rfl, Nat.le_of_ble_eq_true rfl⟩ rfl (Nat.le_of_ble_eq_true rfl) (fun r12 s13 hr12 => ?_)
        refine jr_sipush dX12_isImage_54 (by decide) ?_
        refine jr_icmp_gt (t := 71) dX12_isImage_57 (by decide) hr12 (jl_nlit rfl) (fun c14 => ?_) (fun c14 => ?_)
        · refine jr_sub [] rfl ?_
          exact jj_X12_isImage_B71 G s13
        · refine jr_aload_n dX12_isImage_60 1 rfl ?_
          refine jr_iconst dX12_isImage_61 ?_
          refine j2_callVi (As := [jl_vi (2 : Int)]) dX12_isImage_62 (jt_X12_twoAt G (2 : Int) (jl_nlit rfl) s13) jv_X12_twoAt ⟨rfl, rfl, rfl⟩ jw_2104 jk_206 (by decide) (by decide) rfl ⟨Nat.le_of_ble_eq_true rfl, Nat.le_of_ble_eq_true rfl⟩ rfl (Nat.le_of_ble_eq_true rfl) (fun r15 s16 hr15 => ?_)
          refine jr_sipush dX12_isImage_65 (by decide) ?_
          refine jr_icmp_le (t := 73) dX12_isImage_68 (by decide) hr15 (jl_nlit rfl) (fun c17 => ?_) (fun c17 => ?_)
          · refine jr_iconst dX12_isImage_73 ?_
            refine jr_istore_n (lv := [(3, jl_vi (4 : Int)), (2, jl_vi x3), (0, jl_vr G 206), (1, jl_vi v1)]) dX12_isImage_74 rfl (Nat.le_of_ble_eq_true rfl) rfl ?_
            refine jr_sub [2, 3, 1, 0] rfl ?_
            exact jj_X12_isImage_L75 G jl_fu v1 x3 (4 : Int) h1 hx3 (jl_nlit rfl) s16
          · refine jr_sub [] rfl ?_
            exact jj_X12_isImage_B71 G s16
      · refine jr_sub [] rfl ?_
        exact jj_X12_isImage_B71 G s10
    · refine jr_sub [] rfl ?_
      exact jj_X12_isImage_B71 G s6
def jf_X12_on_L87 : Nat → Int → Int → jl_Mm → jl_O
  | 0, _, _, _ => none
  | n + 1, l2, l3, s0 =>
    jl_bd (jf_X12_lieMany s0) fun r18 s19 => if r18 ≤ l3 then (jl_lm (jl_up s19 249 (((24 : Int) : Int).toNat) (0 : Int)) fun s21 => jl_lm (jl_up s21 206 72 (0 : Int)) fun s22 => jl_zb (1 : Int) s22) else (if 0 ≤ jl_add l2 (jl_mul (2 : Int) l3) ∧ jl_add l2 (jl_mul (2 : Int) l3) < ((1600 : Nat) : Int) then if 0 ≤ jl_add (8 : Int) l3 ∧ jl_add (8 : Int) l3 < ((105 : Nat) : Int) then jl_lm (jl_up s19 249 (jl_add (8 : Int) l3).toNat (jl_g s19 207 (jl_add l2 (jl_mul (2 : Int) l3)).toNat)) fun s25 => if 0 ≤ jl_add (jl_add l2 (jl_mul (2 : Int) l3)) (1 : Int) ∧ jl_add (jl_add l2 (jl_mul (2 : Int) l3)) (1 : Int) < ((1600 : Nat) : Int) then if 0 ≤ jl_add (16 : Int) l3 ∧ jl_add (16 : Int) l3 < ((105 : Nat) : Int) then jl_lm (jl_up s25 249 (jl_add (16 : Int) l3).toNat (jl_g s25 207 (jl_add (jl_add l2 (jl_mul (2 : Int) l3)) (1 : Int)).toNat)) fun s28 => jf_X12_on_L87 n l2 (jl_add l3 1) s28 else none else none else none else none)
set_option maxRecDepth 20000 in
set_option maxHeartbeats 2000000 in
theorem jj_X12_on_L87 (G : jl_GC) : ∀ (n : Nat) (l2 : Int) (l3 : Int) (hl2 : jl_n3 l2) (hl3 : jl_n3 l3) (s0 : jl_Mm), j2 G jM_X12_on 87 [(0, jl_vr G 206), (2, jl_vi l2), (3, jl_vi l3)] [] s0 (jf_X12_on_L87 n l2 l3 s0) := by
  intro n
  induction n with
  | zero =>
    intros
    exact jr_none
  | succ n ih =>
    intro l2 l3 hl2 hl3 s0
    refine jr_iload_n dX12_on_87 2 rfl ?_
    refine jr_aload_n dX12_on_88 0 rfl ?_
    refine j2_callVi (As := []) dX12_on_89 (jt_X12_lieMany G s0) jv_X12_lieMany ⟨rfl, rfl, rfl⟩ jw_1751 jk_206 (by decide) (by decide) rfl ⟨Nat.le_of_ble_eq_true rfl, Nat.le_of_ble_eq_true rfl⟩ rfl (Nat.le_of_ble_eq_true rfl) (fun r18 s19 hr18 => ?_)
    refine jr_icmp_ge (t := 141) dX12_on_92 (by decide) hl3 hr18 (fun c20 => ?_) (fun c20 => ?_)
    · refine jr_aload_n dX12_on_141 0 rfl ?_
      refine jr_getk (i := 56) jc_12 jk_206 (by decide) (Nat.le_of_ble_eq_true rfl) jlk_206_56 jw_1261 dX12_on_142 ?_
      refine jr_bipush dX12_on_145 (by decide) ?_
      refine jr_iconst dX12_on_147 ?_
      refine jr_iastore jk_249 (by decide) (jl_nlit rfl) ⟨by decide, by decide⟩ dX12_on_148 ?_
      refine jr_lm (fun s21 => ?_)
      refine jr_aload_n dX12_on_149 0 rfl ?_
      refine jr_iconst dX12_on_150 ?_
      refine jr_puti (i := 72) jc_12 jk_206 (by decide) (Nat.le_of_ble_eq_true rfl) jlk_206_72 jft_12_72 rfl jw_1277 rfl dX12_on_151 ?_
      refine jr_lm (fun s22 => ?_)
      refine jr_iconst dX12_on_154 ?_
      exact jr_ret_z rfl dX12_on_155
    · refine jr_aload_n dX12_on_95 0 rfl ?_
      refine jr_getk (i := 56) jc_12 jk_206 (by decide) (Nat.le_of_ble_eq_true rfl) jlk_206_56 jw_1261 dX12_on_96 ?_
      refine jr_bipush dX12_on_99 (by decide) ?_
      refine jr_iload_n dX12_on_101 2 rfl ?_
      refine jr_iadd dX12_on_102 ?_
      refine jr_aload_n dX12_on_103 0 rfl ?_
      refine jr_getk (i := 0) jc_12 jk_206 (by decide) (Nat.le_of_ble_eq_true rfl) jlk_206_0 jw_1205 dX12_on_104 ?_
      refine jr_iload_n dX12_on_107 1 rfl ?_
      refine jr_iconst dX12_on_108 ?_
      refine jr_iload_n dX12_on_109 2 rfl ?_
      refine jr_imul dX12_on_110 ?_
      refine jr_iadd dX12_on_111 ?_
      refine jr_grd (fun g23 => ?_)
      refine jr_iaload jk_207 (by decide) (jl_n3_to _) g23 dX12_on_112 ?_
      refine jr_grd (fun g24 => ?_)
      refine jr_iastore jk_249 (by decide) (jl_n3_to _) g24 dX12_on_113 ?_
      refine jr_lm (fun s25 => ?_)
      refine jr_aload_n dX12_on_114 0 rfl ?_
      refine jr_getk (i := 56) jc_12 jk_206 (by decide) (Nat.le_of_ble_eq_true rfl) jlk_206_56 jw_1261 dX12_on_115 ?_
      refine jr_bipush dX12_on_118 (by decide) ?_
      refine jr_iload_n dX12_on_120 2 rfl ?_
      refine jr_iadd dX12_on_121 ?_
      refine jr_aload_n dX12_on_122 0 rfl ?_
      refine jr_getk (i := 0) jc_12 jk_206 (by decide) (Nat.le_of_ble_eq_true rfl) jlk_206_0 jw_1205 dX12_on_123 ?_
      refine jr_iload_n dX12_on_126 1 rfl ?_
      refine jr_iconst dX12_on_127 ?_
      refine jr_iload_n dX12_on_128 2 rfl ?_
      refine jr_imul dX12_on_129 ?_
      refine jr_iadd dX12_on_130 ?_
      refine jr_iconst dX12_on_131 ?_
      refine jr_iadd dX12_on_132 ?_
      refine jr_grd (fun g26 => ?_)
      refine jr_iaload jk_207 (by decide) (jl_n3_to _) g26 dX12_on_133 ?_
      refine jr_grd (fun g27 => ?_)
      refine jr_iastore jk_249 (by decide) (jl_n3_to _) g27 dX12_on_134 ?_
      refine jr_lm (fun s28 => ?_)
      refine jr_iinc (j := 2) (lv := [(3, jl_vi (jl_add l3 1)), (0, jl_vr G 206), (2, jl_vi l2)]) dX12_on_135 rfl (Nat.le_of_ble_eq_true rfl) rfl ?_
      refine jr_goto (t := 87) dX12_on_138 (by decide) ?_
      refine jr_sub [1, 2, 0] rfl ?_
      exact ih l2 (jl_add l3 1) hl2 (jl_n3_to _) s28
def jf_X12_on_L55 : Nat → Int → Int → jl_Mm → jl_O
  | 0, _, _, _ => none
  | n + 1, l2, l3, s0 =>
    jl_bd (jf_X12_personMany s0) fun r15 s16 => if r15 ≤ l3 then (jf_X12_on_L87 jl_fu l2 (0 : Int) s16) else (if 0 ≤ jl_add (4 : Int) l3 ∧ jl_add (4 : Int) l3 < ((1600 : Nat) : Int) then if 0 ≤ jl_add (2 : Int) l3 ∧ jl_add (2 : Int) l3 < ((105 : Nat) : Int) then jl_lm (jl_up s16 249 (jl_add (2 : Int) l3).toNat (jl_g s16 207 (jl_add (4 : Int) l3).toNat)) fun s31 => jf_X12_on_L55 n l2 (jl_add l3 1) s31 else none else none)
set_option maxRecDepth 20000 in
set_option maxHeartbeats 2000000 in
theorem jj_X12_on_L55 (G : jl_GC) : ∀ (n : Nat) (l2 : Int) (l3 : Int) (hl2 : jl_n3 l2) (hl3 : jl_n3 l3) (s0 : jl_Mm), j2 G jM_X12_on 55 [(0, jl_vr G 206), (2, jl_vi l2), (3, jl_vi l3)] [] s0 (jf_X12_on_L55 n l2 l3 s0) := by
  intro n
  induction n with
  | zero =>
    intros
    exact jr_none
  | succ n ih =>
    intro l2 l3 hl2 hl3 s0
    refine jr_iload_n dX12_on_55 2 rfl ?_
    refine jr_aload_n dX12_on_56 0 rfl ?_
    refine j2_callVi (As := []) dX12_on_57 (jt_X12_personMany G s0) jv_X12_personMany ⟨rfl, rfl, rfl⟩ jw_1747 jk_206 (by decide) (by decide) rfl ⟨Nat.le_of_ble_eq_true rfl, Nat.le_of_ble_eq_true rfl⟩ rfl (Nat.le_of_ble_eq_true rfl) (fun r15 s16 hr15 => ?_)
    refine jr_icmp_ge (t := 85) dX12_on_60 (by decide) hl3 hr15 (fun c17 => ?_) (fun c17 => ?_)
    · refine jr_iconst dX12_on_85 ?_
      refine jr_istore_n (lv := [(3, jl_vi (0 : Int)), (0, jl_vr G 206), (2, jl_vi l2)]) dX12_on_86 rfl (Nat.le_of_ble_eq_true rfl) rfl ?_
      refine jr_sub [1, 2, 0] rfl ?_
      exact jj_X12_on_L87 G jl_fu l2 (0 : Int) hl2 (jl_nlit rfl) s16
    · refine jr_aload_n dX12_on_63 0 rfl ?_
      refine jr_getk (i := 56) jc_12 jk_206 (by decide) (Nat.le_of_ble_eq_true rfl) jlk_206_56 jw_1261 dX12_on_64 ?_
      refine jr_iconst dX12_on_67 ?_
      refine jr_iload_n dX12_on_68 2 rfl ?_
      refine jr_iadd dX12_on_69 ?_
      refine jr_aload_n dX12_on_70 0 rfl ?_
      refine jr_getk (i := 0) jc_12 jk_206 (by decide) (Nat.le_of_ble_eq_true rfl) jlk_206_0 jw_1205 dX12_on_71 ?_
      refine jr_iconst dX12_on_74 ?_
      refine jr_iload_n dX12_on_75 2 rfl ?_
      refine jr_iadd dX12_on_76 ?_
      refine jr_grd (fun g29 => ?_)
      refine jr_iaload jk_207 (by decide) (jl_n3_to _) g29 dX12_on_77 ?_
      refine jr_grd (fun g30 => ?_)
      refine jr_iastore jk_249 (by decide) (jl_n3_to _) g30 dX12_on_78 ?_
      refine jr_lm (fun s31 => ?_)
      refine jr_iinc (j := 2) (lv := [(3, jl_vi (jl_add l3 1)), (0, jl_vr G 206), (2, jl_vi l2)]) dX12_on_79 rfl (Nat.le_of_ble_eq_true rfl) rfl ?_
      refine jr_goto (t := 55) dX12_on_82 (by decide) ?_
      refine jr_sub [1, 2, 0] rfl ?_
      exact ih l2 (jl_add l3 1) hl2 (jl_n3_to _) s31
def jf_X12_on (s0 : jl_Mm) : jl_O :=
  jl_let (jl_g s0 206 1) fun x1 => jl_lm (jl_up s0 206 1 (0 : Int)) fun s2 => jl_bd (jf_X12_isImage x1 s2) fun r3 s4 => if r3 = (0 : Int) then (jl_bd (jf_X12_isRefused (5 : Int) s4) fun r32 s33 => jl_zb r32 s33) else (jl_bd (jf_X12_personMany s4) fun r6 s7 => jl_let (jl_add (4 : Int) r6) fun x8 => jl_bd (jf_X12_twoAt (0 : Int) s7) fun r9 s10 => jl_lm (jl_up s10 249 (((0 : Int) : Int).toNat) r9) fun s11 => jl_bd (jf_X12_twoAt (2 : Int) s11) fun r12 s13 => jl_lm (jl_up s13 249 (((1 : Int) : Int).toNat) r12) fun s14 => jf_X12_on_L55 jl_fu x8 (0 : Int) s14)
set_option maxRecDepth 20000 in
set_option maxHeartbeats 2000000 in
theorem jt_X12_on (G : jl_GC) (s0 : jl_Mm) : jC2 G jM_X12_on [jl_vr G 206] s0 (jf_X12_on s0) := by
  refine jl_met (plainFor_of_name rfl) (Nat.le_of_ble_eq_true rfl) ?_
  show j2 G jM_X12_on 0 [(0, jl_vr G 206)] [] s0 _
  refine jr_aload_n dX12_on_0 0 rfl ?_
  refine jr_geti (i := 1) jc_12 jk_206 (by decide) (Nat.le_of_ble_eq_true rfl) jlk_206_1 jft_12_1 jw_1206 dX12_on_1 ?_
  refine jr_let (jl_n3_to _) (fun x1 hx1 => ?_)
  refine jr_istore_n (lv := [(1, jl_vi x1), (0, jl_vr G 206)]) dX12_on_4 rfl (Nat.le_of_ble_eq_true rfl) rfl ?_
  refine jr_aload_n dX12_on_5 1 rfl ?_
  refine jr_iconst dX12_on_6 ?_
  refine jr_puti (i := 1) jc_12 jk_206 (by decide) (Nat.le_of_ble_eq_true rfl) jlk_206_1 jft_12_1 rfl jw_1206 rfl dX12_on_7 ?_
  refine jr_lm (fun s2 => ?_)
  refine jr_aload_n dX12_on_10 1 rfl ?_
  refine jr_iload_n dX12_on_11 0 rfl ?_
  refine j2_callVz (As := [jl_vi x1]) dX12_on_12 (jt_X12_isImage G x1 hx1 s2) jv_X12_isImage ⟨rfl, rfl, rfl⟩ jw_2100 jk_206 (by decide) (by decide) rfl ⟨Nat.le_of_ble_eq_true rfl, Nat.le_of_ble_eq_true rfl⟩ rfl (Nat.le_of_ble_eq_true rfl) (fun r3 s4 hr3 => ?_)
  refine jr_if_ne (t := 24) dX12_on_15 (by decide) (jl_nz hr3) (fun c5 => ?_) (fun c5 => ?_)
  · refine jr_aload_n dX12_on_18 1 rfl ?_
    refine jr_iconst dX12_on_19 ?_
    refine j2_callVz (As := [jl_vi (5 : Int)]) dX12_on_20 (jt_X12_isRefused G (5 : Int) (jl_nlit rfl) s4) jv_X12_isRefused ⟨rfl, rfl, rfl⟩ jw_2011 jk_206 (by decide) (by decide) rfl ⟨Nat.le_of_ble_eq_true rfl, Nat.le_of_ble_eq_true rfl⟩ rfl (Nat.le_of_ble_eq_true rfl) (fun r32 s33 hr32 => ?_)
    exact jr_ret_z rfl dX12_on_23
  · refine jr_iconst dX12_on_24 ?_
    refine jr_aload_n dX12_on_25 1 rfl ?_
    refine j2_callVi (As := []) dX12_on_26 (jt_X12_personMany G s4) jv_X12_personMany ⟨rfl, rfl, rfl⟩ jw_1747 jk_206 (by decide) (by decide) rfl ⟨Nat.le_of_ble_eq_true rfl, Nat.le_of_ble_eq_true rfl⟩ rfl (Nat.le_of_ble_eq_true rfl) (fun r6 s7 hr6 => ?_)
    refine jr_iadd dX12_on_29 ?_
    refine jr_let (jl_n3_to _) (fun x8 hx8 => ?_)
    refine jr_istore_n (lv := [(2, jl_vi x8), (1, jl_vi x1), (0, jl_vr G 206)]) dX12_on_30 rfl (Nat.le_of_ble_eq_true rfl) rfl ?_
    refine jr_aload_n dX12_on_31 2 rfl ?_
    refine jr_getk (i := 56) jc_12 jk_206 (by decide) (Nat.le_of_ble_eq_true rfl) jlk_206_56 jw_1261 dX12_on_32 ?_
    refine jr_iconst dX12_on_35 ?_
    refine jr_aload_n dX12_on_36 2 rfl ?_
    refine jr_iconst dX12_on_37 ?_
    refine j2_callVi (As := [jl_vi (0 : Int)]) dX12_on_38 (jt_X12_twoAt G (0 : Int) (jl_nlit rfl) s7) jv_X12_twoAt ⟨rfl, rfl, rfl⟩ jw_2104 jk_206 (by decide) (by decide) rfl ⟨Nat.le_of_ble_eq_true rfl, Nat.le_of_ble_eq_true rfl⟩ rfl (Nat.le_of_ble_eq_true rfl) (fun r9 s10 hr9 => ?_)
    refine jr_iastore jk_249 (by decide) (jl_nlit rfl) ⟨by decide, by decide⟩ dX12_on_41 ?_
    refine jr_lm (fun s11 => ?_)
    refine jr_aload_n dX12_on_42 2 rfl ?_
    refine jr_getk (i := 56) jc_12 jk_206 (by decide) (Nat.le_of_ble_eq_true rfl) jlk_206_56 jw_1261 dX12_on_43 ?_
    refine jr_iconst dX12_on_46 ?_
    refine jr_aload_n dX12_on_47 2 rfl ?_
    refine jr_iconst dX12_on_48 ?_
    refine j2_callVi (As := [jl_vi (2 : Int)]) dX12_on_49 (jt_X12_twoAt G (2 : Int) (jl_nlit rfl) s11) jv_X12_twoAt ⟨rfl, rfl, rfl⟩ jw_2104 jk_206 (by decide) (by decide) rfl ⟨Nat.le_of_ble_eq_true rfl, Nat.le_of_ble_eq_true rfl⟩ rfl (Nat.le_of_ble_eq_true rfl) (fun r12 s13 hr12 => ?_)
    refine jr_iastore jk_249 (by decide) (jl_nlit rfl) ⟨by decide, by decide⟩ dX12_on_52 ?_
    refine jr_lm (fun s14 => ?_)
    refine jr_iconst dX12_on_53 ?_
    refine jr_istore_n (lv := [(3, jl_vi (0 : Int)), (2, jl_vi x8), (1, jl_vi x1), (0, jl_vr G 206)]) dX12_on_54 rfl (Nat.le_of_ble_eq_true rfl) rfl ?_
    refine jr_sub [3, 1, 0] rfl ?_
    exact jj_X12_on_L55 G jl_fu x8 (0 : Int) hx8 (jl_nlit rfl) s14
