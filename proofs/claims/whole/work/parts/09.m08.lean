def jf_X12_statementTold_B205 (s0 : jl_Mm) : jl_O :=
  jl_bd (jf_X12_asksSign (59 : Int) s0) fun r32 s33 => jl_lm (jl_up s33 206 53 (jl_add (jl_g s33 206 53) (1 : Int))) fun s34 => some (0, s34)
set_option maxRecDepth 20000 in
set_option maxHeartbeats 2000000 in
theorem jj_X12_statementTold_B205 (G : jl_GC) (s0 : jl_Mm) : j2 G jM_X12_statementTold 205 [(0, jl_vr G 206)] [] s0 (jf_X12_statementTold_B205 s0) := by
  refine jr_aload_n dX12_statementTold_205 0 rfl ?_
  refine jr_bipush dX12_statementTold_206 (by decide) ?_
  refine j2_callVv (As := [jl_vi (59 : Int)]) dX12_statementTold_208 (jt_X12_asksSign G (59 : Int) (jl_nlit rfl) s0) jv_X12_asksSign ⟨rfl, rfl, rfl⟩ jw_1591 jk_206 (by decide) (by decide) rfl ⟨Nat.le_of_ble_eq_true rfl, Nat.le_of_ble_eq_true rfl⟩ rfl (Nat.le_of_ble_eq_true rfl) (fun r32 s33 hr32 => ?_)
  refine jr_aload_n dX12_statementTold_211 0 rfl ?_
  refine jr_dup dX12_statementTold_212 rfl ?_
  refine jr_geti (i := 53) jc_12 jk_206 (by decide) (Nat.le_of_ble_eq_true rfl) jlk_206_53 jft_12_53 jw_1258 dX12_statementTold_213 ?_
  refine jr_iconst dX12_statementTold_216 ?_
  refine jr_iadd dX12_statementTold_217 ?_
  refine jr_puti (i := 53) jc_12 jk_206 (by decide) (Nat.le_of_ble_eq_true rfl) jlk_206_53 jft_12_53 rfl jw_1258 rfl dX12_statementTold_218 ?_
  refine jr_lm (fun s34 => ?_)
  exact jr_ret_v rfl dX12_statementTold_221
def jf_X12_statementTold (s0 : jl_Mm) : jl_O :=
  jl_let (jl_g s0 206 2) fun x1 => if jl_g s0 206 53 = (60 : Int) then (jl_bd (jf_X12_fail (5 : Int) x1 s0) fun r52 s53 => some (0, s53)) else (jl_bd (jf_X12_takes 210 s0) fun r3 s4 => if r3 = (0 : Int) then (jl_bd (jf_X12_takes 213 s4) fun r6 s7 => if r6 = (0 : Int) then (jl_bd (jf_X12_takes 215 s7) fun r9 s10 => if r9 = (0 : Int) then (jl_bd (jf_X12_takes 217 s10) fun r12 s13 => if r12 = (0 : Int) then (jl_bd (jf_X12_takes 219 s13) fun r15 s16 => if r15 = (0 : Int) then (jl_bd (jf_X12_takes 220 s16) fun r18 s19 => if r18 = (0 : Int) then (jl_bd (jf_X12_takes 221 s19) fun r21 s22 => if r21 = (0 : Int) then (jl_bd (jf_X12_takes 222 s22) fun r24 s25 => if r24 = (0 : Int) then (jl_bd (jf_X12_asks 223 s25) fun r27 s28 => jl_bd (jf_X12_number (0 : Int) (100 : Int) s28) fun r29 s30 => jl_lm (jl_up s30 241 (((5 : Int) : Int).toNat) r29) fun s31 => jf_X12_statementTold_B205 s31) else (jl_bd (jf_X12_codesTold (2 : Int) x1 s25) fun r35 s36 => jf_X12_statementTold_B205 s36)) else (jl_bd (jf_X12_codesTold (1 : Int) x1 s22) fun r37 s38 => jf_X12_statementTold_B205 s38)) else (jl_bd (jf_X12_codesTold (0 : Int) x1 s19) fun r39 s40 => jf_X12_statementTold_B205 s40)) else (jl_bd (jf_X12_number (0 : Int) (999 : Int) s16) fun r41 s42 => jl_lm (jl_up s42 241 (((4 : Int) : Int).toNat) r41) fun s43 => jf_X12_statementTold_B205 s43)) else (jl_bd (jf_X12_lightTold x1 s13) fun r44 s45 => jf_X12_statementTold_B205 s45)) else (jl_bd (jf_X12_hangsTold s10) fun r46 s47 => jf_X12_statementTold_B205 s47)) else (jl_bd (jf_X12_lieTold x1 s7) fun r48 s49 => jf_X12_statementTold_B205 s49)) else (jl_bd (jf_X12_personTold x1 s4) fun r50 s51 => jf_X12_statementTold_B205 s51))
set_option maxRecDepth 20000 in
set_option maxHeartbeats 2000000 in
theorem jt_X12_statementTold (G : jl_GC) (s0 : jl_Mm) : jC2 G jM_X12_statementTold [jl_vr G 206] s0 (jf_X12_statementTold s0) := by
  refine jl_met (plainFor_of_name rfl) (Nat.le_of_ble_eq_true rfl) ?_
  show j2 G jM_X12_statementTold 0 [(0, jl_vr G 206)] [] s0 _
  refine jr_aload_n dX12_statementTold_0 0 rfl ?_
  refine jr_geti (i := 2) jc_12 jk_206 (by decide) (Nat.le_of_ble_eq_true rfl) jlk_206_2 jft_12_2 jw_1207 dX12_statementTold_1 ?_
  refine jr_let (jl_n3_to _) (fun x1 hx1 => ?_)
  refine jr_istore_n (lv := [(1, jl_vi x1), (0, jl_vr G 206)]) dX12_statementTold_4 rfl (Nat.le_of_ble_eq_true rfl) rfl ?_
  refine jr_aload_n dX12_statementTold_5 1 rfl ?_
  refine jr_geti (i := 53) jc_12 jk_206 (by decide) (Nat.le_of_ble_eq_true rfl) jlk_206_53 jft_12_53 jw_1258 dX12_statementTold_6 ?_
  refine jr_bipush dX12_statementTold_9 (by decide) ?_
  refine jr_icmp_ne (t := 21) dX12_statementTold_11 (by decide) (jl_n3_to _) (jl_nlit rfl) (fun c2 => ?_) (fun c2 => ?_)
  · refine jr_aload_n dX12_statementTold_14 1 rfl ?_
    refine jr_iconst dX12_statementTold_15 ?_
    refine jr_iload_n dX12_statementTold_16 0 rfl ?_
    refine j2_callVv (As := [jl_vi (5 : Int), jl_vi x1]) dX12_statementTold_17 (jt_X12_fail G (5 : Int) x1 (jl_nlit rfl) hx1 s0) jv_X12_fail ⟨rfl, rfl, rfl⟩ jw_1577 jk_206 (by decide) (by decide) rfl ⟨Nat.le_of_ble_eq_true rfl, Nat.le_of_ble_eq_true rfl⟩ rfl (Nat.le_of_ble_eq_true rfl) (fun r52 s53 hr52 => ?_)
    exact jr_ret_v rfl dX12_statementTold_20
  · refine jr_aload_n dX12_statementTold_21 1 rfl ?_
    refine jr_aload_n dX12_statementTold_22 1 rfl ?_
    refine jr_getk (i := 12) jc_12 jk_206 (by decide) (Nat.le_of_ble_eq_true rfl) jlk_206_12 jw_1217 dX12_statementTold_23 ?_
    refine j2_callVz (As := [jl_vr G 210]) dX12_statementTold_26 (jt_X12_takes G 210 s0) jv_X12_takes ⟨rfl, rfl, rfl⟩ jw_1562 jk_206 (by decide) (by decide) rfl ⟨Nat.le_of_ble_eq_true rfl, Nat.le_of_ble_eq_true rfl⟩ rfl (Nat.le_of_ble_eq_true rfl) (fun r3 s4 hr3 => ?_)
    refine jr_if_eq (t := 40) dX12_statementTold_29 (by decide) (jl_nz hr3) (fun c5 => ?_) (fun c5 => ?_)
    · refine jr_aload_n dX12_statementTold_40 1 rfl ?_
      refine jr_aload_n dX12_statementTold_41 1 rfl ?_
      refine jr_getk (i := 15) jc_12 jk_206 (by decide) (Nat.le_of_ble_eq_true rfl) jlk_206_15 jw_1220 dX12_statementTold_42 ?_
      refine j2_callVz (As := [jl_vr G 213]) dX12_statementTold_45 (jt_X12_takes G 213 s4) jv_X12_takes ⟨rfl, rfl, rfl⟩ jw_1562 jk_206 (by decide) (by decide) rfl ⟨Nat.le_of_ble_eq_true rfl, Nat.le_of_ble_eq_true rfl⟩ rfl (Nat.le_of_ble_eq_true rfl) (fun r6 s7 hr6 => ?_)
      refine jr_if_eq (t := 59) dX12_statementTold_48 (by decide) (jl_nz hr6) (fun c8 => ?_) (fun c8 => ?_)
      · refine jr_aload_n dX12_statementTold_59 1 rfl ?_
        refine jr_aload_n dX12_statementTold_60 1 rfl ?_
        refine jr_getk (i := 17) jc_12 jk_206 (by decide) (Nat.le_of_ble_eq_true rfl) jlk_206_17 jw_1222 dX12_statementTold_61 ?_
        refine j2_callVz (As := [jl_vr G 215]) dX12_statementTold_64 (jt_X12_takes G 215 s7) jv_X12_takes ⟨rfl, rfl, rfl⟩ jw_1562 jk_206 (by decide) (by decide) rfl ⟨Nat.le_of_ble_eq_true rfl, Nat.le_of_ble_eq_true rfl⟩ rfl (Nat.le_of_ble_eq_true rfl) (fun r9 s10 hr9 => ?_)
        refine jr_if_eq (t := 77) dX12_statementTold_67 (by decide) (jl_nz hr9) (fun c11 => ?_) (fun c11 => ?_)
        · refine jr_aload_n dX12_statementTold_77 1 rfl ?_
          refine jr_aload_n dX12_statementTold_78 1 rfl ?_
          refine jr_getk (i := 19) jc_12 jk_206 (by decide) (Nat.le_of_ble_eq_true rfl) jlk_206_19 jw_1224 dX12_statementTold_79 ?_
          refine j2_callVz (As := [jl_vr G 217]) dX12_statementTold_82 (jt_X12_takes G 217 s10) jv_X12_takes ⟨rfl, rfl, rfl⟩ jw_1562 jk_206 (by decide) (by decide) rfl ⟨Nat.le_of_ble_eq_true rfl, Nat.le_of_ble_eq_true rfl⟩ rfl (Nat.le_of_ble_eq_true rfl) (fun r12 s13 hr12 => ?_)
          refine jr_if_eq (t := 96) dX12_statementTold_85 (by decide) (jl_nz hr12) (fun c14 => ?_) (fun c14 => ?_)
          · refine jr_aload_n dX12_statementTold_96 1 rfl ?_
            refine jr_aload_n dX12_statementTold_97 1 rfl ?_
            refine jr_getk (i := 21) jc_12 jk_206 (by decide) (Nat.le_of_ble_eq_true rfl) jlk_206_21 jw_1226 dX12_statementTold_98 ?_
            refine j2_callVz (As := [jl_vr G 219]) dX12_statementTold_101 (jt_X12_takes G 219 s13) jv_X12_takes ⟨rfl, rfl, rfl⟩ jw_1562 jk_206 (by decide) (by decide) rfl ⟨Nat.le_of_ble_eq_true rfl, Nat.le_of_ble_eq_true rfl⟩ rfl (Nat.le_of_ble_eq_true rfl) (fun r15 s16 hr15 => ?_)
            refine jr_if_eq (t := 124) dX12_statementTold_104 (by decide) (jl_nz hr15) (fun c17 => ?_) (fun c17 => ?_)
            · refine jr_aload_n dX12_statementTold_124 1 rfl ?_
              refine jr_aload_n dX12_statementTold_125 1 rfl ?_
              refine jr_getk (i := 22) jc_12 jk_206 (by decide) (Nat.le_of_ble_eq_true rfl) jlk_206_22 jw_1227 dX12_statementTold_126 ?_
              refine j2_callVz (As := [jl_vr G 220]) dX12_statementTold_129 (jt_X12_takes G 220 s16) jv_X12_takes ⟨rfl, rfl, rfl⟩ jw_1562 jk_206 (by decide) (by decide) rfl ⟨Nat.le_of_ble_eq_true rfl, Nat.le_of_ble_eq_true rfl⟩ rfl (Nat.le_of_ble_eq_true rfl) (fun r18 s19 hr18 => ?_)
              refine jr_if_eq (t := 144) dX12_statementTold_132 (by decide) (jl_nz hr18) (fun c20 => ?_) (fun c20 => ?_)
              · refine jr_aload_n dX12_statementTold_144 1 rfl ?_
                refine jr_aload_n dX12_statementTold_145 1 rfl ?_
                refine jr_getk (i := 23) jc_12 jk_206 (by decide) (Nat.le_of_ble_eq_true rfl) jlk_206_23 jw_1228 dX12_statementTold_146 ?_
                refine j2_callVz (As := [jl_vr G 221]) dX12_statementTold_149 (jt_X12_takes G 221 s19) jv_X12_takes ⟨rfl, rfl, rfl⟩ jw_1562 jk_206 (by decide) (by decide) rfl ⟨Nat.le_of_ble_eq_true rfl, Nat.le_of_ble_eq_true rfl⟩ rfl (Nat.le_of_ble_eq_true rfl) (fun r21 s22 hr21 => ?_)
                refine jr_if_eq (t := 164) dX12_statementTold_152 (by decide) (jl_nz hr21) (fun c23 => ?_) (fun c23 => ?_)
                · refine jr_aload_n dX12_statementTold_164 1 rfl ?_
                  refine jr_aload_n dX12_statementTold_165 1 rfl ?_
                  refine jr_getk (i := 24) jc_12 jk_206 (by decide) (Nat.le_of_ble_eq_true rfl) jlk_206_24 jw_1229 dX12_statementTold_166 ?_
                  refine j2_callVz (As := [jl_vr G 222]) dX12_statementTold_169 (jt_X12_takes G 222 s22) jv_X12_takes ⟨rfl, rfl, rfl⟩ jw_1562 jk_206 (by decide) (by decide) rfl ⟨Nat.le_of_ble_eq_true rfl, Nat.le_of_ble_eq_true rfl⟩ rfl (Nat.le_of_ble_eq_true rfl) (fun r24 s25 hr24 => ?_)
                  refine jr_if_eq (t := 184) dX12_statementTold_172 (by decide) (jl_nz hr24) (fun c26 => ?_) (fun c26 => ?_)
                  · refine jr_aload_n dX12_statementTold_184 1 rfl ?_
                    refine jr_aload_n dX12_statementTold_185 1 rfl ?_
                    refine jr_getk (i := 25) jc_12 jk_206 (by decide) (Nat.le_of_ble_eq_true rfl) jlk_206_25 jw_1230 dX12_statementTold_186 ?_
                    refine j2_callVv (As := [jl_vr G 223]) dX12_statementTold_189 (jt_X12_asks G 223 s25) jv_X12_asks ⟨rfl, rfl, rfl⟩ jw_1558 jk_206 (by decide) (by decide) rfl ⟨Nat.le_of_ble_eq_true rfl, Nat.le_of_ble_eq_true rfl⟩ rfl (Nat.le_of_ble_eq_true rfl) (fun r27 s28 hr27 => ?_)
                    refine jr_aload_n dX12_statementTold_192 1 rfl ?_
                    refine jr_getk (i := 44) jc_12 jk_206 (by decide) (Nat.le_of_ble_eq_true rfl) jlk_206_44 jw_1249 dX12_statementTold_193 ?_
                    refine jr_iconst dX12_statementTold_196 ?_
                    refine jr_aload_n dX12_statementTold_197 1 rfl ?_
                    refine jr_iconst dX12_statementTold_198 ?_
                    refine jr_bipush dX12_statementTold_199 (by decide) ?_
                    refine j2_callVi (As := [jl_vi (0 : Int), jl_vi (100 : Int)]) dX12_statementTold_201 (jt_X12_number G (0 : Int) (100 : Int) (jl_nlit rfl) (jl_nlit rfl) s28) jv_X12_number ⟨rfl, rfl, rfl⟩ jw_1581 jk_206 (by decide) (by decide) rfl ⟨Nat.le_of_ble_eq_true rfl, Nat.le_of_ble_eq_true rfl⟩ rfl (Nat.le_of_ble_eq_true rfl) (fun r29 s30 hr29 => ?_)
                    refine jr_iastore jk_241 (by decide) (jl_nlit rfl) ⟨by decide, by decide⟩ dX12_statementTold_204 ?_
                    refine jr_lm (fun s31 => ?_)
                    refine jr_sub [1] rfl ?_
                    exact jj_X12_statementTold_B205 G s31
                  · refine jr_aload_n dX12_statementTold_175 1 rfl ?_
                    refine jr_iconst dX12_statementTold_176 ?_
                    refine jr_iload_n dX12_statementTold_177 0 rfl ?_
                    refine j2_callVv (As := [jl_vi (2 : Int), jl_vi x1]) dX12_statementTold_178 (jt_X12_codesTold G (2 : Int) x1 (jl_nlit rfl) hx1 s25) jv_X12_codesTold ⟨rfl, rfl, rfl⟩ jw_1641 jk_206 (by decide) (by decide) rfl ⟨Nat.le_of_ble_eq_true rfl, Nat.le_of_ble_eq_true rfl⟩ rfl (Nat.le_of_ble_eq_true rfl) (fun r35 s36 hr35 => ?_)
                    refine jr_goto (t := 205) dX12_statementTold_181 (by decide) ?_
                    refine jr_sub [1] rfl ?_
                    exact jj_X12_statementTold_B205 G s36
                · refine jr_aload_n dX12_statementTold_155 1 rfl ?_
                  refine jr_iconst dX12_statementTold_156 ?_
                  refine jr_iload_n dX12_statementTold_157 0 rfl ?_
                  refine j2_callVv (As := [jl_vi (1 : Int), jl_vi x1]) dX12_statementTold_158 (jt_X12_codesTold G (1 : Int) x1 (jl_nlit rfl) hx1 s22) jv_X12_codesTold ⟨rfl, rfl, rfl⟩ jw_1641 jk_206 (by decide) (by decide) rfl ⟨Nat.le_of_ble_eq_true rfl, Nat.le_of_ble_eq_true rfl⟩ rfl (Nat.le_of_ble_eq_true rfl) (fun r37 s38 hr37 => ?_)
                  refine jr_goto (t := 205) dX12_statementTold_161 (by decide) ?_
                  refine jr_sub [1] rfl ?_
                  exact jj_X12_statementTold_B205 G s38
              · refine jr_aload_n dX12_statementTold_135 1 rfl ?_
                refine jr_iconst dX12_statementTold_136 ?_
                refine jr_iload_n dX12_statementTold_137 0 rfl ?_
                refine j2_callVv (As := [jl_vi (0 : Int), jl_vi x1]) dX12_statementTold_138 (jt_X12_codesTold G (0 : Int) x1 (jl_nlit rfl) hx1 s19) jv_X12_codesTold ⟨rfl, rfl, rfl⟩ jw_1641 jk_206 (by decide) (by decide) rfl ⟨Nat.le_of_ble_eq_true rfl, Nat.le_of_ble_eq_true rfl⟩ rfl (Nat.le_of_ble_eq_true rfl) (fun r39 s40 hr39 => ?_)
                refine jr_goto (t := 205) dX12_statementTold_141 (by decide) ?_
                refine jr_sub [1] rfl ?_
                exact jj_X12_statementTold_B205 G s40
            · refine jr_aload_n dX12_statementTold_107 1 rfl ?_
              refine jr_getk (i := 44) jc_12 jk_206 (by decide) (Nat.le_of_ble_eq_true rfl) jlk_206_44 jw_1249 dX12_statementTold_108 ?_
              refine jr_iconst dX12_statementTold_111 ?_
              refine jr_aload_n dX12_statementTold_112 1 rfl ?_
              refine jr_iconst dX12_statementTold_113 ?_
              refine jr_sipush dX12_statementTold_114 (by decide) ?_
              refine j2_callVi (As := [jl_vi (0 : Int), jl_vi (999 : Int)]) dX12_statementTold_117 (jt_X12_number G (0 : Int) (999 : Int) (jl_nlit rfl) (jl_nlit rfl) s16) jv_X12_number ⟨rfl, rfl, rfl⟩ jw_1581 jk_206 (by decide) (by decide) rfl ⟨Nat.le_of_ble_eq_true rfl, Nat.le_of_ble_eq_true rfl⟩ rfl (Nat.le_of_ble_eq_true rfl) (fun r41 s42 hr41 => ?_)
              refine jr_iastore jk_241 (by decide) (jl_nlit rfl) ⟨by decide, by decide⟩ dX12_statementTold_120 ?_
              refine jr_lm (fun s43 => ?_)
              refine jr_goto (t := 205) dX12_statementTold_121 (by decide) ?_
              refine jr_sub [1] rfl ?_
              exact jj_X12_statementTold_B205 G s43
          · refine jr_aload_n dX12_statementTold_88 1 rfl ?_
            refine jr_iload_n dX12_statementTold_89 0 rfl ?_
            refine j2_callVv (As := [jl_vi x1]) dX12_statementTold_90 (jt_X12_lightTold G x1 hx1 s13) jv_X12_lightTold ⟨rfl, rfl, rfl⟩ jw_1637 jk_206 (by decide) (by decide) rfl ⟨Nat.le_of_ble_eq_true rfl, Nat.le_of_ble_eq_true rfl⟩ rfl (Nat.le_of_ble_eq_true rfl) (fun r44 s45 hr44 => ?_)
            refine jr_goto (t := 205) dX12_statementTold_93 (by decide) ?_
            refine jr_sub [1] rfl ?_
            exact jj_X12_statementTold_B205 G s45
        · refine jr_aload_n dX12_statementTold_70 1 rfl ?_
          refine j2_callVv (As := []) dX12_statementTold_71 (jt_X12_hangsTold G s10) jv_X12_hangsTold ⟨rfl, rfl, rfl⟩ jw_1633 jk_206 (by decide) (by decide) rfl ⟨Nat.le_of_ble_eq_true rfl, Nat.le_of_ble_eq_true rfl⟩ rfl (Nat.le_of_ble_eq_true rfl) (fun r46 s47 hr46 => ?_)
          refine jr_goto (t := 205) dX12_statementTold_74 (by decide) ?_
          refine jr_sub [1] rfl ?_
          exact jj_X12_statementTold_B205 G s47
      · refine jr_aload_n dX12_statementTold_51 1 rfl ?_
        refine jr_iload_n dX12_statementTold_52 0 rfl ?_
        refine j2_callVv (As := [jl_vi x1]) dX12_statementTold_53 (jt_X12_lieTold G x1 hx1 s7) jv_X12_lieTold ⟨rfl, rfl, rfl⟩ jw_1625 jk_206 (by decide) (by decide) rfl ⟨Nat.le_of_ble_eq_true rfl, Nat.le_of_ble_eq_true rfl⟩ rfl (Nat.le_of_ble_eq_true rfl) (fun r48 s49 hr48 => ?_)
        refine jr_goto (t := 205) dX12_statementTold_56 (by decide) ?_
        refine jr_sub [1] rfl ?_
        exact jj_X12_statementTold_B205 G s49
    · refine jr_aload_n dX12_statementTold_32 1 rfl ?_
      refine jr_iload_n dX12_statementTold_33 0 rfl ?_
      refine j2_callVv (As := [jl_vi x1]) dX12_statementTold_34 (jt_X12_personTold G x1 hx1 s4) jv_X12_personTold ⟨rfl, rfl, rfl⟩ jw_1603 jk_206 (by decide) (by decide) rfl ⟨Nat.le_of_ble_eq_true rfl, Nat.le_of_ble_eq_true rfl⟩ rfl (Nat.le_of_ble_eq_true rfl) (fun r50 s51 hr50 => ?_)
      refine jr_goto (t := 205) dX12_statementTold_37 (by decide) ?_
      refine jr_sub [1] rfl ?_
      exact jj_X12_statementTold_B205 G s51
def jf_X12_refuses (v1 : Int) (s0 : jl_Mm) : jl_O :=
  if 0 ≤ v1 ∧ v1 < ((6 : Nat) : Int) then if 0 ≤ v1 ∧ v1 < ((6 : Nat) : Int) then jl_lm (jl_up s0 208 (v1).toNat (jl_add (jl_g s0 208 (v1).toNat) (1 : Int))) fun s3 => some ((-1 : Int), s3) else none else none
set_option maxRecDepth 20000 in
set_option maxHeartbeats 2000000 in
theorem jt_X12_refuses (G : jl_GC) (v1 : Int) (h1 : jl_n3 v1) (s0 : jl_Mm) : jC2 G jM_X12_refuses [jl_vr G 206, jl_vi v1] s0 (jf_X12_refuses v1 s0) := by
  refine jl_met (plainFor_of_name rfl) (Nat.le_of_ble_eq_true rfl) ?_
  show j2 G jM_X12_refuses 0 [(0, jl_vr G 206), (1, jl_vi v1)] [] s0 _
  refine jr_aload_n dX12_refuses_0 0 rfl ?_
  refine jr_getk (i := 9) jc_12 jk_206 (by decide) (Nat.le_of_ble_eq_true rfl) jlk_206_9 jw_1214 dX12_refuses_1 ?_
  refine jr_iload_n dX12_refuses_4 1 rfl ?_
  refine jr_dup2_11 dX12_refuses_5 rfl rfl ?_
  refine jr_grd (fun g1 => ?_)
  refine jr_iaload jk_208 (by decide) h1 g1 dX12_refuses_6 ?_
  refine jr_iconst dX12_refuses_7 ?_
  refine jr_iadd dX12_refuses_8 ?_
  refine jr_grd (fun g2 => ?_)
  refine jr_iastore jk_208 (by decide) h1 g2 dX12_refuses_9 ?_
  refine jr_lm (fun s3 => ?_)
  refine jr_iconst dX12_refuses_10 ?_
  exact jr_ret_i rfl (jl_nlit rfl) dX12_refuses_11
def jf_X12_stands_L244 : Nat → Int → jl_Mm → jl_O
  | 0, _, _ => none
  | n + 1, l1, s0 =>
    if jl_g s0 241 (((1 : Int) : Int).toNat) ≤ l1 then (jl_lm (jl_up s0 206 72 (0 : Int)) fun s11 => jl_lm (jl_up s11 206 65 (0 : Int)) fun s12 => some (0, s12)) else (if 0 ≤ jl_mul (2 : Int) l1 ∧ jl_mul (2 : Int) l1 < ((24 : Nat) : Int) then if 0 ≤ jl_add (2 : Int) l1 ∧ jl_add (2 : Int) l1 < ((105 : Nat) : Int) then jl_lm (jl_up s0 249 (jl_add (2 : Int) l1).toNat (jl_g s0 243 (jl_mul (2 : Int) l1).toNat)) fun s15 => jf_X12_stands_L244 n (jl_add l1 1) s15 else none else none)
set_option maxRecDepth 20000 in
set_option maxHeartbeats 2000000 in
theorem jj_X12_stands_L244 (G : jl_GC) : ∀ (n : Nat) (l1 : Int) (hl1 : jl_n3 l1) (s0 : jl_Mm), j2 G jM_X12_stands 244 [(0, jl_vr G 206), (1, jl_vi l1)] [] s0 (jf_X12_stands_L244 n l1 s0) := by
  intro n
  induction n with
  | zero =>
    intros
    exact jr_none
  | succ n ih =>
    intro l1 hl1 s0
    refine jr_iload_n dX12_stands_244 1 rfl ?_
    refine jr_aload_n dX12_stands_245 0 rfl ?_
    refine jr_getk (i := 44) jc_12 jk_206 (by decide) (Nat.le_of_ble_eq_true rfl) jlk_206_44 jw_1249 dX12_stands_246 ?_
    refine jr_iconst dX12_stands_249 ?_
    refine jr_iaload jk_241 (by decide) (jl_nlit rfl) ⟨by decide, by decide⟩ dX12_stands_250 ?_
    refine jr_icmp_ge (t := 276) dX12_stands_251 (by decide) hl1 (jl_n3_to _) (fun c10 => ?_) (fun c10 => ?_)
    · refine jr_aload_n dX12_stands_276 0 rfl ?_
      refine jr_iconst dX12_stands_277 ?_
      refine jr_puti (i := 72) jc_12 jk_206 (by decide) (Nat.le_of_ble_eq_true rfl) jlk_206_72 jft_12_72 rfl jw_1277 rfl dX12_stands_278 ?_
      refine jr_lm (fun s11 => ?_)
      refine jr_aload_n dX12_stands_281 0 rfl ?_
      refine jr_iconst dX12_stands_282 ?_
      refine jr_puti (i := 65) jc_12 jk_206 (by decide) (Nat.le_of_ble_eq_true rfl) jlk_206_65 jft_12_65 rfl jw_1270 rfl dX12_stands_283 ?_
      refine jr_lm (fun s12 => ?_)
      exact jr_ret_v rfl dX12_stands_286
    · refine jr_aload_n dX12_stands_254 0 rfl ?_
      refine jr_getk (i := 56) jc_12 jk_206 (by decide) (Nat.le_of_ble_eq_true rfl) jlk_206_56 jw_1261 dX12_stands_255 ?_
      refine jr_iconst dX12_stands_258 ?_
      refine jr_iload_n dX12_stands_259 1 rfl ?_
      refine jr_iadd dX12_stands_260 ?_
      refine jr_aload_n dX12_stands_261 0 rfl ?_
      refine jr_getk (i := 46) jc_12 jk_206 (by decide) (Nat.le_of_ble_eq_true rfl) jlk_206_46 jw_1251 dX12_stands_262 ?_
      refine jr_iconst dX12_stands_265 ?_
      refine jr_iload_n dX12_stands_266 1 rfl ?_
      refine jr_imul dX12_stands_267 ?_
      refine jr_grd (fun g13 => ?_)
      refine jr_iaload jk_243 (by decide) (jl_n3_to _) g13 dX12_stands_268 ?_
      refine jr_grd (fun g14 => ?_)
      refine jr_iastore jk_249 (by decide) (jl_n3_to _) g14 dX12_stands_269 ?_
      refine jr_lm (fun s15 => ?_)
      refine jr_iinc (j := 1) (lv := [(1, jl_vi (jl_add l1 1)), (0, jl_vr G 206)]) dX12_stands_270 rfl (Nat.le_of_ble_eq_true rfl) rfl ?_
      refine jr_goto (t := 244) dX12_stands_273 (by decide) ?_
      refine jr_sub [1, 0] rfl ?_
      exact ih (jl_add l1 1) (jl_n3_to _) s15
def jf_X12_stands_L211 : Nat → Int → jl_Mm → jl_O
  | 0, _, _ => none
  | n + 1, l1, s0 =>
    if (105 : Int) ≤ l1 then (jl_lm (jl_up s0 249 (((1 : Int) : Int).toNat) (jl_g s0 241 (((4 : Int) : Int).toNat))) fun s9 => jf_X12_stands_L244 jl_fu (0 : Int) s9) else (if 0 ≤ l1 ∧ l1 < ((105 : Nat) : Int) then jl_lm (jl_up s0 249 (l1).toNat (0 : Int)) fun s17 => jf_X12_stands_L211 n (jl_add l1 1) s17 else none)
set_option maxRecDepth 20000 in
set_option maxHeartbeats 2000000 in
theorem jj_X12_stands_L211 (G : jl_GC) : ∀ (n : Nat) (l1 : Int) (hl1 : jl_n3 l1) (s0 : jl_Mm), j2 G jM_X12_stands 211 [(0, jl_vr G 206), (1, jl_vi l1)] [] s0 (jf_X12_stands_L211 n l1 s0) := by
  intro n
  induction n with
  | zero =>
    intros
    exact jr_none
  | succ n ih =>
    intro l1 hl1 s0
    refine jr_iload_n dX12_stands_211 1 rfl ?_
    refine jr_bipush dX12_stands_212 (by decide) ?_
    refine jr_icmp_ge (t := 230) dX12_stands_214 (by decide) hl1 (jl_nlit rfl) (fun c8 => ?_) (fun c8 => ?_)
    · refine jr_aload_n dX12_stands_230 0 rfl ?_
      refine jr_getk (i := 56) jc_12 jk_206 (by decide) (Nat.le_of_ble_eq_true rfl) jlk_206_56 jw_1261 dX12_stands_231 ?_
      refine jr_iconst dX12_stands_234 ?_
      refine jr_aload_n dX12_stands_235 0 rfl ?_
      refine jr_getk (i := 44) jc_12 jk_206 (by decide) (Nat.le_of_ble_eq_true rfl) jlk_206_44 jw_1249 dX12_stands_236 ?_
      refine jr_iconst dX12_stands_239 ?_
      refine jr_iaload jk_241 (by decide) (jl_nlit rfl) ⟨by decide, by decide⟩ dX12_stands_240 ?_
      refine jr_iastore jk_249 (by decide) (jl_nlit rfl) ⟨by decide, by decide⟩ dX12_stands_241 ?_
      refine jr_lm (fun s9 => ?_)
      refine jr_iconst dX12_stands_242 ?_
      refine jr_istore_n (lv := [(1, jl_vi (0 : Int)), (0, jl_vr G 206)]) dX12_stands_243 rfl (Nat.le_of_ble_eq_true rfl) rfl ?_
      refine jr_sub [1, 0] rfl ?_
      exact jj_X12_stands_L244 G jl_fu (0 : Int) (jl_nlit rfl) s9
    · refine jr_aload_n dX12_stands_217 0 rfl ?_
      refine jr_getk (i := 56) jc_12 jk_206 (by decide) (Nat.le_of_ble_eq_true rfl) jlk_206_56 jw_1261 dX12_stands_218 ?_
      refine jr_iload_n dX12_stands_221 1 rfl ?_
      refine jr_iconst dX12_stands_222 ?_
      refine jr_grd (fun g16 => ?_)
      refine jr_iastore jk_249 (by decide) hl1 g16 dX12_stands_223 ?_
      refine jr_lm (fun s17 => ?_)
      refine jr_iinc (j := 1) (lv := [(1, jl_vi (jl_add l1 1)), (0, jl_vr G 206)]) dX12_stands_224 rfl (Nat.le_of_ble_eq_true rfl) rfl ?_
      refine jr_goto (t := 211) dX12_stands_227 (by decide) ?_
      refine jr_sub [1, 0] rfl ?_
      exact ih (jl_add l1 1) (jl_n3_to _) s17
def jf_X12_stands_L179 : Nat → Int → jl_Mm → jl_O
  | 0, _, _ => none
  | n + 1, l1, s0 =>
    if jl_g s0 206 52 ≤ l1 then (jf_X12_stands_L211 jl_fu (0 : Int) s0) else (if 0 ≤ l1 ∧ l1 < ((3200 : Nat) : Int) then if 0 ≤ jl_add (1600 : Int) l1 ∧ jl_add (1600 : Int) l1 < ((3200 : Nat) : Int) then jl_lm (jl_up s0 248 (jl_add (1600 : Int) l1).toNat (jl_g s0 248 (l1).toNat)) fun s20 => jf_X12_stands_L179 n (jl_add l1 1) s20 else none else none)
set_option maxRecDepth 20000 in
set_option maxHeartbeats 2000000 in
theorem jj_X12_stands_L179 (G : jl_GC) : ∀ (n : Nat) (l1 : Int) (hl1 : jl_n3 l1) (s0 : jl_Mm), j2 G jM_X12_stands 179 [(0, jl_vr G 206), (1, jl_vi l1)] [] s0 (jf_X12_stands_L179 n l1 s0) := by
  intro n
  induction n with
  | zero =>
    intros
    exact jr_none
  | succ n ih =>
    intro l1 hl1 s0
    refine jr_iload_n dX12_stands_179 1 rfl ?_
    refine jr_aload_n dX12_stands_180 0 rfl ?_
    refine jr_geti (i := 52) jc_12 jk_206 (by decide) (Nat.le_of_ble_eq_true rfl) jlk_206_52 jft_12_52 jw_1257 dX12_stands_181 ?_
    refine jr_icmp_ge (t := 209) dX12_stands_184 (by decide) hl1 (jl_n3_to _) (fun c7 => ?_) (fun c7 => ?_)
    · refine jr_iconst dX12_stands_209 ?_
      refine jr_istore_n (lv := [(1, jl_vi (0 : Int)), (0, jl_vr G 206)]) dX12_stands_210 rfl (Nat.le_of_ble_eq_true rfl) rfl ?_
      refine jr_sub [1, 0] rfl ?_
      exact jj_X12_stands_L211 G jl_fu (0 : Int) (jl_nlit rfl) s0
    · refine jr_aload_n dX12_stands_187 0 rfl ?_
      refine jr_getk (i := 51) jc_12 jk_206 (by decide) (Nat.le_of_ble_eq_true rfl) jlk_206_51 jw_1256 dX12_stands_188 ?_
      refine jr_sipush dX12_stands_191 (by decide) ?_
      refine jr_iload_n dX12_stands_194 1 rfl ?_
      refine jr_iadd dX12_stands_195 ?_
      refine jr_aload_n dX12_stands_196 0 rfl ?_
      refine jr_getk (i := 51) jc_12 jk_206 (by decide) (Nat.le_of_ble_eq_true rfl) jlk_206_51 jw_1256 dX12_stands_197 ?_
      refine jr_iload_n dX12_stands_200 1 rfl ?_
      refine jr_grd (fun g18 => ?_)
      refine jr_iaload jk_248 (by decide) hl1 g18 dX12_stands_201 ?_
      refine jr_grd (fun g19 => ?_)
      refine jr_iastore jk_248 (by decide) (jl_n3_to _) g19 dX12_stands_202 ?_
      refine jr_lm (fun s20 => ?_)
      refine jr_iinc (j := 1) (lv := [(1, jl_vi (jl_add l1 1)), (0, jl_vr G 206)]) dX12_stands_203 rfl (Nat.le_of_ble_eq_true rfl) rfl ?_
      refine jr_goto (t := 179) dX12_stands_206 (by decide) ?_
      refine jr_sub [1, 0] rfl ?_
      exact ih (jl_add l1 1) (jl_n3_to _) s20
def jf_X12_stands_L150 : Nat → Int → jl_Mm → jl_O
  | 0, _, _ => none
  | n + 1, l1, s0 =>
    if (48 : Int) ≤ l1 then (jf_X12_stands_L179 jl_fu (0 : Int) s0) else (if 0 ≤ l1 ∧ l1 < ((96 : Nat) : Int) then if 0 ≤ jl_add (48 : Int) l1 ∧ jl_add (48 : Int) l1 < ((96 : Nat) : Int) then jl_lm (jl_up s0 245 (jl_add (48 : Int) l1).toNat (jl_g s0 245 (l1).toNat)) fun s23 => jf_X12_stands_L150 n (jl_add l1 1) s23 else none else none)
set_option maxRecDepth 20000 in
set_option maxHeartbeats 2000000 in
theorem jj_X12_stands_L150 (G : jl_GC) : ∀ (n : Nat) (l1 : Int) (hl1 : jl_n3 l1) (s0 : jl_Mm), j2 G jM_X12_stands 150 [(0, jl_vr G 206), (1, jl_vi l1)] [] s0 (jf_X12_stands_L150 n l1 s0) := by
  intro n
  induction n with
  | zero =>
    intros
    exact jr_none
  | succ n ih =>
    intro l1 hl1 s0
    refine jr_iload_n dX12_stands_150 1 rfl ?_
    refine jr_bipush dX12_stands_151 (by decide) ?_
    refine jr_icmp_ge (t := 177) dX12_stands_153 (by decide) hl1 (jl_nlit rfl) (fun c6 => ?_) (fun c6 => ?_)
    · refine jr_iconst dX12_stands_177 ?_
      refine jr_istore_n (lv := [(1, jl_vi (0 : Int)), (0, jl_vr G 206)]) dX12_stands_178 rfl (Nat.le_of_ble_eq_true rfl) rfl ?_
      refine jr_sub [1, 0] rfl ?_
      exact jj_X12_stands_L179 G jl_fu (0 : Int) (jl_nlit rfl) s0
    · refine jr_aload_n dX12_stands_156 0 rfl ?_
      refine jr_getk (i := 48) jc_12 jk_206 (by decide) (Nat.le_of_ble_eq_true rfl) jlk_206_48 jw_1253 dX12_stands_157 ?_
      refine jr_bipush dX12_stands_160 (by decide) ?_
      refine jr_iload_n dX12_stands_162 1 rfl ?_
      refine jr_iadd dX12_stands_163 ?_
      refine jr_aload_n dX12_stands_164 0 rfl ?_
      refine jr_getk (i := 48) jc_12 jk_206 (by decide) (Nat.le_of_ble_eq_true rfl) jlk_206_48 jw_1253 dX12_stands_165 ?_
      refine jr_iload_n dX12_stands_168 1 rfl ?_
      refine jr_grd (fun g21 => ?_)
      refine jr_iaload jk_245 (by decide) hl1 g21 dX12_stands_169 ?_
      refine jr_grd (fun g22 => ?_)
      refine jr_iastore jk_245 (by decide) (jl_n3_to _) g22 dX12_stands_170 ?_
      refine jr_lm (fun s23 => ?_)
      refine jr_iinc (j := 1) (lv := [(1, jl_vi (jl_add l1 1)), (0, jl_vr G 206)]) dX12_stands_171 rfl (Nat.le_of_ble_eq_true rfl) rfl ?_
      refine jr_goto (t := 150) dX12_stands_174 (by decide) ?_
      refine jr_sub [1, 0] rfl ?_
      exact ih (jl_add l1 1) (jl_n3_to _) s23
def jf_X12_stands_L121 : Nat → Int → jl_Mm → jl_O
  | 0, _, _ => none
  | n + 1, l1, s0 =>
    if (12 : Int) ≤ l1 then (jf_X12_stands_L150 jl_fu (0 : Int) s0) else (if 0 ≤ l1 ∧ l1 < ((24 : Nat) : Int) then if 0 ≤ jl_add (12 : Int) l1 ∧ jl_add (12 : Int) l1 < ((24 : Nat) : Int) then jl_lm (jl_up s0 243 (jl_add (12 : Int) l1).toNat (jl_g s0 243 (l1).toNat)) fun s26 => jf_X12_stands_L121 n (jl_add l1 1) s26 else none else none)
set_option maxRecDepth 20000 in
set_option maxHeartbeats 2000000 in
theorem jj_X12_stands_L121 (G : jl_GC) : ∀ (n : Nat) (l1 : Int) (hl1 : jl_n3 l1) (s0 : jl_Mm), j2 G jM_X12_stands 121 [(0, jl_vr G 206), (1, jl_vi l1)] [] s0 (jf_X12_stands_L121 n l1 s0) := by
  intro n
  induction n with
  | zero =>
    intros
    exact jr_none
  | succ n ih =>
    intro l1 hl1 s0
    refine jr_iload_n dX12_stands_121 1 rfl ?_
    refine jr_bipush dX12_stands_122 (by decide) ?_
    refine jr_icmp_ge (t := 148) dX12_stands_124 (by decide) hl1 (jl_nlit rfl) (fun c5 => ?_) (fun c5 => ?_)
    · refine jr_iconst dX12_stands_148 ?_
      refine jr_istore_n (lv := [(1, jl_vi (0 : Int)), (0, jl_vr G 206)]) dX12_stands_149 rfl (Nat.le_of_ble_eq_true rfl) rfl ?_
      refine jr_sub [1, 0] rfl ?_
      exact jj_X12_stands_L150 G jl_fu (0 : Int) (jl_nlit rfl) s0
    · refine jr_aload_n dX12_stands_127 0 rfl ?_
      refine jr_getk (i := 46) jc_12 jk_206 (by decide) (Nat.le_of_ble_eq_true rfl) jlk_206_46 jw_1251 dX12_stands_128 ?_
      refine jr_bipush dX12_stands_131 (by decide) ?_
      refine jr_iload_n dX12_stands_133 1 rfl ?_
      refine jr_iadd dX12_stands_134 ?_
      refine jr_aload_n dX12_stands_135 0 rfl ?_
      refine jr_getk (i := 46) jc_12 jk_206 (by decide) (Nat.le_of_ble_eq_true rfl) jlk_206_46 jw_1251 dX12_stands_136 ?_
      refine jr_iload_n dX12_stands_139 1 rfl ?_
      refine jr_grd (fun g24 => ?_)
      refine jr_iaload jk_243 (by decide) hl1 g24 dX12_stands_140 ?_
      refine jr_grd (fun g25 => ?_)
      refine jr_iastore jk_243 (by decide) (jl_n3_to _) g25 dX12_stands_141 ?_
      refine jr_lm (fun s26 => ?_)
      refine jr_iinc (j := 1) (lv := [(1, jl_vi (jl_add l1 1)), (0, jl_vr G 206)]) dX12_stands_142 rfl (Nat.le_of_ble_eq_true rfl) rfl ?_
      refine jr_goto (t := 121) dX12_stands_145 (by decide) ?_
      refine jr_sub [1, 0] rfl ?_
      exact ih (jl_add l1 1) (jl_n3_to _) s26
def jf_X12_stands_L77 : Nat → Int → jl_Mm → jl_O
  | 0, _, _ => none
  | n + 1, l1, s0 =>
    if (16 : Int) ≤ l1 then (jf_X12_stands_L121 jl_fu (0 : Int) s0) else (if 0 ≤ l1 ∧ l1 < ((32 : Nat) : Int) then if 0 ≤ jl_add (16 : Int) l1 ∧ jl_add (16 : Int) l1 < ((32 : Nat) : Int) then jl_lm (jl_up s0 242 (jl_add (16 : Int) l1).toNat (jl_gl s0 242 (l1).toNat)) fun s29 => if 0 ≤ l1 ∧ l1 < ((32 : Nat) : Int) then if 0 ≤ jl_add (16 : Int) l1 ∧ jl_add (16 : Int) l1 < ((32 : Nat) : Int) then jl_lm (jl_up s29 244 (jl_add (16 : Int) l1).toNat (jl_g s29 244 (l1).toNat)) fun s32 => jf_X12_stands_L77 n (jl_add l1 1) s32 else none else none else none else none)
set_option maxRecDepth 20000 in
set_option maxHeartbeats 2000000 in
theorem jj_X12_stands_L77 (G : jl_GC) : ∀ (n : Nat) (l1 : Int) (hl1 : jl_n3 l1) (s0 : jl_Mm), j2 G jM_X12_stands 77 [(0, jl_vr G 206), (1, jl_vi l1)] [] s0 (jf_X12_stands_L77 n l1 s0) := by
  intro n
  induction n with
  | zero =>
    intros
    exact jr_none
  | succ n ih =>
    intro l1 hl1 s0
    refine jr_iload_n dX12_stands_77 1 rfl ?_
    refine jr_bipush dX12_stands_78 (by decide) ?_
    refine jr_icmp_ge (t := 119) dX12_stands_80 (by decide) hl1 (jl_nlit rfl) (fun c4 => ?_) (fun c4 => ?_)
    · refine jr_iconst dX12_stands_119 ?_
      refine jr_istore_n (lv := [(1, jl_vi (0 : Int)), (0, jl_vr G 206)]) dX12_stands_120 rfl (Nat.le_of_ble_eq_true rfl) rfl ?_
      refine jr_sub [1, 0] rfl ?_
      exact jj_X12_stands_L121 G jl_fu (0 : Int) (jl_nlit rfl) s0
    · refine jr_aload_n dX12_stands_83 0 rfl ?_
      refine jr_getk (i := 45) jc_12 jk_206 (by decide) (Nat.le_of_ble_eq_true rfl) jlk_206_45 jw_1250 dX12_stands_84 ?_
      refine jr_bipush dX12_stands_87 (by decide) ?_
      refine jr_iload_n dX12_stands_89 1 rfl ?_
      refine jr_iadd dX12_stands_90 ?_
      refine jr_aload_n dX12_stands_91 0 rfl ?_
      refine jr_getk (i := 45) jc_12 jk_206 (by decide) (Nat.le_of_ble_eq_true rfl) jlk_206_45 jw_1250 dX12_stands_92 ?_
      refine jr_iload_n dX12_stands_95 1 rfl ?_
      refine jr_grd (fun g27 => ?_)
      refine jr_laload jk_242 (by decide) hl1 g27 dX12_stands_96 ?_
      refine jr_grd (fun g28 => ?_)
      refine jr_lastore jk_242 (by decide) (jl_n3_to _) g28 dX12_stands_97 ?_
      refine jr_lm (fun s29 => ?_)
      refine jr_aload_n dX12_stands_98 0 rfl ?_
      refine jr_getk (i := 47) jc_12 jk_206 (by decide) (Nat.le_of_ble_eq_true rfl) jlk_206_47 jw_1252 dX12_stands_99 ?_
      refine jr_bipush dX12_stands_102 (by decide) ?_
      refine jr_iload_n dX12_stands_104 1 rfl ?_
      refine jr_iadd dX12_stands_105 ?_
      refine jr_aload_n dX12_stands_106 0 rfl ?_
      refine jr_getk (i := 47) jc_12 jk_206 (by decide) (Nat.le_of_ble_eq_true rfl) jlk_206_47 jw_1252 dX12_stands_107 ?_
      refine jr_iload_n dX12_stands_110 1 rfl ?_
      refine jr_grd (fun g30 => ?_)
      refine jr_iaload jk_244 (by decide) hl1 g30 dX12_stands_111 ?_
      refine jr_grd (fun g31 => ?_)
      refine jr_iastore jk_244 (by decide) (jl_n3_to _) g31 dX12_stands_112 ?_
      refine jr_lm (fun s32 => ?_)
      refine jr_iinc (j := 1) (lv := [(1, jl_vi (jl_add l1 1)), (0, jl_vr G 206)]) dX12_stands_113 rfl (Nat.le_of_ble_eq_true rfl) rfl ?_
      refine jr_goto (t := 77) dX12_stands_116 (by decide) ?_
      refine jr_sub [1, 0] rfl ?_
      exact ih (jl_add l1 1) (jl_n3_to _) s32
def jf_X12_stands_L36 : Nat → Int → jl_Mm → jl_O
  | 0, _, _ => none
  | n + 1, l1, s0 =>
    if (3 : Int) ≤ l1 then (jf_X12_stands_L77 jl_fu (0 : Int) s0) else (if 0 ≤ l1 ∧ l1 < ((6 : Nat) : Int) then if 0 ≤ jl_add (3 : Int) l1 ∧ jl_add (3 : Int) l1 < ((6 : Nat) : Int) then jl_lm (jl_up s0 246 (jl_add (3 : Int) l1).toNat (jl_g s0 246 (l1).toNat)) fun s35 => if 0 ≤ l1 ∧ l1 < ((6 : Nat) : Int) then if 0 ≤ jl_add (3 : Int) l1 ∧ jl_add (3 : Int) l1 < ((6 : Nat) : Int) then jl_lm (jl_up s35 247 (jl_add (3 : Int) l1).toNat (jl_g s35 247 (l1).toNat)) fun s38 => jf_X12_stands_L36 n (jl_add l1 1) s38 else none else none else none else none)
set_option maxRecDepth 20000 in
set_option maxHeartbeats 2000000 in
theorem jj_X12_stands_L36 (G : jl_GC) : ∀ (n : Nat) (l1 : Int) (hl1 : jl_n3 l1) (s0 : jl_Mm), j2 G jM_X12_stands 36 [(0, jl_vr G 206), (1, jl_vi l1)] [] s0 (jf_X12_stands_L36 n l1 s0) := by
  intro n
  induction n with
  | zero =>
    intros
    exact jr_none
  | succ n ih =>
    intro l1 hl1 s0
    refine jr_iload_n dX12_stands_36 1 rfl ?_
    refine jr_iconst dX12_stands_37 ?_
    refine jr_icmp_ge (t := 75) dX12_stands_38 (by decide) hl1 (jl_nlit rfl) (fun c3 => ?_) (fun c3 => ?_)
    · refine jr_iconst dX12_stands_75 ?_
      refine jr_istore_n (lv := [(1, jl_vi (0 : Int)), (0, jl_vr G 206)]) dX12_stands_76 rfl (Nat.le_of_ble_eq_true rfl) rfl ?_
      refine jr_sub [1, 0] rfl ?_
      exact jj_X12_stands_L77 G jl_fu (0 : Int) (jl_nlit rfl) s0
    · refine jr_aload_n dX12_stands_41 0 rfl ?_
      refine jr_getk (i := 49) jc_12 jk_206 (by decide) (Nat.le_of_ble_eq_true rfl) jlk_206_49 jw_1254 dX12_stands_42 ?_
      refine jr_iconst dX12_stands_45 ?_
      refine jr_iload_n dX12_stands_46 1 rfl ?_
      refine jr_iadd dX12_stands_47 ?_
      refine jr_aload_n dX12_stands_48 0 rfl ?_
      refine jr_getk (i := 49) jc_12 jk_206 (by decide) (Nat.le_of_ble_eq_true rfl) jlk_206_49 jw_1254 dX12_stands_49 ?_
      refine jr_iload_n dX12_stands_52 1 rfl ?_
      refine jr_grd (fun g33 => ?_)
      refine jr_iaload jk_246 (by decide) hl1 g33 dX12_stands_53 ?_
      refine jr_grd (fun g34 => ?_)
      refine jr_iastore jk_246 (by decide) (jl_n3_to _) g34 dX12_stands_54 ?_
      refine jr_lm (fun s35 => ?_)
      refine jr_aload_n dX12_stands_55 0 rfl ?_
      refine jr_getk (i := 50) jc_12 jk_206 (by decide) (Nat.le_of_ble_eq_true rfl) jlk_206_50 jw_1255 dX12_stands_56 ?_
      refine jr_iconst dX12_stands_59 ?_
      refine jr_iload_n dX12_stands_60 1 rfl ?_
      refine jr_iadd dX12_stands_61 ?_
      refine jr_aload_n dX12_stands_62 0 rfl ?_
      refine jr_getk (i := 50) jc_12 jk_206 (by decide) (Nat.le_of_ble_eq_true rfl) jlk_206_50 jw_1255 dX12_stands_63 ?_
      refine jr_iload_n dX12_stands_66 1 rfl ?_
      refine jr_grd (fun g36 => ?_)
      refine jr_iaload jk_247 (by decide) hl1 g36 dX12_stands_67 ?_
      refine jr_grd (fun g37 => ?_)
      refine jr_iastore jk_247 (by decide) (jl_n3_to _) g37 dX12_stands_68 ?_
      refine jr_lm (fun s38 => ?_)
      refine jr_iinc (j := 1) (lv := [(1, jl_vi (jl_add l1 1)), (0, jl_vr G 206)]) dX12_stands_69 rfl (Nat.le_of_ble_eq_true rfl) rfl ?_
      refine jr_goto (t := 36) dX12_stands_72 (by decide) ?_
      refine jr_sub [1, 0] rfl ?_
      exact ih (jl_add l1 1) (jl_n3_to _) s38
def jf_X12_stands_L7 : Nat → Int → jl_Mm → jl_O
  | 0, _, _ => none
  | n + 1, l1, s0 =>
    if (6 : Int) ≤ l1 then (jf_X12_stands_L36 jl_fu (0 : Int) s0) else (if 0 ≤ l1 ∧ l1 < ((12 : Nat) : Int) then if 0 ≤ jl_add (6 : Int) l1 ∧ jl_add (6 : Int) l1 < ((12 : Nat) : Int) then jl_lm (jl_up s0 241 (jl_add (6 : Int) l1).toNat (jl_g s0 241 (l1).toNat)) fun s41 => jf_X12_stands_L7 n (jl_add l1 1) s41 else none else none)
set_option maxRecDepth 20000 in
set_option maxHeartbeats 2000000 in
theorem jj_X12_stands_L7 (G : jl_GC) : ∀ (n : Nat) (l1 : Int) (hl1 : jl_n3 l1) (s0 : jl_Mm), j2 G jM_X12_stands 7 [(0, jl_vr G 206), (1, jl_vi l1)] [] s0 (jf_X12_stands_L7 n l1 s0) := by
  intro n
  induction n with
  | zero =>
    intros
    exact jr_none
  | succ n ih =>
    intro l1 hl1 s0
    refine jr_iload_n dX12_stands_7 1 rfl ?_
    refine jr_bipush dX12_stands_8 (by decide) ?_
    refine jr_icmp_ge (t := 34) dX12_stands_10 (by decide) hl1 (jl_nlit rfl) (fun c2 => ?_) (fun c2 => ?_)
    · refine jr_iconst dX12_stands_34 ?_
      refine jr_istore_n (lv := [(1, jl_vi (0 : Int)), (0, jl_vr G 206)]) dX12_stands_35 rfl (Nat.le_of_ble_eq_true rfl) rfl ?_
      refine jr_sub [1, 0] rfl ?_
      exact jj_X12_stands_L36 G jl_fu (0 : Int) (jl_nlit rfl) s0
    · refine jr_aload_n dX12_stands_13 0 rfl ?_
      refine jr_getk (i := 44) jc_12 jk_206 (by decide) (Nat.le_of_ble_eq_true rfl) jlk_206_44 jw_1249 dX12_stands_14 ?_
      refine jr_bipush dX12_stands_17 (by decide) ?_
      refine jr_iload_n dX12_stands_19 1 rfl ?_
      refine jr_iadd dX12_stands_20 ?_
      refine jr_aload_n dX12_stands_21 0 rfl ?_
      refine jr_getk (i := 44) jc_12 jk_206 (by decide) (Nat.le_of_ble_eq_true rfl) jlk_206_44 jw_1249 dX12_stands_22 ?_
      refine jr_iload_n dX12_stands_25 1 rfl ?_
      refine jr_grd (fun g39 => ?_)
      refine jr_iaload jk_241 (by decide) hl1 g39 dX12_stands_26 ?_
      refine jr_grd (fun g40 => ?_)
      refine jr_iastore jk_241 (by decide) (jl_n3_to _) g40 dX12_stands_27 ?_
      refine jr_lm (fun s41 => ?_)
      refine jr_iinc (j := 1) (lv := [(1, jl_vi (jl_add l1 1)), (0, jl_vr G 206)]) dX12_stands_28 rfl (Nat.le_of_ble_eq_true rfl) rfl ?_
      refine jr_goto (t := 7) dX12_stands_31 (by decide) ?_
      refine jr_sub [1, 0] rfl ?_
      exact ih (jl_add l1 1) (jl_n3_to _) s41
def jf_X12_stands (s0 : jl_Mm) : jl_O :=
  jl_lm (jl_up s0 206 54 (1 : Int)) fun s1 => jf_X12_stands_L7 jl_fu (0 : Int) s1
set_option maxRecDepth 20000 in
set_option maxHeartbeats 2000000 in
theorem jt_X12_stands (G : jl_GC) (s0 : jl_Mm) : jC2 G jM_X12_stands [jl_vr G 206] s0 (jf_X12_stands s0) := by
  refine jl_met (plainFor_of_name rfl) (Nat.le_of_ble_eq_true rfl) ?_
  show j2 G jM_X12_stands 0 [(0, jl_vr G 206)] [] s0 _
  refine jr_aload_n dX12_stands_0 0 rfl ?_
  refine jr_iconst dX12_stands_1 ?_
  refine jr_putz (i := 54) jc_12 jk_206 (by decide) (Nat.le_of_ble_eq_true rfl) jlk_206_54 jft_12_54 rfl (by decide) jw_1259 rfl dX12_stands_2 ?_
  refine jr_lm (fun s1 => ?_)
  refine jr_iconst dX12_stands_5 ?_
  refine jr_istore_n (lv := [(1, jl_vi (0 : Int)), (0, jl_vr G 206)]) dX12_stands_6 rfl (Nat.le_of_ble_eq_true rfl) rfl ?_
  refine jr_sub [1, 0] rfl ?_
  exact jj_X12_stands_L7 G jl_fu (0 : Int) (jl_nlit rfl) s1
def jf_X12_street_B120 (s0 : jl_Mm) : jl_O :=
  jl_lm (jl_up s0 206 7 (jl_g s0 206 5)) fun s14 => jl_lm (jl_up s14 206 8 (jl_g s14 206 6)) fun s15 => if jl_g s15 206 5 = (0 : Int) then (jl_bd (jf_X12_stands s15) fun r17 s18 => some (jl_g s18 206 53, s18)) else (jl_bd (jf_X12_refuses (1 : Int) s15) fun r19 s20 => some (r19, s20))
set_option maxRecDepth 20000 in
set_option maxHeartbeats 2000000 in
theorem jj_X12_street_B120 (G : jl_GC) (s0 : jl_Mm) : j2 G jM_X12_street 120 [(0, jl_vr G 206)] [] s0 (jf_X12_street_B120 s0) := by
  refine jr_aload_n dX12_street_120 0 rfl ?_
  refine jr_aload_n dX12_street_121 0 rfl ?_
  refine jr_geti (i := 5) jc_12 jk_206 (by decide) (Nat.le_of_ble_eq_true rfl) jlk_206_5 jft_12_5 jw_1210 dX12_street_122 ?_
  refine jr_puti (i := 7) jc_12 jk_206 (by decide) (Nat.le_of_ble_eq_true rfl) jlk_206_7 jft_12_7 rfl jw_1212 rfl dX12_street_125 ?_
  refine jr_lm (fun s14 => ?_)
  refine jr_aload_n dX12_street_128 0 rfl ?_
  refine jr_aload_n dX12_street_129 0 rfl ?_
  refine jr_geti (i := 6) jc_12 jk_206 (by decide) (Nat.le_of_ble_eq_true rfl) jlk_206_6 jft_12_6 jw_1211 dX12_street_130 ?_
  refine jr_puti (i := 8) jc_12 jk_206 (by decide) (Nat.le_of_ble_eq_true rfl) jlk_206_8 jft_12_8 rfl jw_1213 rfl dX12_street_133 ?_
  refine jr_lm (fun s15 => ?_)
  refine jr_aload_n dX12_street_136 0 rfl ?_
  refine jr_geti (i := 5) jc_12 jk_206 (by decide) (Nat.le_of_ble_eq_true rfl) jlk_206_5 jft_12_5 jw_1210 dX12_street_137 ?_
  refine jr_if_eq (t := 149) dX12_street_140 (by decide) (jl_n3_to _) (fun c16 => ?_) (fun c16 => ?_)
  · refine jr_aload_n dX12_street_149 0 rfl ?_
    refine j2_callVv (As := []) dX12_street_150 (jt_X12_stands G s15) jv_X12_stands ⟨rfl, rfl, rfl⟩ jw_1731 jk_206 (by decide) (by decide) rfl ⟨Nat.le_of_ble_eq_true rfl, Nat.le_of_ble_eq_true rfl⟩ rfl (Nat.le_of_ble_eq_true rfl) (fun r17 s18 hr17 => ?_)
    refine jr_aload_n dX12_street_153 0 rfl ?_
    refine jr_geti (i := 53) jc_12 jk_206 (by decide) (Nat.le_of_ble_eq_true rfl) jlk_206_53 jft_12_53 jw_1258 dX12_street_154 ?_
    exact jr_ret_i rfl (jl_n3_to _) dX12_street_157
  · refine jr_aload_n dX12_street_143 0 rfl ?_
    refine jr_iconst dX12_street_144 ?_
    refine j2_callVi (As := [jl_vi (1 : Int)]) dX12_street_145 (jt_X12_refuses G (1 : Int) (jl_nlit rfl) s15) jv_X12_refuses ⟨rfl, rfl, rfl⟩ jw_1727 jk_206 (by decide) (by decide) rfl ⟨Nat.le_of_ble_eq_true rfl, Nat.le_of_ble_eq_true rfl⟩ rfl (Nat.le_of_ble_eq_true rfl) (fun r19 s20 hr19 => ?_)
    exact jr_ret_i rfl hr19 dX12_street_148
def jf_X12_street_L98 : Nat → jl_Mm → jl_O
  | 0, _ => none
  | n + 1, s0 =>
    if jl_g s0 206 5 = (0 : Int) then (jl_bd (jf_X12_look s0) fun r21 s22 => if r21 = (-1 : Int) then (jf_X12_street_B120 s22) else (jl_bd (jf_X12_statementTold s22) fun r24 s25 => jf_X12_street_L98 n s25)) else (jf_X12_street_B120 s0)
set_option maxRecDepth 20000 in
set_option maxHeartbeats 2000000 in
theorem jj_X12_street_L98 (G : jl_GC) : ∀ (n : Nat) (s0 : jl_Mm), j2 G jM_X12_street 98 [(0, jl_vr G 206)] [] s0 (jf_X12_street_L98 n s0) := by
  intro n
  induction n with
  | zero =>
    intros
    exact jr_none
  | succ n ih =>
    intro s0
    refine jr_aload_n dX12_street_98 0 rfl ?_
    refine jr_geti (i := 5) jc_12 jk_206 (by decide) (Nat.le_of_ble_eq_true rfl) jlk_206_5 jft_12_5 jw_1210 dX12_street_99 ?_
    refine jr_if_ne (t := 120) dX12_street_102 (by decide) (jl_n3_to _) (fun c13 => ?_) (fun c13 => ?_)
    · refine jr_aload_n dX12_street_105 0 rfl ?_
      refine j2_callVi (As := []) dX12_street_106 (jt_X12_look G s0) jv_X12_look ⟨rfl, rfl, rfl⟩ jw_1570 jk_206 (by decide) (by decide) rfl ⟨Nat.le_of_ble_eq_true rfl, Nat.le_of_ble_eq_true rfl⟩ rfl (Nat.le_of_ble_eq_true rfl) (fun r21 s22 hr21 => ?_)
      refine jr_iconst dX12_street_109 ?_
      refine jr_icmp_eq (t := 120) dX12_street_110 (by decide) hr21 (jl_nlit rfl) (fun c23 => ?_) (fun c23 => ?_)
      · exact jj_X12_street_B120 G s22
      · refine jr_aload_n dX12_street_113 0 rfl ?_
        refine j2_callVv (As := []) dX12_street_114 (jt_X12_statementTold G s22) jv_X12_statementTold ⟨rfl, rfl, rfl⟩ jw_1599 jk_206 (by decide) (by decide) rfl ⟨Nat.le_of_ble_eq_true rfl, Nat.le_of_ble_eq_true rfl⟩ rfl (Nat.le_of_ble_eq_true rfl) (fun r24 s25 hr24 => ?_)
        refine jr_goto (t := 98) dX12_street_117 (by decide) ?_
        exact ih s25
    · exact jj_X12_street_B120 G s0
def jf_X12_street_L71 : Nat → Int → jl_Mm → jl_O
  | 0, _, _ => none
  | n + 1, l1, s0 =>
    if (3 : Int) ≤ l1 then (jl_bd (jf_X12_streetTold s0) fun r10 s11 => jl_lm (jl_up s11 206 53 (1 : Int)) fun s12 => jf_X12_street_L98 jl_fu s12) else (if 0 ≤ l1 ∧ l1 < ((6 : Nat) : Int) then jl_lm (jl_up s0 246 (l1).toNat (-1 : Int)) fun s27 => jf_X12_street_L71 n (jl_add l1 1) s27 else none)
set_option maxRecDepth 20000 in
set_option maxHeartbeats 2000000 in
theorem jj_X12_street_L71 (G : jl_GC) : ∀ (n : Nat) (l1 : Int) (hl1 : jl_n3 l1) (s0 : jl_Mm), j2 G jM_X12_street 71 [(0, jl_vr G 206), (1, jl_vi l1)] [] s0 (jf_X12_street_L71 n l1 s0) := by
  intro n
  induction n with
  | zero =>
    intros
    exact jr_none
  | succ n ih =>
    intro l1 hl1 s0
    refine jr_iload_n dX12_street_71 1 rfl ?_
    refine jr_iconst dX12_street_72 ?_
    refine jr_icmp_ge (t := 89) dX12_street_73 (by decide) hl1 (jl_nlit rfl) (fun c9 => ?_) (fun c9 => ?_)
    · refine jr_aload_n dX12_street_89 0 rfl ?_
      refine j2_callVv (As := []) dX12_street_90 (jt_X12_streetTold G s0) jv_X12_streetTold ⟨rfl, rfl, rfl⟩ jw_1554 jk_206 (by decide) (by decide) rfl ⟨Nat.le_of_ble_eq_true rfl, Nat.le_of_ble_eq_true rfl⟩ rfl (Nat.le_of_ble_eq_true rfl) (fun r10 s11 hr10 => ?_)
      refine jr_aload_n dX12_street_93 0 rfl ?_
      refine jr_iconst dX12_street_94 ?_
      refine jr_puti (i := 53) jc_12 jk_206 (by decide) (Nat.le_of_ble_eq_true rfl) jlk_206_53 jft_12_53 rfl jw_1258 rfl dX12_street_95 ?_
      refine jr_lm (fun s12 => ?_)
      refine jr_sub [0] rfl ?_
      exact jj_X12_street_L98 G jl_fu s12
    · refine jr_aload_n dX12_street_76 0 rfl ?_
      refine jr_getk (i := 49) jc_12 jk_206 (by decide) (Nat.le_of_ble_eq_true rfl) jlk_206_49 jw_1254 dX12_street_77 ?_
      refine jr_iload_n dX12_street_80 1 rfl ?_
      refine jr_iconst dX12_street_81 ?_
      refine jr_grd (fun g26 => ?_)
      refine jr_iastore jk_246 (by decide) hl1 g26 dX12_street_82 ?_
      refine jr_lm (fun s27 => ?_)
      refine jr_iinc (j := 1) (lv := [(1, jl_vi (jl_add l1 1)), (0, jl_vr G 206)]) dX12_street_83 rfl (Nat.le_of_ble_eq_true rfl) rfl ?_
      refine jr_goto (t := 71) dX12_street_86 (by decide) ?_
      refine jr_sub [1, 0] rfl ?_
      exact ih (jl_add l1 1) (jl_n3_to _) s27
def jf_X12_street_B62 (R40 : Int → jl_Mm → jl_O) (l1 : Int) (k1 : Int) (k2 : Int) (s0 : jl_Mm) : jl_O :=
  if 0 ≤ k1 ∧ k1 < ((12 : Nat) : Int) then jl_lm (jl_up s0 241 (k1).toNat k2) fun s30 => R40 (jl_add l1 1) s30 else none
set_option maxRecDepth 20000 in
set_option maxHeartbeats 2000000 in
theorem jj_X12_street_B62 (G : jl_GC) (R40 : Int → jl_Mm → jl_O) (hR40 : ∀ (l1 : Int) (_hl1 : jl_n3 l1) (s0 : jl_Mm), j2 G jM_X12_street 40 [(0, jl_vr G 206), (1, jl_vi l1)] [] s0 (R40 l1 s0)) (l1 : Int) (k1 : Int) (k2 : Int) (hl1 : jl_n3 l1) (hk1 : jl_n3 k1) (hk2 : jl_n3 k2) (s0 : jl_Mm) : j2 G jM_X12_street 62 [(0, jl_vr G 206), (1, jl_vi l1)] [jl_vi k2, jl_vi k1, jl_vr G 241] s0 (jf_X12_street_B62 R40 l1 k1 k2 s0) := by
  refine jr_grd (fun g29 => ?_)
  refine jr_iastore jk_241 (by decide) hk1 g29 dX12_street_62 ?_
  refine jr_lm (fun s30 => ?_)
  refine jr_iinc (j := 1) (lv := [(1, jl_vi (jl_add l1 1)), (0, jl_vr G 206)]) dX12_street_63 rfl (Nat.le_of_ble_eq_true rfl) rfl ?_
  refine jr_goto (t := 40) dX12_street_66 (by decide) ?_
  refine jr_sub [1, 0] rfl ?_
  exact hR40 (jl_add l1 1) (jl_n3_to _) s30
def jf_X12_street_L40 : Nat → Int → jl_Mm → jl_O
  | 0, _, _ => none
  | n + 1, l1, s0 =>
    if (6 : Int) ≤ l1 then (jf_X12_street_L71 jl_fu (0 : Int) s0) else (if l1 = (4 : Int) then (jf_X12_street_B62 (jf_X12_street_L40 n) l1 l1 (100 : Int) s0) else (jf_X12_street_B62 (jf_X12_street_L40 n) l1 l1 (0 : Int) s0))
set_option maxRecDepth 20000 in
set_option maxHeartbeats 2000000 in
theorem jj_X12_street_L40 (G : jl_GC) : ∀ (n : Nat) (l1 : Int) (hl1 : jl_n3 l1) (s0 : jl_Mm), j2 G jM_X12_street 40 [(0, jl_vr G 206), (1, jl_vi l1)] [] s0 (jf_X12_street_L40 n l1 s0) := by
  intro n
  induction n with
  | zero =>
    intros
    exact jr_none
  | succ n ih =>
    intro l1 hl1 s0
    refine jr_iload_n dX12_street_40 1 rfl ?_
    refine jr_bipush dX12_street_41 (by decide) ?_
    refine jr_icmp_ge (t := 69) dX12_street_43 (by decide) hl1 (jl_nlit rfl) (fun c8 => ?_) (fun c8 => ?_)
    · refine jr_iconst dX12_street_69 ?_
      refine jr_istore_n (lv := [(1, jl_vi (0 : Int)), (0, jl_vr G 206)]) dX12_street_70 rfl (Nat.le_of_ble_eq_true rfl) rfl ?_
      refine jr_sub [1, 0] rfl ?_
      exact jj_X12_street_L71 G jl_fu (0 : Int) (jl_nlit rfl) s0
    · refine jr_aload_n dX12_street_46 0 rfl ?_
      refine jr_getk (i := 44) jc_12 jk_206 (by decide) (Nat.le_of_ble_eq_true rfl) jlk_206_44 jw_1249 dX12_street_47 ?_
      refine jr_iload_n dX12_street_50 1 rfl ?_
      refine jr_iload_n dX12_street_51 1 rfl ?_
      refine jr_iconst dX12_street_52 ?_
      refine jr_icmp_ne (t := 61) dX12_street_53 (by decide) hl1 (jl_nlit rfl) (fun c28 => ?_) (fun c28 => ?_)
      · refine jr_bipush dX12_street_56 (by decide) ?_
        refine jr_goto (t := 62) dX12_street_58 (by decide) ?_
        exact jj_X12_street_B62 G (jf_X12_street_L40 n) (ih) l1 l1 (100 : Int) hl1 hl1 (jl_nlit rfl) s0
      · refine jr_iconst dX12_street_61 ?_
        exact jj_X12_street_B62 G (jf_X12_street_L40 n) (ih) l1 l1 (0 : Int) hl1 hl1 (jl_nlit rfl) s0
def jf_X12_street (s0 : jl_Mm) : jl_O :=
  jl_lm (jl_up s0 206 3 (jl_g s0 206 1)) fun s1 => jl_lm (jl_up s1 206 1 (0 : Int)) fun s2 => jl_lm (jl_up s2 206 2 (0 : Int)) fun s3 => jl_lm (jl_up s3 206 4 (-1 : Int)) fun s4 => jl_lm (jl_up s4 206 5 (0 : Int)) fun s5 => jl_lm (jl_up s5 206 6 (-1 : Int)) fun s6 => jl_lm (jl_up s6 206 52 (0 : Int)) fun s7 => jf_X12_street_L40 jl_fu (0 : Int) s7
set_option maxRecDepth 20000 in
set_option maxHeartbeats 2000000 in
theorem jt_X12_street (G : jl_GC) (s0 : jl_Mm) : jC2 G jM_X12_street [jl_vr G 206] s0 (jf_X12_street s0) := by
  refine jl_met (plainFor_of_name rfl) (Nat.le_of_ble_eq_true rfl) ?_
  show j2 G jM_X12_street 0 [(0, jl_vr G 206)] [] s0 _
  refine jr_aload_n dX12_street_0 0 rfl ?_
  refine jr_aload_n dX12_street_1 0 rfl ?_
  refine jr_geti (i := 1) jc_12 jk_206 (by decide) (Nat.le_of_ble_eq_true rfl) jlk_206_1 jft_12_1 jw_1206 dX12_street_2 ?_
  refine jr_puti (i := 3) jc_12 jk_206 (by decide) (Nat.le_of_ble_eq_true rfl) jlk_206_3 jft_12_3 rfl jw_1208 rfl dX12_street_5 ?_
  refine jr_lm (fun s1 => ?_)
  refine jr_aload_n dX12_street_8 0 rfl ?_
  refine jr_iconst dX12_street_9 ?_
  refine jr_puti (i := 1) jc_12 jk_206 (by decide) (Nat.le_of_ble_eq_true rfl) jlk_206_1 jft_12_1 rfl jw_1206 rfl dX12_street_10 ?_
  refine jr_lm (fun s2 => ?_)
  refine jr_aload_n dX12_street_13 0 rfl ?_
  refine jr_iconst dX12_street_14 ?_
  refine jr_puti (i := 2) jc_12 jk_206 (by decide) (Nat.le_of_ble_eq_true rfl) jlk_206_2 jft_12_2 rfl jw_1207 rfl dX12_street_15 ?_
  refine jr_lm (fun s3 => ?_)
  refine jr_aload_n dX12_street_18 0 rfl ?_
  refine jr_iconst dX12_street_19 ?_
  refine jr_puti (i := 4) jc_12 jk_206 (by decide) (Nat.le_of_ble_eq_true rfl) jlk_206_4 jft_12_4 rfl jw_1209 rfl dX12_street_20 ?_
  refine jr_lm (fun s4 => ?_)
  refine jr_aload_n dX12_street_23 0 rfl ?_
  refine jr_iconst dX12_street_24 ?_
  refine jr_puti (i := 5) jc_12 jk_206 (by decide) (Nat.le_of_ble_eq_true rfl) jlk_206_5 jft_12_5 rfl jw_1210 rfl dX12_street_25 ?_
  refine jr_lm (fun s5 => ?_)
  refine jr_aload_n dX12_street_28 0 rfl ?_
  refine jr_iconst dX12_street_29 ?_
  refine jr_puti (i := 6) jc_12 jk_206 (by decide) (Nat.le_of_ble_eq_true rfl) jlk_206_6 jft_12_6 rfl jw_1211 rfl dX12_street_30 ?_
  refine jr_lm (fun s6 => ?_)
  refine jr_aload_n dX12_street_33 0 rfl ?_
  refine jr_iconst dX12_street_34 ?_
  refine jr_puti (i := 52) jc_12 jk_206 (by decide) (Nat.le_of_ble_eq_true rfl) jlk_206_52 jft_12_52 rfl jw_1257 rfl dX12_street_35 ?_
  refine jr_lm (fun s7 => ?_)
  refine jr_iconst dX12_street_38 ?_
  refine jr_istore_n (lv := [(1, jl_vi (0 : Int)), (0, jl_vr G 206)]) dX12_street_39 rfl (Nat.le_of_ble_eq_true rfl) rfl ?_
  refine jr_sub [1, 0] rfl ?_
  exact jj_X12_street_L40 G jl_fu (0 : Int) (jl_nlit rfl) s7
def jf_X12_fault_B24 (k0 : Int) (s0 : jl_Mm) : jl_O :=
  some (k0, s0)
set_option maxRecDepth 20000 in
set_option maxHeartbeats 2000000 in
theorem jj_X12_fault_B24 (G : jl_GC) (k0 : Int) (hk0 : jl_n3 k0) (s0 : jl_Mm) : j2 G jM_X12_fault 24 [] [jl_vi k0] s0 (jf_X12_fault_B24 k0 s0) := by
  exact jr_ret_i rfl hk0 dX12_fault_24
def jf_X12_fault (v1 : Int) (s0 : jl_Mm) : jl_O :=
  if v1 = (0 : Int) then (jf_X12_fault_B24 (jl_g s0 206 7) s0) else (if v1 = (1 : Int) then (jf_X12_fault_B24 (jl_g s0 206 8) s0) else (jf_X12_fault_B24 (-1 : Int) s0))
set_option maxRecDepth 20000 in
set_option maxHeartbeats 2000000 in
theorem jt_X12_fault (G : jl_GC) (v1 : Int) (h1 : jl_n3 v1) (s0 : jl_Mm) : jC2 G jM_X12_fault [jl_vr G 206, jl_vi v1] s0 (jf_X12_fault v1 s0) := by
  refine jl_met (plainFor_of_name rfl) (Nat.le_of_ble_eq_true rfl) ?_
  show j2 G jM_X12_fault 0 [(0, jl_vr G 206), (1, jl_vi v1)] [] s0 _
  refine jr_iload_n dX12_fault_0 1 rfl ?_
  refine jr_if_ne (t := 11) dX12_fault_1 (by decide) h1 (fun c1 => ?_) (fun c1 => ?_)
  · refine jr_aload_n dX12_fault_4 0 rfl ?_
    refine jr_geti (i := 7) jc_12 jk_206 (by decide) (Nat.le_of_ble_eq_true rfl) jlk_206_7 jft_12_7 jw_1212 dX12_fault_5 ?_
    refine jr_goto (t := 24) dX12_fault_8 (by decide) ?_
    refine jr_sub [] rfl ?_
    exact jj_X12_fault_B24 G (jl_g s0 206 7) (jl_n3_to _) s0
  · refine jr_iload_n dX12_fault_11 1 rfl ?_
    refine jr_iconst dX12_fault_12 ?_
    refine jr_icmp_ne (t := 23) dX12_fault_13 (by decide) h1 (jl_nlit rfl) (fun c2 => ?_) (fun c2 => ?_)
    · refine jr_aload_n dX12_fault_16 0 rfl ?_
      refine jr_geti (i := 8) jc_12 jk_206 (by decide) (Nat.le_of_ble_eq_true rfl) jlk_206_8 jft_12_8 jw_1213 dX12_fault_17 ?_
      refine jr_goto (t := 24) dX12_fault_20 (by decide) ?_
      refine jr_sub [] rfl ?_
      exact jj_X12_fault_B24 G (jl_g s0 206 8) (jl_n3_to _) s0
    · refine jr_iconst dX12_fault_23 ?_
      refine jr_sub [] rfl ?_
      exact jj_X12_fault_B24 G (-1 : Int) (jl_nlit rfl) s0
def jf_X12_windowMany (s0 : jl_Mm) : jl_O :=
  some (jl_g s0 241 (((6 : Int) : Int).toNat), s0)
set_option maxRecDepth 20000 in
set_option maxHeartbeats 2000000 in
theorem jt_X12_windowMany (G : jl_GC) (s0 : jl_Mm) : jC2 G jM_X12_windowMany [jl_vr G 206] s0 (jf_X12_windowMany s0) := by
  refine jl_met (plainFor_of_name rfl) (Nat.le_of_ble_eq_true rfl) ?_
  show j2 G jM_X12_windowMany 0 [(0, jl_vr G 206)] [] s0 _
  refine jr_aload_n dX12_windowMany_0 0 rfl ?_
  refine jr_getk (i := 44) jc_12 jk_206 (by decide) (Nat.le_of_ble_eq_true rfl) jlk_206_44 jw_1249 dX12_windowMany_1 ?_
  refine jr_bipush dX12_windowMany_4 (by decide) ?_
  refine jr_iaload jk_241 (by decide) (jl_nlit rfl) ⟨by decide, by decide⟩ dX12_windowMany_6 ?_
  exact jr_ret_i rfl (jl_n3_to _) dX12_windowMany_7
def jf_X12_personMany (s0 : jl_Mm) : jl_O :=
  some (jl_g s0 241 (((7 : Int) : Int).toNat), s0)
set_option maxRecDepth 20000 in
set_option maxHeartbeats 2000000 in
theorem jt_X12_personMany (G : jl_GC) (s0 : jl_Mm) : jC2 G jM_X12_personMany [jl_vr G 206] s0 (jf_X12_personMany s0) := by
  refine jl_met (plainFor_of_name rfl) (Nat.le_of_ble_eq_true rfl) ?_
  show j2 G jM_X12_personMany 0 [(0, jl_vr G 206)] [] s0 _
  refine jr_aload_n dX12_personMany_0 0 rfl ?_
  refine jr_getk (i := 44) jc_12 jk_206 (by decide) (Nat.le_of_ble_eq_true rfl) jlk_206_44 jw_1249 dX12_personMany_1 ?_
  refine jr_bipush dX12_personMany_4 (by decide) ?_
  refine jr_iaload jk_241 (by decide) (jl_nlit rfl) ⟨by decide, by decide⟩ dX12_personMany_6 ?_
  exact jr_ret_i rfl (jl_n3_to _) dX12_personMany_7
def jf_X12_lieMany (s0 : jl_Mm) : jl_O :=
  some (jl_g s0 241 (((8 : Int) : Int).toNat), s0)
set_option maxRecDepth 20000 in
set_option maxHeartbeats 2000000 in
theorem jt_X12_lieMany (G : jl_GC) (s0 : jl_Mm) : jC2 G jM_X12_lieMany [jl_vr G 206] s0 (jf_X12_lieMany s0) := by
  refine jl_met (plainFor_of_name rfl) (Nat.le_of_ble_eq_true rfl) ?_
  show j2 G jM_X12_lieMany 0 [(0, jl_vr G 206)] [] s0 _
  refine jr_aload_n dX12_lieMany_0 0 rfl ?_
  refine jr_getk (i := 44) jc_12 jk_206 (by decide) (Nat.le_of_ble_eq_true rfl) jlk_206_44 jw_1249 dX12_lieMany_1 ?_
  refine jr_bipush dX12_lieMany_4 (by decide) ?_
  refine jr_iaload jk_241 (by decide) (jl_nlit rfl) ⟨by decide, by decide⟩ dX12_lieMany_6 ?_
  exact jr_ret_i rfl (jl_n3_to _) dX12_lieMany_7
def jf_X12_planMany (s0 : jl_Mm) : jl_O :=
  some (jl_g s0 241 (((9 : Int) : Int).toNat), s0)
set_option maxRecDepth 20000 in
set_option maxHeartbeats 2000000 in
theorem jt_X12_planMany (G : jl_GC) (s0 : jl_Mm) : jC2 G jM_X12_planMany [jl_vr G 206] s0 (jf_X12_planMany s0) := by
  refine jl_met (plainFor_of_name rfl) (Nat.le_of_ble_eq_true rfl) ?_
  show j2 G jM_X12_planMany 0 [(0, jl_vr G 206)] [] s0 _
  refine jr_aload_n dX12_planMany_0 0 rfl ?_
  refine jr_getk (i := 44) jc_12 jk_206 (by decide) (Nat.le_of_ble_eq_true rfl) jlk_206_44 jw_1249 dX12_planMany_1 ?_
  refine jr_bipush dX12_planMany_4 (by decide) ?_
  refine jr_iaload jk_241 (by decide) (jl_nlit rfl) ⟨by decide, by decide⟩ dX12_planMany_6 ?_
  exact jr_ret_i rfl (jl_n3_to _) dX12_planMany_7
def jf_X12_isWindow (v1 : Int) (s0 : jl_Mm) : jl_O :=
  jl_bd (jf_X12_windowMany s0) fun r1 s2 => jl_bd (jf_X12_isIn v1 (0 : Int) (jl_sub r1 (1 : Int)) s2) fun r3 s4 => jl_zb r3 s4
set_option maxRecDepth 20000 in
set_option maxHeartbeats 2000000 in
theorem jt_X12_isWindow (G : jl_GC) (v1 : Int) (h1 : jl_n6 v1) (s0 : jl_Mm) : jC2 G jM_X12_isWindow [jl_vr G 206, jl_vl v1] s0 (jf_X12_isWindow v1 s0) := by
  refine jl_met (plainFor_of_name rfl) (Nat.le_of_ble_eq_true rfl) ?_
  show j2 G jM_X12_isWindow 0 [(0, jl_vr G 206), (1, jl_vl v1)] [] s0 _
  refine jr_lload_n dX12_isWindow_0 1 rfl ?_
  refine jr_lconst (v := 0) dX12_isWindow_1 (by decide) ?_
  refine jr_aload_n dX12_isWindow_2 0 rfl ?_
  refine j2_callVi (As := []) dX12_isWindow_3 (jt_X12_windowMany G s0) jv_X12_windowMany ⟨rfl, rfl, rfl⟩ jw_1743 jk_206 (by decide) (by decide) rfl ⟨Nat.le_of_ble_eq_true rfl, Nat.le_of_ble_eq_true rfl⟩ rfl (Nat.le_of_ble_eq_true rfl) (fun r1 s2 hr1 => ?_)
  refine jr_iconst dX12_isWindow_6 ?_
  refine jr_isub dX12_isWindow_7 ?_
  refine jr_i2l dX12_isWindow_8 (jl_n3_to _) ?_
  refine j2_callSz (As := [jl_vl v1, jl_vl (0 : Int), jl_vl (jl_sub r1 (1 : Int))]) dX12_isWindow_9 (jt_X12_isIn G v1 (0 : Int) (jl_sub r1 (1 : Int)) h1 (jl_n6lit rfl) (jl_n36 (jl_n3_to _)) s2) jv_X12_isIn ⟨rfl, rfl, rfl⟩ jw_1588 ⟨Nat.le_of_ble_eq_true rfl, Nat.le_of_ble_eq_true rfl⟩ rfl (Nat.le_of_ble_eq_true rfl) (fun r3 s4 hr3 => ?_)
  exact jr_ret_z rfl dX12_isWindow_12
def jf_X12_isPerson (v1 : Int) (s0 : jl_Mm) : jl_O :=
  jl_bd (jf_X12_personMany s0) fun r1 s2 => jl_bd (jf_X12_isIn v1 (0 : Int) (jl_sub r1 (1 : Int)) s2) fun r3 s4 => jl_zb r3 s4
set_option maxRecDepth 20000 in
set_option maxHeartbeats 2000000 in
theorem jt_X12_isPerson (G : jl_GC) (v1 : Int) (h1 : jl_n3 v1) (s0 : jl_Mm) : jC2 G jM_X12_isPerson [jl_vr G 206, jl_vi v1] s0 (jf_X12_isPerson v1 s0) := by
  refine jl_met (plainFor_of_name rfl) (Nat.le_of_ble_eq_true rfl) ?_
  show j2 G jM_X12_isPerson 0 [(0, jl_vr G 206), (1, jl_vi v1)] [] s0 _
  refine jr_iload_n dX12_isPerson_0 1 rfl ?_
  refine jr_i2l dX12_isPerson_1 h1 ?_
  refine jr_lconst (v := 0) dX12_isPerson_2 (by decide) ?_
  refine jr_aload_n dX12_isPerson_3 0 rfl ?_
  refine j2_callVi (As := []) dX12_isPerson_4 (jt_X12_personMany G s0) jv_X12_personMany ⟨rfl, rfl, rfl⟩ jw_1747 jk_206 (by decide) (by decide) rfl ⟨Nat.le_of_ble_eq_true rfl, Nat.le_of_ble_eq_true rfl⟩ rfl (Nat.le_of_ble_eq_true rfl) (fun r1 s2 hr1 => ?_)
  refine jr_iconst dX12_isPerson_7 ?_
  refine jr_isub dX12_isPerson_8 ?_
  refine jr_i2l dX12_isPerson_9 (jl_n3_to _) ?_
  refine j2_callSz (As := [jl_vl v1, jl_vl (0 : Int), jl_vl (jl_sub r1 (1 : Int))]) dX12_isPerson_10 (jt_X12_isIn G v1 (0 : Int) (jl_sub r1 (1 : Int)) (jl_n36 h1) (jl_n6lit rfl) (jl_n36 (jl_n3_to _)) s2) jv_X12_isIn ⟨rfl, rfl, rfl⟩ jw_1588 ⟨Nat.le_of_ble_eq_true rfl, Nat.le_of_ble_eq_true rfl⟩ rfl (Nat.le_of_ble_eq_true rfl) (fun r3 s4 hr3 => ?_)
  exact jr_ret_z rfl dX12_isPerson_13
def jf_X12_isLie (v1 : Int) (s0 : jl_Mm) : jl_O :=
  jl_bd (jf_X12_lieMany s0) fun r1 s2 => jl_bd (jf_X12_isIn v1 (0 : Int) (jl_sub r1 (1 : Int)) s2) fun r3 s4 => jl_zb r3 s4
set_option maxRecDepth 20000 in
set_option maxHeartbeats 2000000 in
theorem jt_X12_isLie (G : jl_GC) (v1 : Int) (h1 : jl_n6 v1) (s0 : jl_Mm) : jC2 G jM_X12_isLie [jl_vr G 206, jl_vl v1] s0 (jf_X12_isLie v1 s0) := by
  refine jl_met (plainFor_of_name rfl) (Nat.le_of_ble_eq_true rfl) ?_
  show j2 G jM_X12_isLie 0 [(0, jl_vr G 206), (1, jl_vl v1)] [] s0 _
  refine jr_lload_n dX12_isLie_0 1 rfl ?_
  refine jr_lconst (v := 0) dX12_isLie_1 (by decide) ?_
  refine jr_aload_n dX12_isLie_2 0 rfl ?_
  refine j2_callVi (As := []) dX12_isLie_3 (jt_X12_lieMany G s0) jv_X12_lieMany ⟨rfl, rfl, rfl⟩ jw_1751 jk_206 (by decide) (by decide) rfl ⟨Nat.le_of_ble_eq_true rfl, Nat.le_of_ble_eq_true rfl⟩ rfl (Nat.le_of_ble_eq_true rfl) (fun r1 s2 hr1 => ?_)
  refine jr_iconst dX12_isLie_6 ?_
  refine jr_isub dX12_isLie_7 ?_
  refine jr_i2l dX12_isLie_8 (jl_n3_to _) ?_
  refine j2_callSz (As := [jl_vl v1, jl_vl (0 : Int), jl_vl (jl_sub r1 (1 : Int))]) dX12_isLie_9 (jt_X12_isIn G v1 (0 : Int) (jl_sub r1 (1 : Int)) h1 (jl_n6lit rfl) (jl_n36 (jl_n3_to _)) s2) jv_X12_isIn ⟨rfl, rfl, rfl⟩ jw_1588 ⟨Nat.le_of_ble_eq_true rfl, Nat.le_of_ble_eq_true rfl⟩ rfl (Nat.le_of_ble_eq_true rfl) (fun r3 s4 hr3 => ?_)
  exact jr_ret_z rfl dX12_isLie_12
def jf_X12_personOf (v1 : Int) (s0 : jl_Mm) : jl_O :=
  if 0 ≤ jl_add (16 : Int) (jl_mul (2 : Int) v1) ∧ jl_add (16 : Int) (jl_mul (2 : Int) v1) < ((32 : Nat) : Int) then some (jl_g s0 244 (jl_add (16 : Int) (jl_mul (2 : Int) v1)).toNat, s0) else none
set_option maxRecDepth 20000 in
set_option maxHeartbeats 2000000 in
theorem jt_X12_personOf (G : jl_GC) (v1 : Int) (h1 : jl_n3 v1) (s0 : jl_Mm) : jC2 G jM_X12_personOf [jl_vr G 206, jl_vi v1] s0 (jf_X12_personOf v1 s0) := by
  refine jl_met (plainFor_of_name rfl) (Nat.le_of_ble_eq_true rfl) ?_
  show j2 G jM_X12_personOf 0 [(0, jl_vr G 206), (1, jl_vi v1)] [] s0 _
  refine jr_aload_n dX12_personOf_0 0 rfl ?_
  refine jr_getk (i := 47) jc_12 jk_206 (by decide) (Nat.le_of_ble_eq_true rfl) jlk_206_47 jw_1252 dX12_personOf_1 ?_
  refine jr_bipush dX12_personOf_4 (by decide) ?_
  refine jr_iconst dX12_personOf_6 ?_
  refine jr_iload_n dX12_personOf_7 1 rfl ?_
  refine jr_imul dX12_personOf_8 ?_
  refine jr_iadd dX12_personOf_9 ?_
  refine jr_grd (fun g1 => ?_)
  refine jr_iaload jk_244 (by decide) (jl_n3_to _) g1 dX12_personOf_10 ?_
  exact jr_ret_i rfl (jl_n3_to _) dX12_personOf_11
def jf_X12_hangsOn (v1 : Int) (s0 : jl_Mm) : jl_O :=
  if 0 ≤ jl_add (17 : Int) (jl_mul (2 : Int) v1) ∧ jl_add (17 : Int) (jl_mul (2 : Int) v1) < ((32 : Nat) : Int) then some (jl_g s0 244 (jl_add (17 : Int) (jl_mul (2 : Int) v1)).toNat, s0) else none
set_option maxRecDepth 20000 in
set_option maxHeartbeats 2000000 in
theorem jt_X12_hangsOn (G : jl_GC) (v1 : Int) (h1 : jl_n3 v1) (s0 : jl_Mm) : jC2 G jM_X12_hangsOn [jl_vr G 206, jl_vi v1] s0 (jf_X12_hangsOn v1 s0) := by
  refine jl_met (plainFor_of_name rfl) (Nat.le_of_ble_eq_true rfl) ?_
  show j2 G jM_X12_hangsOn 0 [(0, jl_vr G 206), (1, jl_vi v1)] [] s0 _
  refine jr_aload_n dX12_hangsOn_0 0 rfl ?_
  refine jr_getk (i := 47) jc_12 jk_206 (by decide) (Nat.le_of_ble_eq_true rfl) jlk_206_47 jw_1252 dX12_hangsOn_1 ?_
  refine jr_bipush dX12_hangsOn_4 (by decide) ?_
  refine jr_iconst dX12_hangsOn_6 ?_
  refine jr_iload_n dX12_hangsOn_7 1 rfl ?_
  refine jr_imul dX12_hangsOn_8 ?_
  refine jr_iadd dX12_hangsOn_9 ?_
  refine jr_grd (fun g1 => ?_)
  refine jr_iaload jk_244 (by decide) (jl_n3_to _) g1 dX12_hangsOn_10 ?_
  exact jr_ret_i rfl (jl_n3_to _) dX12_hangsOn_11
def jf_X12_windowOf (v1 : Int) (s0 : jl_Mm) : jl_O :=
  jl_bd (jf_X12_personOf v1 s0) fun r1 s2 => if 0 ≤ jl_add (2 : Int) r1 ∧ jl_add (2 : Int) r1 < ((105 : Nat) : Int) then some (jl_g s2 249 (jl_add (2 : Int) r1).toNat, s2) else none
set_option maxRecDepth 20000 in
set_option maxHeartbeats 2000000 in
theorem jt_X12_windowOf (G : jl_GC) (v1 : Int) (h1 : jl_n3 v1) (s0 : jl_Mm) : jC2 G jM_X12_windowOf [jl_vr G 206, jl_vi v1] s0 (jf_X12_windowOf v1 s0) := by
  refine jl_met (plainFor_of_name rfl) (Nat.le_of_ble_eq_true rfl) ?_
  show j2 G jM_X12_windowOf 0 [(0, jl_vr G 206), (1, jl_vi v1)] [] s0 _
  refine jr_aload_n dX12_windowOf_0 0 rfl ?_
  refine jr_getk (i := 56) jc_12 jk_206 (by decide) (Nat.le_of_ble_eq_true rfl) jlk_206_56 jw_1261 dX12_windowOf_1 ?_
  refine jr_iconst dX12_windowOf_4 ?_
  refine jr_aload_n dX12_windowOf_5 0 rfl ?_
  refine jr_iload_n dX12_windowOf_6 1 rfl ?_
  refine j2_callVi (As := [jl_vi v1]) dX12_windowOf_7 (jt_X12_personOf G v1 h1 s0) jv_X12_personOf ⟨rfl, rfl, rfl⟩ jw_1803 jk_206 (by decide) (by decide) rfl ⟨Nat.le_of_ble_eq_true rfl, Nat.le_of_ble_eq_true rfl⟩ rfl (Nat.le_of_ble_eq_true rfl) (fun r1 s2 hr1 => ?_)
  refine jr_iadd dX12_windowOf_10 ?_
  refine jr_grd (fun g3 => ?_)
  refine jr_iaload jk_249 (by decide) (jl_n3_to _) g3 dX12_windowOf_11 ?_
  exact jr_ret_i rfl (jl_n3_to _) dX12_windowOf_12
def jf_X12_isLit_B17 (k0 : Int) (s0 : jl_Mm) : jl_O :=
  jl_zb k0 s0
set_option maxRecDepth 20000 in
set_option maxHeartbeats 2000000 in
theorem jj_X12_isLit_B17 (G : jl_GC) (k0 : Int) (hk0 : jl_n3 k0) (s0 : jl_Mm) : j2 G jM_X12_isLit 17 [] [jl_vi k0] s0 (jf_X12_isLit_B17 k0 s0) := by
  exact jr_ret_z rfl dX12_isLit_17
def jf_X12_isLit (v1 : Int) (s0 : jl_Mm) : jl_O :=
  if 0 ≤ jl_add (8 : Int) v1 ∧ jl_add (8 : Int) v1 < ((105 : Nat) : Int) then if jl_g s0 249 (jl_add (8 : Int) v1).toNat ≤ (0 : Int) then (jf_X12_isLit_B17 (0 : Int) s0) else (jf_X12_isLit_B17 (1 : Int) s0) else none
set_option maxRecDepth 20000 in
set_option maxHeartbeats 2000000 in
theorem jt_X12_isLit (G : jl_GC) (v1 : Int) (h1 : jl_n3 v1) (s0 : jl_Mm) : jC2 G jM_X12_isLit [jl_vr G 206, jl_vi v1] s0 (jf_X12_isLit v1 s0) := by
  refine jl_met (plainFor_of_name rfl) (Nat.le_of_ble_eq_true rfl) ?_
  show j2 G jM_X12_isLit 0 [(0, jl_vr G 206), (1, jl_vi v1)] [] s0 _
  refine jr_aload_n dX12_isLit_0 0 rfl ?_
  refine jr_getk (i := 56) jc_12 jk_206 (by decide) (Nat.le_of_ble_eq_true rfl) jlk_206_56 jw_1261 dX12_isLit_1 ?_
  refine jr_bipush dX12_isLit_4 (by decide) ?_
  refine jr_iload_n dX12_isLit_6 1 rfl ?_
  refine jr_iadd dX12_isLit_7 ?_
  refine jr_grd (fun g1 => ?_)
  refine jr_iaload jk_249 (by decide) (jl_n3_to _) g1 dX12_isLit_8 ?_
  refine jr_if_le (t := 16) dX12_isLit_9 (by decide) (jl_n3_to _) (fun c2 => ?_) (fun c2 => ?_)
  · refine jr_iconst dX12_isLit_16 ?_
    refine jr_sub [] rfl ?_
    exact jj_X12_isLit_B17 G (0 : Int) (jl_nlit rfl) s0
  · refine jr_iconst dX12_isLit_12 ?_
    refine jr_goto (t := 17) dX12_isLit_13 (by decide) ?_
    refine jr_sub [] rfl ?_
    exact jj_X12_isLit_B17 G (1 : Int) (jl_nlit rfl) s0
def jf_X12_litIn_B32 (R4 : Int → Int → Int → jl_Mm → jl_O) (l1 : Int) (l2 : Int) (l3 : Int) (s0 : jl_Mm) : jl_O :=
  R4 l1 l2 (jl_add l3 1) s0
set_option maxRecDepth 20000 in
set_option maxHeartbeats 2000000 in
theorem jj_X12_litIn_B32 (G : jl_GC) (R4 : Int → Int → Int → jl_Mm → jl_O) (hR4 : ∀ (l1 : Int) (l2 : Int) (l3 : Int) (_hl1 : jl_n3 l1) (_hl2 : jl_n3 l2) (_hl3 : jl_n3 l3) (s0 : jl_Mm), j2 G jM_X12_litIn 4 [(0, jl_vr G 206), (1, jl_vi l1), (2, jl_vi l2), (3, jl_vi l3)] [] s0 (R4 l1 l2 l3 s0)) (l1 : Int) (l2 : Int) (l3 : Int) (hl1 : jl_n3 l1) (hl2 : jl_n3 l2) (hl3 : jl_n3 l3) (s0 : jl_Mm) : j2 G jM_X12_litIn 32 [(0, jl_vr G 206), (1, jl_vi l1), (2, jl_vi l2), (3, jl_vi l3)] [] s0 (jf_X12_litIn_B32 R4 l1 l2 l3 s0) := by
  refine jr_iinc (j := 3) (lv := [(3, jl_vi (jl_add l3 1)), (0, jl_vr G 206), (1, jl_vi l1), (2, jl_vi l2)]) dX12_litIn_32 rfl (Nat.le_of_ble_eq_true rfl) rfl ?_
  refine jr_goto (t := 4) dX12_litIn_35 (by decide) ?_
  refine jr_sub [1, 2, 3, 0] rfl ?_
  exact hR4 l1 l2 (jl_add l3 1) hl1 hl2 (jl_n3_to _) s0
def jf_X12_litIn_L4 : Nat → Int → Int → Int → jl_Mm → jl_O
  | 0, _, _, _, _ => none
  | n + 1, l1, l2, l3, s0 =>
    jl_bd (jf_X12_lieMany s0) fun r1 s2 => if r1 ≤ l3 then (some (l2, s2)) else (jl_bd (jf_X12_isLit l3 s2) fun r4 s5 => if r4 = (0 : Int) then (jf_X12_litIn_B32 (jf_X12_litIn_L4 n) l1 l2 l3 s5) else (jl_bd (jf_X12_windowOf l3 s5) fun r7 s8 => if r7 = l1 then (jf_X12_litIn_B32 (jf_X12_litIn_L4 n) l1 (jl_add l2 1) l3 s8) else (jf_X12_litIn_B32 (jf_X12_litIn_L4 n) l1 l2 l3 s8)))
set_option maxRecDepth 20000 in
set_option maxHeartbeats 2000000 in
theorem jj_X12_litIn_L4 (G : jl_GC) : ∀ (n : Nat) (l1 : Int) (l2 : Int) (l3 : Int) (hl1 : jl_n3 l1) (hl2 : jl_n3 l2) (hl3 : jl_n3 l3) (s0 : jl_Mm), j2 G jM_X12_litIn 4 [(0, jl_vr G 206), (1, jl_vi l1), (2, jl_vi l2), (3, jl_vi l3)] [] s0 (jf_X12_litIn_L4 n l1 l2 l3 s0) := by
  intro n
  induction n with
  | zero =>
    intros
    exact jr_none
  | succ n ih =>
    intro l1 l2 l3 hl1 hl2 hl3 s0
    refine jr_iload_n dX12_litIn_4 3 rfl ?_
    refine jr_aload_n dX12_litIn_5 0 rfl ?_
    refine j2_callVi (As := []) dX12_litIn_6 (jt_X12_lieMany G s0) jv_X12_lieMany ⟨rfl, rfl, rfl⟩ jw_1751 jk_206 (by decide) (by decide) rfl ⟨Nat.le_of_ble_eq_true rfl, Nat.le_of_ble_eq_true rfl⟩ rfl (Nat.le_of_ble_eq_true rfl) (fun r1 s2 hr1 => ?_)
    refine jr_icmp_ge (t := 38) dX12_litIn_9 (by decide) hl3 hr1 (fun c3 => ?_) (fun c3 => ?_)
    · refine jr_iload_n dX12_litIn_38 2 rfl ?_
      exact jr_ret_i rfl hl2 dX12_litIn_39
    · refine jr_aload_n dX12_litIn_12 0 rfl ?_
      refine jr_iload_n dX12_litIn_13 3 rfl ?_
      refine j2_callVz (As := [jl_vi l3]) dX12_litIn_14 (jt_X12_isLit G l3 hl3 s2) jv_X12_isLit ⟨rfl, rfl, rfl⟩ jw_1763 jk_206 (by decide) (by decide) rfl ⟨Nat.le_of_ble_eq_true rfl, Nat.le_of_ble_eq_true rfl⟩ rfl (Nat.le_of_ble_eq_true rfl) (fun r4 s5 hr4 => ?_)
      refine jr_if_eq (t := 32) dX12_litIn_17 (by decide) (jl_nz hr4) (fun c6 => ?_) (fun c6 => ?_)
      · exact jj_X12_litIn_B32 G (jf_X12_litIn_L4 n) (ih) l1 l2 l3 hl1 hl2 hl3 s5
      · refine jr_aload_n dX12_litIn_20 0 rfl ?_
        refine jr_iload_n dX12_litIn_21 3 rfl ?_
        refine j2_callVi (As := [jl_vi l3]) dX12_litIn_22 (jt_X12_windowOf G l3 hl3 s5) jv_X12_windowOf ⟨rfl, rfl, rfl⟩ jw_1799 jk_206 (by decide) (by decide) rfl ⟨Nat.le_of_ble_eq_true rfl, Nat.le_of_ble_eq_true rfl⟩ rfl (Nat.le_of_ble_eq_true rfl) (fun r7 s8 hr7 => ?_)
        refine jr_iload_n dX12_litIn_25 1 rfl ?_
        refine jr_icmp_ne (t := 32) dX12_litIn_26 (by decide) hr7 hl1 (fun c9 => ?_) (fun c9 => ?_)
        · refine jr_iinc (j := 2) (lv := [(2, jl_vi (jl_add l2 1)), (0, jl_vr G 206), (1, jl_vi l1), (3, jl_vi l3)]) dX12_litIn_29 rfl (Nat.le_of_ble_eq_true rfl) rfl ?_
          refine jr_sub [1, 2, 0, 3] rfl ?_
          exact jj_X12_litIn_B32 G (jf_X12_litIn_L4 n) (ih) l1 (jl_add l2 1) l3 hl1 (jl_n3_to _) hl3 s8
        · exact jj_X12_litIn_B32 G (jf_X12_litIn_L4 n) (ih) l1 l2 l3 hl1 hl2 hl3 s8
def jf_X12_litIn (v1 : Int) (s0 : jl_Mm) : jl_O :=
  jf_X12_litIn_L4 jl_fu v1 (0 : Int) (0 : Int) s0
set_option maxRecDepth 20000 in
set_option maxHeartbeats 2000000 in
theorem jt_X12_litIn (G : jl_GC) (v1 : Int) (h1 : jl_n3 v1) (s0 : jl_Mm) : jC2 G jM_X12_litIn [jl_vr G 206, jl_vi v1] s0 (jf_X12_litIn v1 s0) := by
  refine jl_met (plainFor_of_name rfl) (Nat.le_of_ble_eq_true rfl) ?_
  show j2 G jM_X12_litIn 0 [(0, jl_vr G 206), (1, jl_vi v1)] [] s0 _
  refine jr_iconst dX12_litIn_0 ?_
  refine jr_istore_n (lv := [(2, jl_vi (0 : Int)), (0, jl_vr G 206), (1, jl_vi v1)]) dX12_litIn_1 rfl (Nat.le_of_ble_eq_true rfl) rfl ?_
  refine jr_iconst dX12_litIn_2 ?_
  refine jr_istore_n (lv := [(3, jl_vi (0 : Int)), (2, jl_vi (0 : Int)), (0, jl_vr G 206), (1, jl_vi v1)]) dX12_litIn_3 rfl (Nat.le_of_ble_eq_true rfl) rfl ?_
  refine jr_sub [2, 3, 1, 0] rfl ?_
  exact jj_X12_litIn_L4 G jl_fu v1 (0 : Int) (0 : Int) h1 (jl_nlit rfl) (jl_nlit rfl) s0
def jf_X12_nearTo_B50 (R4 : Int → Int → Int → jl_Mm → jl_O) (l1 : Int) (l2 : Int) (l3 : Int) (s0 : jl_Mm) : jl_O :=
  R4 l1 l2 (jl_add l3 1) s0
set_option maxRecDepth 20000 in
set_option maxHeartbeats 2000000 in
theorem jj_X12_nearTo_B50 (G : jl_GC) (R4 : Int → Int → Int → jl_Mm → jl_O) (hR4 : ∀ (l1 : Int) (l2 : Int) (l3 : Int) (_hl1 : jl_n3 l1) (_hl2 : jl_n3 l2) (_hl3 : jl_n3 l3) (s0 : jl_Mm), j2 G jM_X12_nearTo 4 [(0, jl_vr G 206), (1, jl_vi l1), (2, jl_vi l2), (3, jl_vi l3)] [] s0 (R4 l1 l2 l3 s0)) (l1 : Int) (l2 : Int) (l3 : Int) (hl1 : jl_n3 l1) (hl2 : jl_n3 l2) (hl3 : jl_n3 l3) (s0 : jl_Mm) : j2 G jM_X12_nearTo 50 [(0, jl_vr G 206), (1, jl_vi l1), (2, jl_vi l2), (3, jl_vi l3)] [] s0 (jf_X12_nearTo_B50 R4 l1 l2 l3 s0) := by
  refine jr_iinc (j := 3) (lv := [(3, jl_vi (jl_add l3 1)), (0, jl_vr G 206), (1, jl_vi l1), (2, jl_vi l2)]) dX12_nearTo_50 rfl (Nat.le_of_ble_eq_true rfl) rfl ?_
  refine jr_goto (t := 4) dX12_nearTo_53 (by decide) ?_
  refine jr_sub [1, 2, 3, 0] rfl ?_
  exact hR4 l1 l2 (jl_add l3 1) hl1 hl2 (jl_n3_to _) s0
def jf_X12_nearTo_L4 : Nat → Int → Int → Int → jl_Mm → jl_O
  | 0, _, _, _, _ => none
  | n + 1, l1, l2, l3, s0 =>
    jl_bd (jf_X12_lieMany s0) fun r1 s2 => if r1 ≤ l3 then (some (l2, s2)) else (if l3 = l1 then (jf_X12_nearTo_B50 (jf_X12_nearTo_L4 n) l1 l2 l3 s2) else (jl_bd (jf_X12_isLit l3 s2) fun r5 s6 => if r5 = (0 : Int) then (jf_X12_nearTo_B50 (jf_X12_nearTo_L4 n) l1 l2 l3 s6) else (jl_bd (jf_X12_windowOf l3 s6) fun r8 s9 => jl_bd (jf_X12_windowOf l1 s9) fun r10 s11 => jl_bd (jf_X12_isIn (jl_sub r8 r10) (-1 : Int) (1 : Int) s11) fun r12 s13 => if r12 = (0 : Int) then (jf_X12_nearTo_B50 (jf_X12_nearTo_L4 n) l1 l2 l3 s13) else (jf_X12_nearTo_B50 (jf_X12_nearTo_L4 n) l1 (jl_add l2 1) l3 s13))))
set_option maxRecDepth 20000 in
set_option maxHeartbeats 2000000 in
theorem jj_X12_nearTo_L4 (G : jl_GC) : ∀ (n : Nat) (l1 : Int) (l2 : Int) (l3 : Int) (hl1 : jl_n3 l1) (hl2 : jl_n3 l2) (hl3 : jl_n3 l3) (s0 : jl_Mm), j2 G jM_X12_nearTo 4 [(0, jl_vr G 206), (1, jl_vi l1), (2, jl_vi l2), (3, jl_vi l3)] [] s0 (jf_X12_nearTo_L4 n l1 l2 l3 s0) := by
  intro n
  induction n with
  | zero =>
    intros
    exact jr_none
  | succ n ih =>
    intro l1 l2 l3 hl1 hl2 hl3 s0
    refine jr_iload_n dX12_nearTo_4 3 rfl ?_
    refine jr_aload_n dX12_nearTo_5 0 rfl ?_
    refine j2_callVi (As := []) dX12_nearTo_6 (jt_X12_lieMany G s0) jv_X12_lieMany ⟨rfl, rfl, rfl⟩ jw_1751 jk_206 (by decide) (by decide) rfl ⟨Nat.le_of_ble_eq_true rfl, Nat.le_of_ble_eq_true rfl⟩ rfl (Nat.le_of_ble_eq_true rfl) (fun r1 s2 hr1 => ?_)
    refine jr_icmp_ge (t := 56) dX12_nearTo_9 (by decide) hl3 hr1 (fun c3 => ?_) (fun c3 => ?_)
    · refine jr_iload_n dX12_nearTo_56 2 rfl ?_
      exact jr_ret_i rfl hl2 dX12_nearTo_57
    · refine jr_iload_n dX12_nearTo_12 3 rfl ?_
      refine jr_iload_n dX12_nearTo_13 1 rfl ?_
      refine jr_icmp_eq (t := 50) dX12_nearTo_14 (by decide) hl3 hl1 (fun c4 => ?_) (fun c4 => ?_)
      · exact jj_X12_nearTo_B50 G (jf_X12_nearTo_L4 n) (ih) l1 l2 l3 hl1 hl2 hl3 s2
      · refine jr_aload_n dX12_nearTo_17 0 rfl ?_
        refine jr_iload_n dX12_nearTo_18 3 rfl ?_
        refine j2_callVz (As := [jl_vi l3]) dX12_nearTo_19 (jt_X12_isLit G l3 hl3 s2) jv_X12_isLit ⟨rfl, rfl, rfl⟩ jw_1763 jk_206 (by decide) (by decide) rfl ⟨Nat.le_of_ble_eq_true rfl, Nat.le_of_ble_eq_true rfl⟩ rfl (Nat.le_of_ble_eq_true rfl) (fun r5 s6 hr5 => ?_)
        refine jr_if_eq (t := 50) dX12_nearTo_22 (by decide) (jl_nz hr5) (fun c7 => ?_) (fun c7 => ?_)
        · exact jj_X12_nearTo_B50 G (jf_X12_nearTo_L4 n) (ih) l1 l2 l3 hl1 hl2 hl3 s6
        · refine jr_aload_n dX12_nearTo_25 0 rfl ?_
          refine jr_iload_n dX12_nearTo_26 3 rfl ?_
          refine j2_callVi (As := [jl_vi l3]) dX12_nearTo_27 (jt_X12_windowOf G l3 hl3 s6) jv_X12_windowOf ⟨rfl, rfl, rfl⟩ jw_1799 jk_206 (by decide) (by decide) rfl ⟨Nat.le_of_ble_eq_true rfl, Nat.le_of_ble_eq_true rfl⟩ rfl (Nat.le_of_ble_eq_true rfl) (fun r8 s9 hr8 => ?_)
          refine jr_aload_n dX12_nearTo_30 0 rfl ?_
          refine jr_iload_n dX12_nearTo_31 1 rfl ?_
          refine j2_callVi (As := [jl_vi l1]) dX12_nearTo_32 (jt_X12_windowOf G l1 hl1 s9) jv_X12_windowOf ⟨rfl, rfl, rfl⟩ jw_1799 jk_206 (by decide) (by decide) rfl ⟨Nat.le_of_ble_eq_true rfl, Nat.le_of_ble_eq_true rfl⟩ rfl (Nat.le_of_ble_eq_true rfl) (fun r10 s11 hr10 => ?_)
          refine jr_isub dX12_nearTo_35 ?_
          refine jr_i2l dX12_nearTo_36 (jl_n3_to _) ?_
          refine jr_ldc2_w (v := -1) dX12_nearTo_37 jw_1807 (by decide) ?_
          refine jr_lconst (v := 1) dX12_nearTo_40 (by decide) ?_
          refine j2_callSz (As := [jl_vl (jl_sub r8 r10), jl_vl (-1 : Int), jl_vl (1 : Int)]) dX12_nearTo_41 (jt_X12_isIn G (jl_sub r8 r10) (-1 : Int) (1 : Int) (jl_n36 (jl_n3_to _)) (jl_n6lit rfl) (jl_n6lit rfl) s11) jv_X12_isIn ⟨rfl, rfl, rfl⟩ jw_1588 ⟨Nat.le_of_ble_eq_true rfl, Nat.le_of_ble_eq_true rfl⟩ rfl (Nat.le_of_ble_eq_true rfl) (fun r12 s13 hr12 => ?_)
          refine jr_if_eq (t := 50) dX12_nearTo_44 (by decide) (jl_nz hr12) (fun c14 => ?_) (fun c14 => ?_)
          · exact jj_X12_nearTo_B50 G (jf_X12_nearTo_L4 n) (ih) l1 l2 l3 hl1 hl2 hl3 s13
          · refine jr_iinc (j := 2) (lv := [(2, jl_vi (jl_add l2 1)), (0, jl_vr G 206), (1, jl_vi l1), (3, jl_vi l3)]) dX12_nearTo_47 rfl (Nat.le_of_ble_eq_true rfl) rfl ?_
            refine jr_sub [1, 2, 0, 3] rfl ?_
            exact jj_X12_nearTo_B50 G (jf_X12_nearTo_L4 n) (ih) l1 (jl_add l2 1) l3 hl1 (jl_n3_to _) hl3 s13
def jf_X12_nearTo (v1 : Int) (s0 : jl_Mm) : jl_O :=
  jf_X12_nearTo_L4 jl_fu v1 (0 : Int) (0 : Int) s0
set_option maxRecDepth 20000 in
set_option maxHeartbeats 2000000 in
theorem jt_X12_nearTo (G : jl_GC) (v1 : Int) (h1 : jl_n3 v1) (s0 : jl_Mm) : jC2 G jM_X12_nearTo [jl_vr G 206, jl_vi v1] s0 (jf_X12_nearTo v1 s0) := by
  refine jl_met (plainFor_of_name rfl) (Nat.le_of_ble_eq_true rfl) ?_
  show j2 G jM_X12_nearTo 0 [(0, jl_vr G 206), (1, jl_vi v1)] [] s0 _
  refine jr_iconst dX12_nearTo_0 ?_
  refine jr_istore_n (lv := [(2, jl_vi (0 : Int)), (0, jl_vr G 206), (1, jl_vi v1)]) dX12_nearTo_1 rfl (Nat.le_of_ble_eq_true rfl) rfl ?_
  refine jr_iconst dX12_nearTo_2 ?_
  refine jr_istore_n (lv := [(3, jl_vi (0 : Int)), (2, jl_vi (0 : Int)), (0, jl_vr G 206), (1, jl_vi v1)]) dX12_nearTo_3 rfl (Nat.le_of_ble_eq_true rfl) rfl ?_
  refine jr_sub [2, 3, 1, 0] rfl ?_
  exact jj_X12_nearTo_L4 G jl_fu v1 (0 : Int) (0 : Int) h1 (jl_nlit rfl) (jl_nlit rfl) s0
def jf_X12_isCoded_B17 (k0 : Int) (s0 : jl_Mm) : jl_O :=
  jl_zb k0 s0
set_option maxRecDepth 20000 in
set_option maxHeartbeats 2000000 in
theorem jj_X12_isCoded_B17 (G : jl_GC) (k0 : Int) (hk0 : jl_n3 k0) (s0 : jl_Mm) : j2 G jM_X12_isCoded 17 [] [jl_vi k0] s0 (jf_X12_isCoded_B17 k0 s0) := by
  exact jr_ret_z rfl dX12_isCoded_17
def jf_X12_isCoded (v1 : Int) (s0 : jl_Mm) : jl_O :=
  if 0 ≤ jl_add (3 : Int) v1 ∧ jl_add (3 : Int) v1 < ((6 : Nat) : Int) then if jl_g s0 246 (jl_add (3 : Int) v1).toNat = (-1 : Int) then (jf_X12_isCoded_B17 (0 : Int) s0) else (jf_X12_isCoded_B17 (1 : Int) s0) else none
set_option maxRecDepth 20000 in
set_option maxHeartbeats 2000000 in
theorem jt_X12_isCoded (G : jl_GC) (v1 : Int) (h1 : jl_n3 v1) (s0 : jl_Mm) : jC2 G jM_X12_isCoded [jl_vr G 206, jl_vi v1] s0 (jf_X12_isCoded v1 s0) := by
  refine jl_met (plainFor_of_name rfl) (Nat.le_of_ble_eq_true rfl) ?_
  show j2 G jM_X12_isCoded 0 [(0, jl_vr G 206), (1, jl_vi v1)] [] s0 _
  refine jr_aload_n dX12_isCoded_0 0 rfl ?_
  refine jr_getk (i := 49) jc_12 jk_206 (by decide) (Nat.le_of_ble_eq_true rfl) jlk_206_49 jw_1254 dX12_isCoded_1 ?_
  refine jr_iconst dX12_isCoded_4 ?_
  refine jr_iload_n dX12_isCoded_5 1 rfl ?_
  refine jr_iadd dX12_isCoded_6 ?_
  refine jr_grd (fun g1 => ?_)
  refine jr_iaload jk_246 (by decide) (jl_n3_to _) g1 dX12_isCoded_7 ?_
  refine jr_iconst dX12_isCoded_8 ?_
  refine jr_icmp_eq (t := 16) dX12_isCoded_9 (by decide) (jl_n3_to _) (jl_nlit rfl) (fun c2 => ?_) (fun c2 => ?_)
  · refine jr_iconst dX12_isCoded_16 ?_
    refine jr_sub [] rfl ?_
    exact jj_X12_isCoded_B17 G (0 : Int) (jl_nlit rfl) s0
  · refine jr_iconst dX12_isCoded_12 ?_
    refine jr_goto (t := 17) dX12_isCoded_13 (by decide) ?_
    refine jr_sub [] rfl ?_
    exact jj_X12_isCoded_B17 G (1 : Int) (jl_nlit rfl) s0
def jf_X12_qClip_B29 (k0 : Int) (s0 : jl_Mm) : jl_O :=
  some (k0, s0)
set_option maxRecDepth 20000 in
set_option maxHeartbeats 2000000 in
theorem jj_X12_qClip_B29 (G : jl_GC) (k0 : Int) (hk0 : jl_n6 k0) (s0 : jl_Mm) : j2 G jM_X12_qClip 29 [] [jl_vl k0] s0 (jf_X12_qClip_B29 k0 s0) := by
  exact jr_ret_l rfl hk0 dX12_qClip_29
def jf_X12_qClip (v1 : Int) (s0 : jl_Mm) : jl_O :=
  if jl_lcmp v1 (1000000 : Int) ≤ (0 : Int) then (if (0 : Int) ≤ jl_lcmp v1 (-1000000 : Int) then (jf_X12_qClip_B29 v1 s0) else (jf_X12_qClip_B29 (-1000000 : Int) s0)) else (jf_X12_qClip_B29 (1000000 : Int) s0)
set_option maxRecDepth 20000 in
set_option maxHeartbeats 2000000 in
theorem jt_X12_qClip (G : jl_GC) (v1 : Int) (h1 : jl_n6 v1) (s0 : jl_Mm) : jC2 G jM_X12_qClip [jl_vl v1] s0 (jf_X12_qClip v1 s0) := by
  refine jl_met (plainFor_of_name rfl) (Nat.le_of_ble_eq_true rfl) ?_
  show j2 G jM_X12_qClip 0 [(0, jl_vl v1)] [] s0 _
  refine jr_lload_n dX12_qClip_0 0 rfl ?_
  refine jr_ldc2_w (v := 1000000) dX12_qClip_1 jw_1815 (by decide) ?_
  refine jr_lcmp dX12_qClip_4 ?_
  refine jr_if_le (t := 14) dX12_qClip_5 (by decide) (jl_n3_to _) (fun c1 => ?_) (fun c1 => ?_)
  · refine jr_lload_n dX12_qClip_14 0 rfl ?_
    refine jr_ldc2_w (v := -1000000) dX12_qClip_15 jw_1816 (by decide) ?_
    refine jr_lcmp dX12_qClip_18 ?_
    refine jr_if_ge (t := 28) dX12_qClip_19 (by decide) (jl_n3_to _) (fun c2 => ?_) (fun c2 => ?_)
    · refine jr_lload_n dX12_qClip_28 0 rfl ?_
      refine jr_sub [] rfl ?_
      exact jj_X12_qClip_B29 G v1 h1 s0
    · refine jr_ldc2_w (v := -1000000) dX12_qClip_22 jw_1816 (by decide) ?_
      refine jr_goto (t := 29) dX12_qClip_25 (by decide) ?_
      refine jr_sub [] rfl ?_
      exact jj_X12_qClip_B29 G (-1000000 : Int) (jl_n6lit rfl) s0
  · refine jr_ldc2_w (v := 1000000) dX12_qClip_8 jw_1815 (by decide) ?_
    refine jr_goto (t := 29) dX12_qClip_11 (by decide) ?_
    refine jr_sub [] rfl ?_
    exact jj_X12_qClip_B29 G (1000000 : Int) (jl_n6lit rfl) s0
def jf_X12_qFloor_B55 (k0 : Int) (s0 : jl_Mm) : jl_O :=
  some (k0, s0)
set_option maxRecDepth 20000 in
set_option maxHeartbeats 2000000 in
theorem jj_X12_qFloor_B55 (G : jl_GC) (k0 : Int) (hk0 : jl_n6 k0) (s0 : jl_Mm) : j2 G jM_X12_qFloor 55 [] [jl_vl k0] s0 (jf_X12_qFloor_B55 k0 s0) := by
  exact jr_ret_l rfl hk0 dX12_qFloor_55
def jf_X12_qFloor_B53 (l4 : Int) (s0 : jl_Mm) : jl_O :=
  jf_X12_qFloor_B55 l4 s0
set_option maxRecDepth 20000 in
set_option maxHeartbeats 2000000 in
theorem jj_X12_qFloor_B53 (G : jl_GC) (l4 : Int) (hl4 : jl_n6 l4) (s0 : jl_Mm) : j2 G jM_X12_qFloor 53 [(4, jl_vl l4)] [] s0 (jf_X12_qFloor_B53 l4 s0) := by
  refine jr_lload dX12_qFloor_53 0 rfl ?_
  refine jr_sub [] rfl ?_
  exact jj_X12_qFloor_B55 G l4 hl4 s0
def jf_X12_qFloor_B43 (l4 : Int) (k0 : Int) (k1 : Int) (s0 : jl_Mm) : jl_O :=
  if k0 = k1 then (jf_X12_qFloor_B53 l4 s0) else (jf_X12_qFloor_B55 (jl_lsub l4 (1 : Int)) s0)
set_option maxRecDepth 20000 in
set_option maxHeartbeats 2000000 in
theorem jj_X12_qFloor_B43 (G : jl_GC) (l4 : Int) (k0 : Int) (k1 : Int) (hl4 : jl_n6 l4) (hk0 : jl_n3 k0) (hk1 : jl_n3 k1) (s0 : jl_Mm) : j2 G jM_X12_qFloor 43 [(4, jl_vl l4)] [jl_vi k1, jl_vi k0] s0 (jf_X12_qFloor_B43 l4 k0 k1 s0) := by
  refine jr_icmp_eq (t := 53) dX12_qFloor_43 (by decide) hk0 hk1 (fun c8 => ?_) (fun c8 => ?_)
  · exact jj_X12_qFloor_B53 G l4 hl4 s0
  · refine jr_lload dX12_qFloor_46 0 rfl ?_
    refine jr_lconst (v := 1) dX12_qFloor_48 (by decide) ?_
    refine jr_lsub dX12_qFloor_49 ?_
    refine jr_goto (t := 55) dX12_qFloor_50 (by decide) ?_
    refine jr_sub [] rfl ?_
    exact jj_X12_qFloor_B55 G (jl_lsub l4 (1 : Int)) (jl_n6_to _) s0
def jf_X12_qFloor_B32 (l2 : Int) (l4 : Int) (k0 : Int) (s0 : jl_Mm) : jl_O :=
  if (0 : Int) ≤ jl_lcmp l2 (0 : Int) then (jf_X12_qFloor_B43 l4 k0 (0 : Int) s0) else (jf_X12_qFloor_B43 l4 k0 (1 : Int) s0)
set_option maxRecDepth 20000 in
set_option maxHeartbeats 2000000 in
theorem jj_X12_qFloor_B32 (G : jl_GC) (l2 : Int) (l4 : Int) (k0 : Int) (hl2 : jl_n6 l2) (hl4 : jl_n6 l4) (hk0 : jl_n3 k0) (s0 : jl_Mm) : j2 G jM_X12_qFloor 32 [(2, jl_vl l2), (4, jl_vl l4)] [jl_vi k0] s0 (jf_X12_qFloor_B32 l2 l4 k0 s0) := by
  refine jr_lload_n dX12_qFloor_32 0 rfl ?_
  refine jr_lconst (v := 0) dX12_qFloor_33 (by decide) ?_
  refine jr_lcmp dX12_qFloor_34 ?_
  refine jr_if_ge (t := 42) dX12_qFloor_35 (by decide) (jl_n3_to _) (fun c7 => ?_) (fun c7 => ?_)
  · refine jr_iconst dX12_qFloor_42 ?_
    refine jr_sub [1] rfl ?_
    exact jj_X12_qFloor_B43 G l4 k0 (0 : Int) hl4 hk0 (jl_nlit rfl) s0
  · refine jr_iconst dX12_qFloor_38 ?_
    refine jr_goto (t := 43) dX12_qFloor_39 (by decide) ?_
    refine jr_sub [1] rfl ?_
    exact jj_X12_qFloor_B43 G l4 k0 (1 : Int) hl4 hk0 (jl_nlit rfl) s0
def jf_X12_qFloor (v1 : Int) (v2 : Int) (s0 : jl_Mm) : jl_O :=
  if jl_lcmp v2 (0 : Int) = (0 : Int) then (some ((0 : Int), s0)) else (if ¬ v2 = 0 then jl_let (jl_ldiv v1 v2) fun x3 => if ¬ v2 = 0 then if jl_lcmp (jl_lrem v1 v2) (0 : Int) = (0 : Int) then (jf_X12_qFloor_B53 x3 s0) else (if (0 : Int) ≤ jl_lcmp v1 (0 : Int) then (jf_X12_qFloor_B32 v2 x3 (0 : Int) s0) else (jf_X12_qFloor_B32 v2 x3 (1 : Int) s0)) else none else none)
set_option maxRecDepth 20000 in
set_option maxHeartbeats 2000000 in
theorem jt_X12_qFloor (G : jl_GC) (v1 : Int) (v2 : Int) (h1 : jl_n6 v1) (h2 : jl_n6 v2) (s0 : jl_Mm) : jC2 G jM_X12_qFloor [jl_vl v1, jl_vl v2] s0 (jf_X12_qFloor v1 v2 s0) := by
  refine jl_met (plainFor_of_name rfl) (Nat.le_of_ble_eq_true rfl) ?_
  show j2 G jM_X12_qFloor 0 [(0, jl_vl v1), (2, jl_vl v2)] [] s0 _
  refine jr_lload_n dX12_qFloor_0 1 rfl ?_
  refine jr_lconst (v := 0) dX12_qFloor_1 (by decide) ?_
  refine jr_lcmp dX12_qFloor_2 ?_
  refine jr_if_ne (t := 8) dX12_qFloor_3 (by decide) (jl_n3_to _) (fun c1 => ?_) (fun c1 => ?_)
  · refine jr_lconst (v := 0) dX12_qFloor_6 (by decide) ?_
    exact jr_ret_l rfl (jl_n6lit rfl) dX12_qFloor_7
  · refine jr_lload_n dX12_qFloor_8 0 rfl ?_
    refine jr_lload_n dX12_qFloor_9 1 rfl ?_
    refine jr_grd (fun g2 => ?_)
    refine jr_ldiv dX12_qFloor_10 h2 g2 ?_
    refine jr_letl (jl_n6_to _) (fun x3 hx3 => ?_)
    refine jr_lstore (lv := [(4, jl_vl x3), (0, jl_vl v1), (2, jl_vl v2)]) dX12_qFloor_11 (Nat.le_of_ble_eq_true rfl) rfl ?_
    refine jr_lload_n dX12_qFloor_13 1 rfl ?_
    refine jr_lload_n dX12_qFloor_14 2 rfl ?_
    refine jr_grd (fun g4 => ?_)
    refine jr_lrem dX12_qFloor_15 h2 g4 ?_
    refine jr_lconst (v := 0) dX12_qFloor_16 (by decide) ?_
    refine jr_lcmp dX12_qFloor_17 ?_
    refine jr_if_eq (t := 53) dX12_qFloor_18 (by decide) (jl_n3_to _) (fun c5 => ?_) (fun c5 => ?_)
    · refine jr_sub [0] rfl ?_
      exact jj_X12_qFloor_B53 G x3 hx3 s0
    · refine jr_lload_n dX12_qFloor_21 1 rfl ?_
      refine jr_lconst (v := 0) dX12_qFloor_22 (by decide) ?_
      refine jr_lcmp dX12_qFloor_23 ?_
      refine jr_if_ge (t := 31) dX12_qFloor_24 (by decide) (jl_n3_to _) (fun c6 => ?_) (fun c6 => ?_)
      · refine jr_iconst dX12_qFloor_31 ?_
        refine jr_sub [2, 0] rfl ?_
        exact jj_X12_qFloor_B32 G v2 x3 (0 : Int) h2 hx3 (jl_nlit rfl) s0
      · refine jr_iconst dX12_qFloor_27 ?_
        refine jr_goto (t := 32) dX12_qFloor_28 (by decide) ?_
        refine jr_sub [2, 0] rfl ?_
        exact jj_X12_qFloor_B32 G v2 x3 (1 : Int) h2 hx3 (jl_nlit rfl) s0
def jf_X12_qPuts (v1 : Int) (s0 : jl_Mm) : jl_O :=
  if 0 ≤ jl_g s0 206 106 ∧ jl_g s0 206 106 < ((1700 : Nat) : Int) then jl_lm (jl_up s0 284 (jl_g s0 206 106).toNat v1) fun s2 => jl_lm (jl_up s2 206 106 (jl_add (jl_g s2 206 106) (1 : Int))) fun s3 => some (0, s3) else none
set_option maxRecDepth 20000 in
set_option maxHeartbeats 2000000 in
theorem jt_X12_qPuts (G : jl_GC) (v1 : Int) (h1 : jl_n6 v1) (s0 : jl_Mm) : jC2 G jM_X12_qPuts [jl_vr G 206, jl_vl v1] s0 (jf_X12_qPuts v1 s0) := by
  refine jl_met (plainFor_of_name rfl) (Nat.le_of_ble_eq_true rfl) ?_
  show j2 G jM_X12_qPuts 0 [(0, jl_vr G 206), (1, jl_vl v1)] [] s0 _
  refine jr_aload_n dX12_qPuts_0 0 rfl ?_
  refine jr_getk (i := 105) jc_12 jk_206 (by decide) (Nat.le_of_ble_eq_true rfl) jlk_206_105 jw_1310 dX12_qPuts_1 ?_
  refine jr_aload_n dX12_qPuts_4 0 rfl ?_
  refine jr_geti (i := 106) jc_12 jk_206 (by decide) (Nat.le_of_ble_eq_true rfl) jlk_206_106 jft_12_106 jw_1311 dX12_qPuts_5 ?_
  refine jr_lload_n dX12_qPuts_8 1 rfl ?_
  refine jr_grd (fun g1 => ?_)
  refine jr_lastore jk_284 (by decide) (jl_n3_to _) g1 dX12_qPuts_9 ?_
  refine jr_lm (fun s2 => ?_)
  refine jr_aload_n dX12_qPuts_10 0 rfl ?_
  refine jr_dup dX12_qPuts_11 rfl ?_
  refine jr_geti (i := 106) jc_12 jk_206 (by decide) (Nat.le_of_ble_eq_true rfl) jlk_206_106 jft_12_106 jw_1311 dX12_qPuts_12 ?_
  refine jr_iconst dX12_qPuts_15 ?_
  refine jr_iadd dX12_qPuts_16 ?_
  refine jr_puti (i := 106) jc_12 jk_206 (by decide) (Nat.le_of_ble_eq_true rfl) jlk_206_106 jft_12_106 rfl jw_1311 rfl dX12_qPuts_17 ?_
  refine jr_lm (fun s3 => ?_)
  exact jr_ret_v rfl dX12_qPuts_20
def jf_X12_qJoins_B273 (s0 : jl_Mm) : jl_O :=
  some (0, s0)
set_option maxRecDepth 20000 in
set_option maxHeartbeats 2000000 in
theorem jj_X12_qJoins_B273 (G : jl_GC) (s0 : jl_Mm) : j2 G jM_X12_qJoins 273 [] [] s0 (jf_X12_qJoins_B273 s0) := by
  exact jr_ret_v rfl dX12_qJoins_273
def jf_X12_qJoins_B161 (k1 : Int) (s0 : jl_Mm) : jl_O :=
  jl_bd (jf_X12_qPuts k1 s0) fun r28 s29 => jf_X12_qJoins_B273 s29
set_option maxRecDepth 20000 in
set_option maxHeartbeats 2000000 in
theorem jj_X12_qJoins_B161 (G : jl_GC) (k1 : Int) (hk1 : jl_n6 k1) (s0 : jl_Mm) : j2 G jM_X12_qJoins 161 [] [jl_vl k1, jl_vr G 206] s0 (jf_X12_qJoins_B161 k1 s0) := by
  refine j2_callVv (As := [jl_vl k1]) dX12_qJoins_161 (jt_X12_qPuts G k1 hk1 s0) jv_X12_qPuts ⟨rfl, rfl, rfl⟩ jw_1787 jk_206 (by decide) (by decide) rfl ⟨Nat.le_of_ble_eq_true rfl, Nat.le_of_ble_eq_true rfl⟩ rfl (Nat.le_of_ble_eq_true rfl) (fun r28 s29 hr28 => ?_)
  refine jr_goto (t := 273) dX12_qJoins_164 (by decide) ?_
  exact jj_X12_qJoins_B273 G s29
def jf_X12_qJoins_B181 (k1 : Int) (s0 : jl_Mm) : jl_O :=
  jl_bd (jf_X12_qPuts k1 s0) fun r32 s33 => jf_X12_qJoins_B273 s33
set_option maxRecDepth 20000 in
set_option maxHeartbeats 2000000 in
theorem jj_X12_qJoins_B181 (G : jl_GC) (k1 : Int) (hk1 : jl_n6 k1) (s0 : jl_Mm) : j2 G jM_X12_qJoins 181 [] [jl_vl k1, jl_vr G 206] s0 (jf_X12_qJoins_B181 k1 s0) := by
  refine j2_callVv (As := [jl_vl k1]) dX12_qJoins_181 (jt_X12_qPuts G k1 hk1 s0) jv_X12_qPuts ⟨rfl, rfl, rfl⟩ jw_1787 jk_206 (by decide) (by decide) rfl ⟨Nat.le_of_ble_eq_true rfl, Nat.le_of_ble_eq_true rfl⟩ rfl (Nat.le_of_ble_eq_true rfl) (fun r32 s33 hr32 => ?_)
  refine jr_goto (t := 273) dX12_qJoins_184 (by decide) ?_
  exact jj_X12_qJoins_B273 G s33
def jf_X12_qJoins_B200 (k1 : Int) (s0 : jl_Mm) : jl_O :=
  jl_bd (jf_X12_qPuts k1 s0) fun r36 s37 => jf_X12_qJoins_B273 s37
set_option maxRecDepth 20000 in
set_option maxHeartbeats 2000000 in
theorem jj_X12_qJoins_B200 (G : jl_GC) (k1 : Int) (hk1 : jl_n6 k1) (s0 : jl_Mm) : j2 G jM_X12_qJoins 200 [] [jl_vl k1, jl_vr G 206] s0 (jf_X12_qJoins_B200 k1 s0) := by
  refine j2_callVv (As := [jl_vl k1]) dX12_qJoins_200 (jt_X12_qPuts G k1 hk1 s0) jv_X12_qPuts ⟨rfl, rfl, rfl⟩ jw_1787 jk_206 (by decide) (by decide) rfl ⟨Nat.le_of_ble_eq_true rfl, Nat.le_of_ble_eq_true rfl⟩ rfl (Nat.le_of_ble_eq_true rfl) (fun r36 s37 hr36 => ?_)
  refine jr_goto (t := 273) dX12_qJoins_203 (by decide) ?_
  exact jj_X12_qJoins_B273 G s37
def jf_X12_qJoins_B219 (k1 : Int) (s0 : jl_Mm) : jl_O :=
  jl_bd (jf_X12_qPuts k1 s0) fun r40 s41 => jf_X12_qJoins_B273 s41
set_option maxRecDepth 20000 in
set_option maxHeartbeats 2000000 in
theorem jj_X12_qJoins_B219 (G : jl_GC) (k1 : Int) (hk1 : jl_n6 k1) (s0 : jl_Mm) : j2 G jM_X12_qJoins 219 [] [jl_vl k1, jl_vr G 206] s0 (jf_X12_qJoins_B219 k1 s0) := by
  refine j2_callVv (As := [jl_vl k1]) dX12_qJoins_219 (jt_X12_qPuts G k1 hk1 s0) jv_X12_qPuts ⟨rfl, rfl, rfl⟩ jw_1787 jk_206 (by decide) (by decide) rfl ⟨Nat.le_of_ble_eq_true rfl, Nat.le_of_ble_eq_true rfl⟩ rfl (Nat.le_of_ble_eq_true rfl) (fun r40 s41 hr40 => ?_)
  refine jr_goto (t := 273) dX12_qJoins_222 (by decide) ?_
  exact jj_X12_qJoins_B273 G s41
def jf_X12_qJoins_B238 (k1 : Int) (s0 : jl_Mm) : jl_O :=
  jl_bd (jf_X12_qPuts k1 s0) fun r44 s45 => jf_X12_qJoins_B273 s45
set_option maxRecDepth 20000 in
set_option maxHeartbeats 2000000 in
theorem jj_X12_qJoins_B238 (G : jl_GC) (k1 : Int) (hk1 : jl_n6 k1) (s0 : jl_Mm) : j2 G jM_X12_qJoins 238 [] [jl_vl k1, jl_vr G 206] s0 (jf_X12_qJoins_B238 k1 s0) := by
  refine j2_callVv (As := [jl_vl k1]) dX12_qJoins_238 (jt_X12_qPuts G k1 hk1 s0) jv_X12_qPuts ⟨rfl, rfl, rfl⟩ jw_1787 jk_206 (by decide) (by decide) rfl ⟨Nat.le_of_ble_eq_true rfl, Nat.le_of_ble_eq_true rfl⟩ rfl (Nat.le_of_ble_eq_true rfl) (fun r44 s45 hr44 => ?_)
  refine jr_goto (t := 273) dX12_qJoins_241 (by decide) ?_
  exact jj_X12_qJoins_B273 G s45
def jf_X12_qJoins_B270 (k1 : Int) (s0 : jl_Mm) : jl_O :=
  jl_bd (jf_X12_qPuts k1 s0) fun r50 s51 => jf_X12_qJoins_B273 s51
set_option maxRecDepth 20000 in
set_option maxHeartbeats 2000000 in
theorem jj_X12_qJoins_B270 (G : jl_GC) (k1 : Int) (hk1 : jl_n6 k1) (s0 : jl_Mm) : j2 G jM_X12_qJoins 270 [] [jl_vl k1, jl_vr G 206] s0 (jf_X12_qJoins_B270 k1 s0) := by
  refine j2_callVv (As := [jl_vl k1]) dX12_qJoins_270 (jt_X12_qPuts G k1 hk1 s0) jv_X12_qPuts ⟨rfl, rfl, rfl⟩ jw_1787 jk_206 (by decide) (by decide) rfl ⟨Nat.le_of_ble_eq_true rfl, Nat.le_of_ble_eq_true rfl⟩ rfl (Nat.le_of_ble_eq_true rfl) (fun r50 s51 hr50 => ?_)
  exact jj_X12_qJoins_B273 G s51
def jf_X12_qJoins (v1 : Int) (s0 : jl_Mm) : jl_O :=
  if 0 ≤ jl_sub (jl_g s0 206 106) (1 : Int) ∧ jl_sub (jl_g s0 206 106) (1 : Int) < ((1700 : Nat) : Int) then jl_let (jl_gl s0 284 (jl_sub (jl_g s0 206 106) (1 : Int)).toNat) fun x2 => if 0 ≤ jl_sub (jl_g s0 206 106) (2 : Int) ∧ jl_sub (jl_g s0 206 106) (2 : Int) < ((1700 : Nat) : Int) then jl_let (jl_gl s0 284 (jl_sub (jl_g s0 206 106) (2 : Int)).toNat) fun x4 => jl_lm (jl_up s0 206 106 (jl_sub (jl_g s0 206 106) (2 : Int))) fun s5 => if v1 = 1 then (jl_bd (jf_X12_qClip (jl_ladd x4 x2) s5) fun r7 s8 => jl_bd (jf_X12_qPuts r7 s8) fun r9 s10 => jf_X12_qJoins_B273 s10) else if v1 = 2 then (jl_bd (jf_X12_qClip (jl_lsub x4 x2) s5) fun r12 s13 => jl_bd (jf_X12_qPuts r12 s13) fun r14 s15 => jf_X12_qJoins_B273 s15) else if v1 = 3 then (jl_bd (jf_X12_qClip (jl_lmul x4 x2) s5) fun r17 s18 => jl_bd (jf_X12_qPuts r17 s18) fun r19 s20 => jf_X12_qJoins_B273 s20) else if v1 = 4 then (jl_bd (jf_X12_qFloor x4 x2 s5) fun r22 s23 => jl_bd (jf_X12_qPuts r22 s23) fun r24 s25 => jf_X12_qJoins_B273 s25) else if v1 = 5 then (if (0 : Int) ≤ jl_lcmp x4 x2 then (jf_X12_qJoins_B161 x2 s5) else (jf_X12_qJoins_B161 x4 s5)) else if v1 = 6 then (if jl_lcmp x4 x2 ≤ (0 : Int) then (jf_X12_qJoins_B181 x2 s5) else (jf_X12_qJoins_B181 x4 s5)) else if v1 = 7 then (if (0 : Int) ≤ jl_lcmp x4 x2 then (jf_X12_qJoins_B200 (0 : Int) s5) else (jf_X12_qJoins_B200 (1 : Int) s5)) else if v1 = 8 then (if jl_lcmp x4 x2 ≤ (0 : Int) then (jf_X12_qJoins_B219 (0 : Int) s5) else (jf_X12_qJoins_B219 (1 : Int) s5)) else if v1 = 9 then (if jl_lcmp x4 x2 = (0 : Int) then (jf_X12_qJoins_B238 (1 : Int) s5) else (jf_X12_qJoins_B238 (0 : Int) s5)) else if v1 = 10 then (jl_bd (jf_X12_qPuts (jl_lmul x4 x2) s5) fun r47 s48 => jf_X12_qJoins_B273 s48) else (if jl_lcmp (jl_ladd x4 x2) (0 : Int) ≤ (0 : Int) then (jf_X12_qJoins_B270 (0 : Int) s5) else (jf_X12_qJoins_B270 (1 : Int) s5)) else none else none
set_option maxRecDepth 20000 in
set_option maxHeartbeats 2000000 in
theorem jt_X12_qJoins (G : jl_GC) (v1 : Int) (h1 : jl_n3 v1) (s0 : jl_Mm) : jC2 G jM_X12_qJoins [jl_vr G 206, jl_vi v1] s0 (jf_X12_qJoins v1 s0) := by
  refine jl_met (plainFor_of_name rfl) (Nat.le_of_ble_eq_true rfl) ?_
  show j2 G jM_X12_qJoins 0 [(0, jl_vr G 206), (1, jl_vi v1)] [] s0 _
  refine jr_aload_n dX12_qJoins_0 0 rfl ?_
  refine jr_getk (i := 105) jc_12 jk_206 (by decide) (Nat.le_of_ble_eq_true rfl) jlk_206_105 jw_1310 dX12_qJoins_1 ?_
  refine jr_aload_n dX12_qJoins_4 0 rfl ?_
  refine jr_geti (i := 106) jc_12 jk_206 (by decide) (Nat.le_of_ble_eq_true rfl) jlk_206_106 jft_12_106 jw_1311 dX12_qJoins_5 ?_
  refine jr_iconst dX12_qJoins_8 ?_
  refine jr_isub dX12_qJoins_9 ?_
  refine jr_grd (fun g1 => ?_)
  refine jr_laload jk_284 (by decide) (jl_n3_to _) g1 dX12_qJoins_10 ?_
  refine jr_letl (jl_n6_to _) (fun x2 hx2 => ?_)
  refine jr_lstore_n (lv := [(2, jl_vl x2), (0, jl_vr G 206), (1, jl_vi v1)]) dX12_qJoins_11 rfl (Nat.le_of_ble_eq_true rfl) rfl ?_
  refine jr_aload_n dX12_qJoins_12 1 rfl ?_
  refine jr_getk (i := 105) jc_12 jk_206 (by decide) (Nat.le_of_ble_eq_true rfl) jlk_206_105 jw_1310 dX12_qJoins_13 ?_
  refine jr_aload_n dX12_qJoins_16 1 rfl ?_
  refine jr_geti (i := 106) jc_12 jk_206 (by decide) (Nat.le_of_ble_eq_true rfl) jlk_206_106 jft_12_106 jw_1311 dX12_qJoins_17 ?_
  refine jr_iconst dX12_qJoins_20 ?_
  refine jr_isub dX12_qJoins_21 ?_
  refine jr_grd (fun g3 => ?_)
  refine jr_laload jk_284 (by decide) (jl_n3_to _) g3 dX12_qJoins_22 ?_
  refine jr_letl (jl_n6_to _) (fun x4 hx4 => ?_)
  refine jr_lstore (lv := [(4, jl_vl x4), (2, jl_vl x2), (0, jl_vr G 206), (1, jl_vi v1)]) dX12_qJoins_23 (Nat.le_of_ble_eq_true rfl) rfl ?_
  refine jr_aload_n dX12_qJoins_25 2 rfl ?_
  refine jr_dup dX12_qJoins_26 rfl ?_
  refine jr_geti (i := 106) jc_12 jk_206 (by decide) (Nat.le_of_ble_eq_true rfl) jlk_206_106 jft_12_106 jw_1311 dX12_qJoins_27 ?_
  refine jr_iconst dX12_qJoins_30 ?_
  refine jr_isub dX12_qJoins_31 ?_
  refine jr_puti (i := 106) jc_12 jk_206 (by decide) (Nat.le_of_ble_eq_true rfl) jlk_206_106 jft_12_106 rfl jw_1311 rfl dX12_qJoins_32 ?_
  refine jr_lm (fun s5 => ?_)
  refine jr_iload_n dX12_qJoins_35 3 rfl ?_
  refine jr_ite (fun c6 => ?_) (fun c6 => ?_)
  · refine jr_tabIn (t := 92) dX12_qJoins_36 h1 (by omega) (by omega) (by rw [c6]; rfl) (by decide) ?_
    refine jr_aload_n dX12_qJoins_92 2 rfl ?_
    refine jr_lload dX12_qJoins_93 0 rfl ?_
    refine jr_lload_n dX12_qJoins_95 1 rfl ?_
    refine jr_ladd dX12_qJoins_96 ?_
    refine j2_callSl (As := [jl_vl (jl_ladd x4 x2)]) dX12_qJoins_97 (jt_X12_qClip G (jl_ladd x4 x2) (jl_n6_to _) s5) jv_X12_qClip ⟨rfl, rfl, rfl⟩ jw_1812 ⟨Nat.le_of_ble_eq_true rfl, Nat.le_of_ble_eq_true rfl⟩ rfl (Nat.le_of_ble_eq_true rfl) (fun r7 s8 hr7 => ?_)
    refine j2_callVv (As := [jl_vl r7]) dX12_qJoins_100 (jt_X12_qPuts G r7 hr7 s8) jv_X12_qPuts ⟨rfl, rfl, rfl⟩ jw_1787 jk_206 (by decide) (by decide) rfl ⟨Nat.le_of_ble_eq_true rfl, Nat.le_of_ble_eq_true rfl⟩ rfl (Nat.le_of_ble_eq_true rfl) (fun r9 s10 hr9 => ?_)
    refine jr_goto (t := 273) dX12_qJoins_103 (by decide) ?_
    refine jr_sub [] rfl ?_
    exact jj_X12_qJoins_B273 G s10
  · skip
    refine jr_ite (fun c11 => ?_) (fun c11 => ?_)
    · refine jr_tabIn (t := 106) dX12_qJoins_36 h1 (by omega) (by omega) (by rw [c11]; rfl) (by decide) ?_
      refine jr_aload_n dX12_qJoins_106 2 rfl ?_
      refine jr_lload dX12_qJoins_107 0 rfl ?_
      refine jr_lload_n dX12_qJoins_109 1 rfl ?_
      refine jr_lsub dX12_qJoins_110 ?_
      refine j2_callSl (As := [jl_vl (jl_lsub x4 x2)]) dX12_qJoins_111 (jt_X12_qClip G (jl_lsub x4 x2) (jl_n6_to _) s5) jv_X12_qClip ⟨rfl, rfl, rfl⟩ jw_1812 ⟨Nat.le_of_ble_eq_true rfl, Nat.le_of_ble_eq_true rfl⟩ rfl (Nat.le_of_ble_eq_true rfl) (fun r12 s13 hr12 => ?_)
      refine j2_callVv (As := [jl_vl r12]) dX12_qJoins_114 (jt_X12_qPuts G r12 hr12 s13) jv_X12_qPuts ⟨rfl, rfl, rfl⟩ jw_1787 jk_206 (by decide) (by decide) rfl ⟨Nat.le_of_ble_eq_true rfl, Nat.le_of_ble_eq_true rfl⟩ rfl (Nat.le_of_ble_eq_true rfl) (fun r14 s15 hr14 => ?_)
      refine jr_goto (t := 273) dX12_qJoins_117 (by decide) ?_
      refine jr_sub [] rfl ?_
      exact jj_X12_qJoins_B273 G s15
    · skip
      refine jr_ite (fun c16 => ?_) (fun c16 => ?_)
      · refine jr_tabIn (t := 120) dX12_qJoins_36 h1 (by omega) (by omega) (by rw [c16]; rfl) (by decide) ?_
        refine jr_aload_n dX12_qJoins_120 2 rfl ?_
        refine jr_lload dX12_qJoins_121 0 rfl ?_
        refine jr_lload_n dX12_qJoins_123 1 rfl ?_
        refine jr_lmul dX12_qJoins_124 ?_
        refine j2_callSl (As := [jl_vl (jl_lmul x4 x2)]) dX12_qJoins_125 (jt_X12_qClip G (jl_lmul x4 x2) (jl_n6_to _) s5) jv_X12_qClip ⟨rfl, rfl, rfl⟩ jw_1812 ⟨Nat.le_of_ble_eq_true rfl, Nat.le_of_ble_eq_true rfl⟩ rfl (Nat.le_of_ble_eq_true rfl) (fun r17 s18 hr17 => ?_)
        refine j2_callVv (As := [jl_vl r17]) dX12_qJoins_128 (jt_X12_qPuts G r17 hr17 s18) jv_X12_qPuts ⟨rfl, rfl, rfl⟩ jw_1787 jk_206 (by decide) (by decide) rfl ⟨Nat.le_of_ble_eq_true rfl, Nat.le_of_ble_eq_true rfl⟩ rfl (Nat.le_of_ble_eq_true rfl) (fun r19 s20 hr19 => ?_)
        refine jr_goto (t := 273) dX12_qJoins_131 (by decide) ?_
        refine jr_sub [] rfl ?_
        exact jj_X12_qJoins_B273 G s20
      · skip
        refine jr_ite (fun c21 => ?_) (fun c21 => ?_)
        · refine jr_tabIn (t := 134) dX12_qJoins_36 h1 (by omega) (by omega) (by rw [c21]; rfl) (by decide) ?_
          refine jr_aload_n dX12_qJoins_134 2 rfl ?_
          refine jr_lload dX12_qJoins_135 0 rfl ?_
          refine jr_lload_n dX12_qJoins_137 1 rfl ?_
          refine j2_callSl (As := [jl_vl x4, jl_vl x2]) dX12_qJoins_138 (jt_X12_qFloor G x4 x2 hx4 hx2 s5) jv_X12_qFloor ⟨rfl, rfl, rfl⟩ jw_1817 ⟨Nat.le_of_ble_eq_true rfl, Nat.le_of_ble_eq_true rfl⟩ rfl (Nat.le_of_ble_eq_true rfl) (fun r22 s23 hr22 => ?_)
          refine j2_callVv (As := [jl_vl r22]) dX12_qJoins_141 (jt_X12_qPuts G r22 hr22 s23) jv_X12_qPuts ⟨rfl, rfl, rfl⟩ jw_1787 jk_206 (by decide) (by decide) rfl ⟨Nat.le_of_ble_eq_true rfl, Nat.le_of_ble_eq_true rfl⟩ rfl (Nat.le_of_ble_eq_true rfl) (fun r24 s25 hr24 => ?_)
          refine jr_goto (t := 273) dX12_qJoins_144 (by decide) ?_
          refine jr_sub [] rfl ?_
          exact jj_X12_qJoins_B273 G s25
        · skip
          refine jr_ite (fun c26 => ?_) (fun c26 => ?_)
          · refine jr_tabIn (t := 147) dX12_qJoins_36 h1 (by omega) (by omega) (by rw [c26]; rfl) (by decide) ?_
            refine jr_aload_n dX12_qJoins_147 2 rfl ?_
            refine jr_lload dX12_qJoins_148 0 rfl ?_
            refine jr_lload_n dX12_qJoins_150 1 rfl ?_
            refine jr_lcmp dX12_qJoins_151 ?_
            refine jr_if_ge (t := 160) dX12_qJoins_152 (by decide) (jl_n3_to _) (fun c27 => ?_) (fun c27 => ?_)
            · refine jr_lload_n dX12_qJoins_160 1 rfl ?_
              refine jr_sub [] rfl ?_
              exact jj_X12_qJoins_B161 G x2 hx2 s5
            · refine jr_lload dX12_qJoins_155 0 rfl ?_
              refine jr_goto (t := 161) dX12_qJoins_157 (by decide) ?_
              refine jr_sub [] rfl ?_
              exact jj_X12_qJoins_B161 G x4 hx4 s5
          · skip
            refine jr_ite (fun c30 => ?_) (fun c30 => ?_)
            · refine jr_tabIn (t := 167) dX12_qJoins_36 h1 (by omega) (by omega) (by rw [c30]; rfl) (by decide) ?_
              refine jr_aload_n dX12_qJoins_167 2 rfl ?_
              refine jr_lload dX12_qJoins_168 0 rfl ?_
              refine jr_lload_n dX12_qJoins_170 1 rfl ?_
              refine jr_lcmp dX12_qJoins_171 ?_
              refine jr_if_le (t := 180) dX12_qJoins_172 (by decide) (jl_n3_to _) (fun c31 => ?_) (fun c31 => ?_)
              · refine jr_lload_n dX12_qJoins_180 1 rfl ?_
                refine jr_sub [] rfl ?_
                exact jj_X12_qJoins_B181 G x2 hx2 s5
              · refine jr_lload dX12_qJoins_175 0 rfl ?_
                refine jr_goto (t := 181) dX12_qJoins_177 (by decide) ?_
                refine jr_sub [] rfl ?_
                exact jj_X12_qJoins_B181 G x4 hx4 s5
            · skip
              refine jr_ite (fun c34 => ?_) (fun c34 => ?_)
              · refine jr_tabIn (t := 187) dX12_qJoins_36 h1 (by omega) (by omega) (by rw [c34]; rfl) (by decide) ?_
                refine jr_aload_n dX12_qJoins_187 2 rfl ?_
                refine jr_lload dX12_qJoins_188 0 rfl ?_
                refine jr_lload_n dX12_qJoins_190 1 rfl ?_
                refine jr_lcmp dX12_qJoins_191 ?_
                refine jr_if_ge (t := 199) dX12_qJoins_192 (by decide) (jl_n3_to _) (fun c35 => ?_) (fun c35 => ?_)
                · refine jr_lconst (v := 0) dX12_qJoins_199 (by decide) ?_
                  refine jr_sub [] rfl ?_
                  exact jj_X12_qJoins_B200 G (0 : Int) (jl_n6lit rfl) s5
                · refine jr_lconst (v := 1) dX12_qJoins_195 (by decide) ?_
                  refine jr_goto (t := 200) dX12_qJoins_196 (by decide) ?_
                  refine jr_sub [] rfl ?_
                  exact jj_X12_qJoins_B200 G (1 : Int) (jl_n6lit rfl) s5
              · skip
                refine jr_ite (fun c38 => ?_) (fun c38 => ?_)
                · refine jr_tabIn (t := 206) dX12_qJoins_36 h1 (by omega) (by omega) (by rw [c38]; rfl) (by decide) ?_
                  refine jr_aload_n dX12_qJoins_206 2 rfl ?_
                  refine jr_lload dX12_qJoins_207 0 rfl ?_
                  refine jr_lload_n dX12_qJoins_209 1 rfl ?_
                  refine jr_lcmp dX12_qJoins_210 ?_
                  refine jr_if_le (t := 218) dX12_qJoins_211 (by decide) (jl_n3_to _) (fun c39 => ?_) (fun c39 => ?_)
                  · refine jr_lconst (v := 0) dX12_qJoins_218 (by decide) ?_
                    refine jr_sub [] rfl ?_
                    exact jj_X12_qJoins_B219 G (0 : Int) (jl_n6lit rfl) s5
                  · refine jr_lconst (v := 1) dX12_qJoins_214 (by decide) ?_
                    refine jr_goto (t := 219) dX12_qJoins_215 (by decide) ?_
                    refine jr_sub [] rfl ?_
                    exact jj_X12_qJoins_B219 G (1 : Int) (jl_n6lit rfl) s5
                · skip
                  refine jr_ite (fun c42 => ?_) (fun c42 => ?_)
                  · refine jr_tabIn (t := 225) dX12_qJoins_36 h1 (by omega) (by omega) (by rw [c42]; rfl) (by decide) ?_
                    refine jr_aload_n dX12_qJoins_225 2 rfl ?_
                    refine jr_lload dX12_qJoins_226 0 rfl ?_
                    refine jr_lload_n dX12_qJoins_228 1 rfl ?_
                    refine jr_lcmp dX12_qJoins_229 ?_
                    refine jr_if_ne (t := 237) dX12_qJoins_230 (by decide) (jl_n3_to _) (fun c43 => ?_) (fun c43 => ?_)
                    · refine jr_lconst (v := 1) dX12_qJoins_233 (by decide) ?_
                      refine jr_goto (t := 238) dX12_qJoins_234 (by decide) ?_
                      refine jr_sub [] rfl ?_
                      exact jj_X12_qJoins_B238 G (1 : Int) (jl_n6lit rfl) s5
                    · refine jr_lconst (v := 0) dX12_qJoins_237 (by decide) ?_
                      refine jr_sub [] rfl ?_
                      exact jj_X12_qJoins_B238 G (0 : Int) (jl_n6lit rfl) s5
                  · skip
                    refine jr_ite (fun c46 => ?_) (fun c46 => ?_)
                    · refine jr_tabIn (t := 244) dX12_qJoins_36 h1 (by omega) (by omega) (by rw [c46]; rfl) (by decide) ?_
                      refine jr_aload_n dX12_qJoins_244 2 rfl ?_
                      refine jr_lload dX12_qJoins_245 0 rfl ?_
                      refine jr_lload_n dX12_qJoins_247 1 rfl ?_
                      refine jr_lmul dX12_qJoins_248 ?_
                      refine j2_callVv (As := [jl_vl (jl_lmul x4 x2)]) dX12_qJoins_249 (jt_X12_qPuts G (jl_lmul x4 x2) (jl_n6_to _) s5) jv_X12_qPuts ⟨rfl, rfl, rfl⟩ jw_1787 jk_206 (by decide) (by decide) rfl ⟨Nat.le_of_ble_eq_true rfl, Nat.le_of_ble_eq_true rfl⟩ rfl (Nat.le_of_ble_eq_true rfl) (fun r47 s48 hr47 => ?_)
                      refine jr_goto (t := 273) dX12_qJoins_252 (by decide) ?_
                      refine jr_sub [] rfl ?_
                      exact jj_X12_qJoins_B273 G s48
                    · skip
                      refine jr_tabOut (t := 255) dX12_qJoins_36 h1 (by omega) (by decide) ?_
                      refine jr_aload_n dX12_qJoins_255 2 rfl ?_
                      refine jr_lload dX12_qJoins_256 0 rfl ?_
                      refine jr_lload_n dX12_qJoins_258 1 rfl ?_
                      refine jr_ladd dX12_qJoins_259 ?_
                      refine jr_lconst (v := 0) dX12_qJoins_260 (by decide) ?_
                      refine jr_lcmp dX12_qJoins_261 ?_
                      refine jr_if_le (t := 269) dX12_qJoins_262 (by decide) (jl_n3_to _) (fun c49 => ?_) (fun c49 => ?_)
                      · refine jr_lconst (v := 0) dX12_qJoins_269 (by decide) ?_
                        refine jr_sub [] rfl ?_
                        exact jj_X12_qJoins_B270 G (0 : Int) (jl_n6lit rfl) s5
                      · refine jr_lconst (v := 1) dX12_qJoins_265 (by decide) ?_
                        refine jr_goto (t := 270) dX12_qJoins_266 (by decide) ?_
                        refine jr_sub [] rfl ?_
                        exact jj_X12_qJoins_B270 G (1 : Int) (jl_n6lit rfl) s5
def jf_X12_qPartOf_B161 (k0 : Int) (s0 : jl_Mm) : jl_O :=
  some (k0, s0)
set_option maxRecDepth 20000 in
set_option maxHeartbeats 2000000 in
theorem jj_X12_qPartOf_B161 (G : jl_GC) (k0 : Int) (hk0 : jl_n6 k0) (s0 : jl_Mm) : j2 G jM_X12_qPartOf 161 [] [jl_vl k0] s0 (jf_X12_qPartOf_B161 k0 s0) := by
  exact jr_ret_l rfl hk0 dX12_qPartOf_161
def jf_X12_qPartOf (v1 : Int) (v2 : Int) (s0 : jl_Mm) : jl_O :=
  if v1 = 0 then (some (jl_g s0 249 (((0 : Int) : Int).toNat), s0)) else if v1 = 1 then (some (jl_g s0 206 58, s0)) else if v1 = 2 then (if 0 ≤ jl_add (8 : Int) (jl_g s0 206 57) ∧ jl_add (8 : Int) (jl_g s0 206 57) < ((105 : Nat) : Int) then some (jl_g s0 249 (jl_add (8 : Int) (jl_g s0 206 57)).toNat, s0) else none) else if v1 = 3 then (jl_bd (jf_X12_nearTo (jl_g s0 206 57) s0) fun r6 s7 => some (r6, s7)) else if v1 = 4 then (jl_bd (jf_X12_windowOf (jl_g s0 206 57) s0) fun r9 s10 => if 0 ≤ r9 ∧ r9 < ((30 : Nat) : Int) then some (jl_g s10 250 (r9).toNat, s10) else none) else if v1 = 5 then (if 0 ≤ jl_add (16 : Int) (jl_g s0 206 57) ∧ jl_add (16 : Int) (jl_g s0 206 57) < ((105 : Nat) : Int) then some (jl_g s0 249 (jl_add (16 : Int) (jl_g s0 206 57)).toNat, s0) else none) else if v1 = 6 then (jl_bd (jf_X12_personOf (jl_g s0 206 57) s0) fun r15 s16 => if 0 ≤ jl_add (13 : Int) (jl_mul (2 : Int) r15) ∧ jl_add (13 : Int) (jl_mul (2 : Int) r15) < ((24 : Nat) : Int) then some (jl_g s16 243 (jl_add (13 : Int) (jl_mul (2 : Int) r15)).toNat, s16) else none) else if v1 = 7 then (some (jl_g s0 206 57, s0)) else if v1 = 8 then (jl_bd (jf_X12_isLit (jl_g s0 206 57) s0) fun r20 s21 => if r20 = (0 : Int) then (jf_X12_qPartOf_B161 (0 : Int) s21) else (jf_X12_qPartOf_B161 (1 : Int) s21)) else (some (jl_and (jl_shr (jl_g s0 206 59) (jl_g s0 206 57)) (1 : Int), s0))
set_option maxRecDepth 20000 in
set_option maxHeartbeats 2000000 in
theorem jt_X12_qPartOf (G : jl_GC) (v1 : Int) (v2 : Int) (h1 : jl_n3 v1) (h2 : jl_n3 v2) (s0 : jl_Mm) : jC2 G jM_X12_qPartOf [jl_vr G 206, jl_vi v1, jl_vi v2] s0 (jf_X12_qPartOf v1 v2 s0) := by
  refine jl_met (plainFor_of_name rfl) (Nat.le_of_ble_eq_true rfl) ?_
  show j2 G jM_X12_qPartOf 0 [(0, jl_vr G 206), (1, jl_vi v1), (2, jl_vi v2)] [] s0 _
  refine jr_iload_n dX12_qPartOf_0 1 rfl ?_
  refine jr_ite (fun c1 => ?_) (fun c1 => ?_)
  · refine jr_tabIn (t := 52) dX12_qPartOf_1 h1 (by omega) (by omega) (by rw [c1]; rfl) (by decide) ?_
    refine jr_aload_n dX12_qPartOf_52 0 rfl ?_
    refine jr_getk (i := 56) jc_12 jk_206 (by decide) (Nat.le_of_ble_eq_true rfl) jlk_206_56 jw_1261 dX12_qPartOf_53 ?_
    refine jr_iconst dX12_qPartOf_56 ?_
    refine jr_iaload jk_249 (by decide) (jl_nlit rfl) ⟨by decide, by decide⟩ dX12_qPartOf_57 ?_
    refine jr_i2l dX12_qPartOf_58 (jl_n3_to _) ?_
    exact jr_ret_l rfl (jl_n36 (jl_n3_to _)) dX12_qPartOf_59
  · skip
    refine jr_ite (fun c2 => ?_) (fun c2 => ?_)
    · refine jr_tabIn (t := 60) dX12_qPartOf_1 h1 (by omega) (by omega) (by rw [c2]; rfl) (by decide) ?_
      refine jr_aload_n dX12_qPartOf_60 0 rfl ?_
      refine jr_geti (i := 58) jc_12 jk_206 (by decide) (Nat.le_of_ble_eq_true rfl) jlk_206_58 jft_12_58 jw_1263 dX12_qPartOf_61 ?_
      refine jr_i2l dX12_qPartOf_64 (jl_n3_to _) ?_
      exact jr_ret_l rfl (jl_n36 (jl_n3_to _)) dX12_qPartOf_65
    · skip
      refine jr_ite (fun c3 => ?_) (fun c3 => ?_)
      · refine jr_tabIn (t := 66) dX12_qPartOf_1 h1 (by omega) (by omega) (by rw [c3]; rfl) (by decide) ?_
        refine jr_aload_n dX12_qPartOf_66 0 rfl ?_
        refine jr_getk (i := 56) jc_12 jk_206 (by decide) (Nat.le_of_ble_eq_true rfl) jlk_206_56 jw_1261 dX12_qPartOf_67 ?_
        refine jr_bipush dX12_qPartOf_70 (by decide) ?_
        refine jr_aload_n dX12_qPartOf_72 0 rfl ?_
        refine jr_geti (i := 57) jc_12 jk_206 (by decide) (Nat.le_of_ble_eq_true rfl) jlk_206_57 jft_12_57 jw_1262 dX12_qPartOf_73 ?_
        refine jr_iadd dX12_qPartOf_76 ?_
        refine jr_grd (fun g4 => ?_)
        refine jr_iaload jk_249 (by decide) (jl_n3_to _) g4 dX12_qPartOf_77 ?_
        refine jr_i2l dX12_qPartOf_78 (jl_n3_to _) ?_
        exact jr_ret_l rfl (jl_n36 (jl_n3_to _)) dX12_qPartOf_79
      · skip
        refine jr_ite (fun c5 => ?_) (fun c5 => ?_)
        · refine jr_tabIn (t := 80) dX12_qPartOf_1 h1 (by omega) (by omega) (by rw [c5]; rfl) (by decide) ?_
          refine jr_aload_n dX12_qPartOf_80 0 rfl ?_
          refine jr_aload_n dX12_qPartOf_81 0 rfl ?_
          refine jr_geti (i := 57) jc_12 jk_206 (by decide) (Nat.le_of_ble_eq_true rfl) jlk_206_57 jft_12_57 jw_1262 dX12_qPartOf_82 ?_
          refine j2_callVi (As := [jl_vi (jl_g s0 206 57)]) dX12_qPartOf_85 (jt_X12_nearTo G (jl_g s0 206 57) (jl_n3_to _) s0) jv_X12_nearTo ⟨rfl, rfl, rfl⟩ jw_1795 jk_206 (by decide) (by decide) rfl ⟨Nat.le_of_ble_eq_true rfl, Nat.le_of_ble_eq_true rfl⟩ rfl (Nat.le_of_ble_eq_true rfl) (fun r6 s7 hr6 => ?_)
          refine jr_i2l dX12_qPartOf_88 hr6 ?_
          exact jr_ret_l rfl (jl_n36 hr6) dX12_qPartOf_89
        · skip
          refine jr_ite (fun c8 => ?_) (fun c8 => ?_)
          · refine jr_tabIn (t := 90) dX12_qPartOf_1 h1 (by omega) (by omega) (by rw [c8]; rfl) (by decide) ?_
            refine jr_aload_n dX12_qPartOf_90 0 rfl ?_
            refine jr_getk (i := 60) jc_12 jk_206 (by decide) (Nat.le_of_ble_eq_true rfl) jlk_206_60 jw_1265 dX12_qPartOf_91 ?_
            refine jr_aload_n dX12_qPartOf_94 0 rfl ?_
            refine jr_aload_n dX12_qPartOf_95 0 rfl ?_
            refine jr_geti (i := 57) jc_12 jk_206 (by decide) (Nat.le_of_ble_eq_true rfl) jlk_206_57 jft_12_57 jw_1262 dX12_qPartOf_96 ?_
            refine j2_callVi (As := [jl_vi (jl_g s0 206 57)]) dX12_qPartOf_99 (jt_X12_windowOf G (jl_g s0 206 57) (jl_n3_to _) s0) jv_X12_windowOf ⟨rfl, rfl, rfl⟩ jw_1799 jk_206 (by decide) (by decide) rfl ⟨Nat.le_of_ble_eq_true rfl, Nat.le_of_ble_eq_true rfl⟩ rfl (Nat.le_of_ble_eq_true rfl) (fun r9 s10 hr9 => ?_)
            refine jr_grd (fun g11 => ?_)
            refine jr_iaload jk_250 (by decide) hr9 g11 dX12_qPartOf_102 ?_
            refine jr_i2l dX12_qPartOf_103 (jl_n3_to _) ?_
            exact jr_ret_l rfl (jl_n36 (jl_n3_to _)) dX12_qPartOf_104
          · skip
            refine jr_ite (fun c12 => ?_) (fun c12 => ?_)
            · refine jr_tabIn (t := 105) dX12_qPartOf_1 h1 (by omega) (by omega) (by rw [c12]; rfl) (by decide) ?_
              refine jr_aload_n dX12_qPartOf_105 0 rfl ?_
              refine jr_getk (i := 56) jc_12 jk_206 (by decide) (Nat.le_of_ble_eq_true rfl) jlk_206_56 jw_1261 dX12_qPartOf_106 ?_
              refine jr_bipush dX12_qPartOf_109 (by decide) ?_
              refine jr_aload_n dX12_qPartOf_111 0 rfl ?_
              refine jr_geti (i := 57) jc_12 jk_206 (by decide) (Nat.le_of_ble_eq_true rfl) jlk_206_57 jft_12_57 jw_1262 dX12_qPartOf_112 ?_
              refine jr_iadd dX12_qPartOf_115 ?_
              refine jr_grd (fun g13 => ?_)
              refine jr_iaload jk_249 (by decide) (jl_n3_to _) g13 dX12_qPartOf_116 ?_
              refine jr_i2l dX12_qPartOf_117 (jl_n3_to _) ?_
              exact jr_ret_l rfl (jl_n36 (jl_n3_to _)) dX12_qPartOf_118
            · skip
              refine jr_ite (fun c14 => ?_) (fun c14 => ?_)
              · refine jr_tabIn (t := 119) dX12_qPartOf_1 h1 (by omega) (by omega) (by rw [c14]; rfl) (by decide) ?_
                refine jr_aload_n dX12_qPartOf_119 0 rfl ?_
                refine jr_getk (i := 46) jc_12 jk_206 (by decide) (Nat.le_of_ble_eq_true rfl) jlk_206_46 jw_1251 dX12_qPartOf_120 ?_
                refine jr_bipush dX12_qPartOf_123 (by decide) ?_
                refine jr_iconst dX12_qPartOf_125 ?_
                refine jr_aload_n dX12_qPartOf_126 0 rfl ?_
                refine jr_aload_n dX12_qPartOf_127 0 rfl ?_
                refine jr_geti (i := 57) jc_12 jk_206 (by decide) (Nat.le_of_ble_eq_true rfl) jlk_206_57 jft_12_57 jw_1262 dX12_qPartOf_128 ?_
                refine j2_callVi (As := [jl_vi (jl_g s0 206 57)]) dX12_qPartOf_131 (jt_X12_personOf G (jl_g s0 206 57) (jl_n3_to _) s0) jv_X12_personOf ⟨rfl, rfl, rfl⟩ jw_1803 jk_206 (by decide) (by decide) rfl ⟨Nat.le_of_ble_eq_true rfl, Nat.le_of_ble_eq_true rfl⟩ rfl (Nat.le_of_ble_eq_true rfl) (fun r15 s16 hr15 => ?_)
                refine jr_imul dX12_qPartOf_134 ?_
                refine jr_iadd dX12_qPartOf_135 ?_
                refine jr_grd (fun g17 => ?_)
                refine jr_iaload jk_243 (by decide) (jl_n3_to _) g17 dX12_qPartOf_136 ?_
                refine jr_i2l dX12_qPartOf_137 (jl_n3_to _) ?_
                exact jr_ret_l rfl (jl_n36 (jl_n3_to _)) dX12_qPartOf_138
              · skip
                refine jr_ite (fun c18 => ?_) (fun c18 => ?_)
                · refine jr_tabIn (t := 139) dX12_qPartOf_1 h1 (by omega) (by omega) (by rw [c18]; rfl) (by decide) ?_
                  refine jr_aload_n dX12_qPartOf_139 0 rfl ?_
                  refine jr_geti (i := 57) jc_12 jk_206 (by decide) (Nat.le_of_ble_eq_true rfl) jlk_206_57 jft_12_57 jw_1262 dX12_qPartOf_140 ?_
                  refine jr_i2l dX12_qPartOf_143 (jl_n3_to _) ?_
                  exact jr_ret_l rfl (jl_n36 (jl_n3_to _)) dX12_qPartOf_144
                · skip
                  refine jr_ite (fun c19 => ?_) (fun c19 => ?_)
                  · refine jr_tabIn (t := 145) dX12_qPartOf_1 h1 (by omega) (by omega) (by rw [c19]; rfl) (by decide) ?_
                    refine jr_aload_n dX12_qPartOf_145 0 rfl ?_
                    refine jr_aload_n dX12_qPartOf_146 0 rfl ?_
                    refine jr_geti (i := 57) jc_12 jk_206 (by decide) (Nat.le_of_ble_eq_true rfl) jlk_206_57 jft_12_57 jw_1262 dX12_qPartOf_147 ?_
                    refine j2_callVz (As := [jl_vi (jl_g s0 206 57)]) dX12_qPartOf_150 (jt_X12_isLit G (jl_g s0 206 57) (jl_n3_to _) s0) jv_X12_isLit ⟨rfl, rfl, rfl⟩ jw_1763 jk_206 (by decide) (by decide) rfl ⟨Nat.le_of_ble_eq_true rfl, Nat.le_of_ble_eq_true rfl⟩ rfl (Nat.le_of_ble_eq_true rfl) (fun r20 s21 hr20 => ?_)
                    refine jr_if_eq (t := 160) dX12_qPartOf_153 (by decide) (jl_nz hr20) (fun c22 => ?_) (fun c22 => ?_)
                    · refine jr_lconst (v := 0) dX12_qPartOf_160 (by decide) ?_
                      refine jr_sub [] rfl ?_
                      exact jj_X12_qPartOf_B161 G (0 : Int) (jl_n6lit rfl) s21
                    · refine jr_lconst (v := 1) dX12_qPartOf_156 (by decide) ?_
                      refine jr_goto (t := 161) dX12_qPartOf_157 (by decide) ?_
                      refine jr_sub [] rfl ?_
                      exact jj_X12_qPartOf_B161 G (1 : Int) (jl_n6lit rfl) s21
                  · skip
                    refine jr_tabOut (t := 162) dX12_qPartOf_1 h1 (by omega) (by decide) ?_
                    refine jr_aload_n dX12_qPartOf_162 0 rfl ?_
                    refine jr_geti (i := 59) jc_12 jk_206 (by decide) (Nat.le_of_ble_eq_true rfl) jlk_206_59 jft_12_59 jw_1264 dX12_qPartOf_163 ?_
                    refine jr_aload_n dX12_qPartOf_166 0 rfl ?_
                    refine jr_geti (i := 57) jc_12 jk_206 (by decide) (Nat.le_of_ble_eq_true rfl) jlk_206_57 jft_12_57 jw_1262 dX12_qPartOf_167 ?_
                    refine jr_ishr dX12_qPartOf_170 ?_
                    refine jr_iconst dX12_qPartOf_171 ?_
                    refine jr_iand dX12_qPartOf_172 ?_
                    refine jr_i2l dX12_qPartOf_173 (jl_n3_to _) ?_
                    exact jr_ret_l rfl (jl_n36 (jl_n3_to _)) dX12_qPartOf_174
def jf_X12_codesTell_B136 (R19 : Int → Int → jl_Mm → jl_O) (l1 : Int) (l2 : Int) (s0 : jl_Mm) : jl_O :=
  R19 l1 (jl_add l2 1) s0
set_option maxRecDepth 20000 in
set_option maxHeartbeats 2000000 in
theorem jj_X12_codesTell_B136 (G : jl_GC) (R19 : Int → Int → jl_Mm → jl_O) (hR19 : ∀ (l1 : Int) (l2 : Int) (_hl1 : jl_n3 l1) (_hl2 : jl_n3 l2) (s0 : jl_Mm), j2 G jM_X12_codesTell 19 [(0, jl_vr G 206), (1, jl_vi l1), (2, jl_vi l2)] [] s0 (R19 l1 l2 s0)) (l1 : Int) (l2 : Int) (hl1 : jl_n3 l1) (hl2 : jl_n3 l2) (s0 : jl_Mm) : j2 G jM_X12_codesTell 136 [(0, jl_vr G 206), (1, jl_vi l1), (2, jl_vi l2)] [] s0 (jf_X12_codesTell_B136 R19 l1 l2 s0) := by
  refine jr_iinc (j := 2) (lv := [(2, jl_vi (jl_add l2 1)), (0, jl_vr G 206), (1, jl_vi l1)]) dX12_codesTell_136 rfl (Nat.le_of_ble_eq_true rfl) rfl ?_
  refine jr_goto (t := 19) dX12_codesTell_139 (by decide) ?_
  refine jr_sub [1, 2, 0] rfl ?_
  exact hR19 l1 (jl_add l2 1) hl1 (jl_n3_to _) s0
def jf_X12_codesTell_L19 : Nat → Int → Int → jl_Mm → jl_O
  | 0, _, _, _ => none
  | n + 1, l1, l2, s0 =>
    if 0 ≤ jl_add (3 : Int) l1 ∧ jl_add (3 : Int) l1 < ((6 : Nat) : Int) then if jl_g s0 247 (jl_add (3 : Int) l1).toNat ≤ l2 then (some (jl_gl s0 284 (((0 : Int) : Int).toNat), s0)) else (if 0 ≤ jl_add (1600 : Int) l2 ∧ jl_add (1600 : Int) l2 < ((3200 : Nat) : Int) then jl_let (jl_g s0 248 (jl_add (1600 : Int) l2).toNat) fun x8 => if x8 < (1000 : Int) then (if x8 < (40 : Int) then (if x8 = (13 : Int) then (jl_bd (jf_X12_qPuts (1 : Int) s0) fun r18 s19 => jf_X12_codesTell_B136 (jf_X12_codesTell_L19 n) l1 l2 s19) else (if x8 = (12 : Int) then (if 0 ≤ jl_sub (jl_g s0 206 106) (1 : Int) ∧ jl_sub (jl_g s0 206 106) (1 : Int) < ((1700 : Nat) : Int) then if 0 ≤ jl_sub (jl_g s0 206 106) (1 : Int) ∧ jl_sub (jl_g s0 206 106) (1 : Int) < ((1700 : Nat) : Int) then jl_lm (jl_up s0 284 (jl_sub (jl_g s0 206 106) (1 : Int)).toNat (jl_lsub (1 : Int) (jl_gl s0 284 (jl_sub (jl_g s0 206 106) (1 : Int)).toNat))) fun s17 => jf_X12_codesTell_B136 (jf_X12_codesTell_L19 n) l1 l2 s17 else none else none) else (jl_bd (jf_X12_qJoins x8 s0) fun r13 s14 => jf_X12_codesTell_B136 (jf_X12_codesTell_L19 n) l1 l2 s14))) else (jl_bd (jf_X12_qPartOf (jl_sub x8 (40 : Int)) (0 : Int) s0) fun r20 s21 => jl_bd (jf_X12_qPuts r20 s21) fun r22 s23 => jf_X12_codesTell_B136 (jf_X12_codesTell_L19 n) l1 l2 s23)) else (jl_bd (jf_X12_qPuts (jl_sub x8 (1000 : Int)) s0) fun r24 s25 => jf_X12_codesTell_B136 (jf_X12_codesTell_L19 n) l1 l2 s25) else none) else none
set_option maxRecDepth 20000 in
set_option maxHeartbeats 2000000 in
theorem jj_X12_codesTell_L19 (G : jl_GC) : ∀ (n : Nat) (l1 : Int) (l2 : Int) (hl1 : jl_n3 l1) (hl2 : jl_n3 l2) (s0 : jl_Mm), j2 G jM_X12_codesTell 19 [(0, jl_vr G 206), (1, jl_vi l1), (2, jl_vi l2)] [] s0 (jf_X12_codesTell_L19 n l1 l2 s0) := by
  intro n
  induction n with
  | zero =>
    intros
    exact jr_none
  | succ n ih =>
    intro l1 l2 hl1 hl2 s0
    refine jr_iload_n dX12_codesTell_19 2 rfl ?_
    refine jr_aload_n dX12_codesTell_20 0 rfl ?_
    refine jr_getk (i := 50) jc_12 jk_206 (by decide) (Nat.le_of_ble_eq_true rfl) jlk_206_50 jw_1255 dX12_codesTell_21 ?_
    refine jr_iconst dX12_codesTell_24 ?_
    refine jr_iload_n dX12_codesTell_25 1 rfl ?_
    refine jr_iadd dX12_codesTell_26 ?_
    refine jr_grd (fun g5 => ?_)
    refine jr_iaload jk_247 (by decide) (jl_n3_to _) g5 dX12_codesTell_27 ?_
    refine jr_icmp_ge (t := 142) dX12_codesTell_28 (by decide) hl2 (jl_n3_to _) (fun c6 => ?_) (fun c6 => ?_)
    · refine jr_aload_n dX12_codesTell_142 0 rfl ?_
      refine jr_getk (i := 105) jc_12 jk_206 (by decide) (Nat.le_of_ble_eq_true rfl) jlk_206_105 jw_1310 dX12_codesTell_143 ?_
      refine jr_iconst dX12_codesTell_146 ?_
      refine jr_laload jk_284 (by decide) (jl_nlit rfl) ⟨by decide, by decide⟩ dX12_codesTell_147 ?_
      exact jr_ret_l rfl (jl_n6_to _) dX12_codesTell_148
    · refine jr_aload_n dX12_codesTell_31 0 rfl ?_
      refine jr_getk (i := 51) jc_12 jk_206 (by decide) (Nat.le_of_ble_eq_true rfl) jlk_206_51 jw_1256 dX12_codesTell_32 ?_
      refine jr_sipush dX12_codesTell_35 (by decide) ?_
      refine jr_iload_n dX12_codesTell_38 2 rfl ?_
      refine jr_iadd dX12_codesTell_39 ?_
      refine jr_grd (fun g7 => ?_)
      refine jr_iaload jk_248 (by decide) (jl_n3_to _) g7 dX12_codesTell_40 ?_
      refine jr_let (jl_n3_to _) (fun x8 hx8 => ?_)
      refine jr_istore_n (lv := [(3, jl_vi x8), (0, jl_vr G 206), (1, jl_vi l1), (2, jl_vi l2)]) dX12_codesTell_41 rfl (Nat.le_of_ble_eq_true rfl) rfl ?_
      refine jr_iload_n dX12_codesTell_42 0 rfl ?_
      refine jr_sipush dX12_codesTell_43 (by decide) ?_
      refine jr_icmp_lt (t := 62) dX12_codesTell_46 (by decide) hx8 (jl_nlit rfl) (fun c9 => ?_) (fun c9 => ?_)
      · refine jr_iload_n dX12_codesTell_62 0 rfl ?_
        refine jr_bipush dX12_codesTell_63 (by decide) ?_
        refine jr_icmp_lt (t := 84) dX12_codesTell_65 (by decide) hx8 (jl_nlit rfl) (fun c10 => ?_) (fun c10 => ?_)
        · refine jr_iload_n dX12_codesTell_84 0 rfl ?_
          refine jr_bipush dX12_codesTell_85 (by decide) ?_
          refine jr_icmp_ne (t := 98) dX12_codesTell_87 (by decide) hx8 (jl_nlit rfl) (fun c11 => ?_) (fun c11 => ?_)
          · refine jr_aload_n dX12_codesTell_90 1 rfl ?_
            refine jr_lconst (v := 1) dX12_codesTell_91 (by decide) ?_
            refine j2_callVv (As := [jl_vl (1 : Int)]) dX12_codesTell_92 (jt_X12_qPuts G (1 : Int) (jl_n6lit rfl) s0) jv_X12_qPuts ⟨rfl, rfl, rfl⟩ jw_1787 jk_206 (by decide) (by decide) rfl ⟨Nat.le_of_ble_eq_true rfl, Nat.le_of_ble_eq_true rfl⟩ rfl (Nat.le_of_ble_eq_true rfl) (fun r18 s19 hr18 => ?_)
            refine jr_goto (t := 136) dX12_codesTell_95 (by decide) ?_
            refine jr_sub [1, 2, 3] rfl ?_
            exact jj_X12_codesTell_B136 G (jf_X12_codesTell_L19 n) (ih) l1 l2 hl1 hl2 s19
          · refine jr_iload_n dX12_codesTell_98 0 rfl ?_
            refine jr_bipush dX12_codesTell_99 (by decide) ?_
            refine jr_icmp_ne (t := 131) dX12_codesTell_101 (by decide) hx8 (jl_nlit rfl) (fun c12 => ?_) (fun c12 => ?_)
            · refine jr_aload_n dX12_codesTell_104 1 rfl ?_
              refine jr_getk (i := 105) jc_12 jk_206 (by decide) (Nat.le_of_ble_eq_true rfl) jlk_206_105 jw_1310 dX12_codesTell_105 ?_
              refine jr_aload_n dX12_codesTell_108 1 rfl ?_
              refine jr_geti (i := 106) jc_12 jk_206 (by decide) (Nat.le_of_ble_eq_true rfl) jlk_206_106 jft_12_106 jw_1311 dX12_codesTell_109 ?_
              refine jr_iconst dX12_codesTell_112 ?_
              refine jr_isub dX12_codesTell_113 ?_
              refine jr_lconst (v := 1) dX12_codesTell_114 (by decide) ?_
              refine jr_aload_n dX12_codesTell_115 1 rfl ?_
              refine jr_getk (i := 105) jc_12 jk_206 (by decide) (Nat.le_of_ble_eq_true rfl) jlk_206_105 jw_1310 dX12_codesTell_116 ?_
              refine jr_aload_n dX12_codesTell_119 1 rfl ?_
              refine jr_geti (i := 106) jc_12 jk_206 (by decide) (Nat.le_of_ble_eq_true rfl) jlk_206_106 jft_12_106 jw_1311 dX12_codesTell_120 ?_
              refine jr_iconst dX12_codesTell_123 ?_
              refine jr_isub dX12_codesTell_124 ?_
              refine jr_grd (fun g15 => ?_)
              refine jr_laload jk_284 (by decide) (jl_n3_to _) g15 dX12_codesTell_125 ?_
              refine jr_lsub dX12_codesTell_126 ?_
              refine jr_grd (fun g16 => ?_)
              refine jr_lastore jk_284 (by decide) (jl_n3_to _) g16 dX12_codesTell_127 ?_
              refine jr_lm (fun s17 => ?_)
              refine jr_goto (t := 136) dX12_codesTell_128 (by decide) ?_
              refine jr_sub [1, 2, 3] rfl ?_
              exact jj_X12_codesTell_B136 G (jf_X12_codesTell_L19 n) (ih) l1 l2 hl1 hl2 s17
            · refine jr_aload_n dX12_codesTell_131 1 rfl ?_
              refine jr_iload_n dX12_codesTell_132 0 rfl ?_
              refine j2_callVv (As := [jl_vi x8]) dX12_codesTell_133 (jt_X12_qJoins G x8 hx8 s0) jv_X12_qJoins ⟨rfl, rfl, rfl⟩ jw_1808 jk_206 (by decide) (by decide) rfl ⟨Nat.le_of_ble_eq_true rfl, Nat.le_of_ble_eq_true rfl⟩ rfl (Nat.le_of_ble_eq_true rfl) (fun r13 s14 hr13 => ?_)
              refine jr_sub [1, 2, 3] rfl ?_
              exact jj_X12_codesTell_B136 G (jf_X12_codesTell_L19 n) (ih) l1 l2 hl1 hl2 s14
        · refine jr_aload_n dX12_codesTell_68 1 rfl ?_
          refine jr_aload_n dX12_codesTell_69 1 rfl ?_
          refine jr_iload_n dX12_codesTell_70 0 rfl ?_
          refine jr_bipush dX12_codesTell_71 (by decide) ?_
          refine jr_isub dX12_codesTell_73 ?_
          refine jr_iconst dX12_codesTell_74 ?_
          refine j2_callVl (As := [jl_vi (jl_sub x8 (40 : Int)), jl_vi (0 : Int)]) dX12_codesTell_75 (jt_X12_qPartOf G (jl_sub x8 (40 : Int)) (0 : Int) (jl_n3_to _) (jl_nlit rfl) s0) jv_X12_qPartOf ⟨rfl, rfl, rfl⟩ jw_1791 jk_206 (by decide) (by decide) rfl ⟨Nat.le_of_ble_eq_true rfl, Nat.le_of_ble_eq_true rfl⟩ rfl (Nat.le_of_ble_eq_true rfl) (fun r20 s21 hr20 => ?_)
          refine j2_callVv (As := [jl_vl r20]) dX12_codesTell_78 (jt_X12_qPuts G r20 hr20 s21) jv_X12_qPuts ⟨rfl, rfl, rfl⟩ jw_1787 jk_206 (by decide) (by decide) rfl ⟨Nat.le_of_ble_eq_true rfl, Nat.le_of_ble_eq_true rfl⟩ rfl (Nat.le_of_ble_eq_true rfl) (fun r22 s23 hr22 => ?_)
          refine jr_goto (t := 136) dX12_codesTell_81 (by decide) ?_
          refine jr_sub [1, 2, 3] rfl ?_
          exact jj_X12_codesTell_B136 G (jf_X12_codesTell_L19 n) (ih) l1 l2 hl1 hl2 s23
      · refine jr_aload_n dX12_codesTell_49 1 rfl ?_
        refine jr_iload_n dX12_codesTell_50 0 rfl ?_
        refine jr_sipush dX12_codesTell_51 (by decide) ?_
        refine jr_isub dX12_codesTell_54 ?_
        refine jr_i2l dX12_codesTell_55 (jl_n3_to _) ?_
        refine j2_callVv (As := [jl_vl (jl_sub x8 (1000 : Int))]) dX12_codesTell_56 (jt_X12_qPuts G (jl_sub x8 (1000 : Int)) (jl_n36 (jl_n3_to _)) s0) jv_X12_qPuts ⟨rfl, rfl, rfl⟩ jw_1787 jk_206 (by decide) (by decide) rfl ⟨Nat.le_of_ble_eq_true rfl, Nat.le_of_ble_eq_true rfl⟩ rfl (Nat.le_of_ble_eq_true rfl) (fun r24 s25 hr24 => ?_)
        refine jr_goto (t := 136) dX12_codesTell_59 (by decide) ?_
        refine jr_sub [1, 2, 3] rfl ?_
        exact jj_X12_codesTell_B136 G (jf_X12_codesTell_L19 n) (ih) l1 l2 hl1 hl2 s25
def jf_X12_codesTell (v1 : Int) (s0 : jl_Mm) : jl_O :=
  jl_lm (jl_up s0 206 55 v1) fun s1 => jl_lm (jl_up s1 206 106 (0 : Int)) fun s2 => if 0 ≤ jl_add (3 : Int) v1 ∧ jl_add (3 : Int) v1 < ((6 : Nat) : Int) then jl_let (jl_g s2 246 (jl_add (3 : Int) v1).toNat) fun x4 => jf_X12_codesTell_L19 jl_fu v1 x4 s2 else none
set_option maxRecDepth 20000 in
set_option maxHeartbeats 2000000 in
theorem jt_X12_codesTell (G : jl_GC) (v1 : Int) (h1 : jl_n3 v1) (s0 : jl_Mm) : jC2 G jM_X12_codesTell [jl_vr G 206, jl_vi v1] s0 (jf_X12_codesTell v1 s0) := by
  refine jl_met (plainFor_of_name rfl) (Nat.le_of_ble_eq_true rfl) ?_
  show j2 G jM_X12_codesTell 0 [(0, jl_vr G 206), (1, jl_vi v1)] [] s0 _
  refine jr_aload_n dX12_codesTell_0 0 rfl ?_
  refine jr_iload_n dX12_codesTell_1 1 rfl ?_
  refine jr_puti (i := 55) jc_12 jk_206 (by decide) (Nat.le_of_ble_eq_true rfl) jlk_206_55 jft_12_55 rfl jw_1260 rfl dX12_codesTell_2 ?_
  refine jr_lm (fun s1 => ?_)
  refine jr_aload_n dX12_codesTell_5 0 rfl ?_
  refine jr_iconst dX12_codesTell_6 ?_
  refine jr_puti (i := 106) jc_12 jk_206 (by decide) (Nat.le_of_ble_eq_true rfl) jlk_206_106 jft_12_106 rfl jw_1311 rfl dX12_codesTell_7 ?_
  refine jr_lm (fun s2 => ?_)
  refine jr_aload_n dX12_codesTell_10 0 rfl ?_
  refine jr_getk (i := 49) jc_12 jk_206 (by decide) (Nat.le_of_ble_eq_true rfl) jlk_206_49 jw_1254 dX12_codesTell_11 ?_
  refine jr_iconst dX12_codesTell_14 ?_
  refine jr_iload_n dX12_codesTell_15 1 rfl ?_
  refine jr_iadd dX12_codesTell_16 ?_
  refine jr_grd (fun g3 => ?_)
  refine jr_iaload jk_246 (by decide) (jl_n3_to _) g3 dX12_codesTell_17 ?_
  refine jr_let (jl_n3_to _) (fun x4 hx4 => ?_)
  refine jr_istore_n (lv := [(2, jl_vi x4), (0, jl_vr G 206), (1, jl_vi v1)]) dX12_codesTell_18 rfl (Nat.le_of_ble_eq_true rfl) rfl ?_
  refine jr_sub [1, 2, 0] rfl ?_
  exact jj_X12_codesTell_L19 G jl_fu v1 x4 h1 hx4 s2
def jf_X12_draftAt (v1 : Int) (s0 : jl_Mm) : jl_O :=
  jl_bd (jf_X12_isCoded (0 : Int) s0) fun r1 s2 => if r1 = (0 : Int) then (some ((0 : Int), s2)) else (jl_lm (jl_up s2 206 58 v1) fun s4 => jl_bd (jf_X12_codesTell (0 : Int) s4) fun r5 s6 => jl_bd (jf_X12_clamp r5 (9 : Int) s6) fun r7 s8 => some (r7, s8))
set_option maxRecDepth 20000 in
set_option maxHeartbeats 2000000 in
theorem jt_X12_draftAt (G : jl_GC) (v1 : Int) (h1 : jl_n3 v1) (s0 : jl_Mm) : jC2 G jM_X12_draftAt [jl_vr G 206, jl_vi v1] s0 (jf_X12_draftAt v1 s0) := by
  refine jl_met (plainFor_of_name rfl) (Nat.le_of_ble_eq_true rfl) ?_
  show j2 G jM_X12_draftAt 0 [(0, jl_vr G 206), (1, jl_vi v1)] [] s0 _
  refine jr_aload_n dX12_draftAt_0 0 rfl ?_
  refine jr_iconst dX12_draftAt_1 ?_
  refine j2_callVz (As := [jl_vi (0 : Int)]) dX12_draftAt_2 (jt_X12_isCoded G (0 : Int) (jl_nlit rfl) s0) jv_X12_isCoded ⟨rfl, rfl, rfl⟩ jw_1779 jk_206 (by decide) (by decide) rfl ⟨Nat.le_of_ble_eq_true rfl, Nat.le_of_ble_eq_true rfl⟩ rfl (Nat.le_of_ble_eq_true rfl) (fun r1 s2 hr1 => ?_)
  refine jr_if_ne (t := 10) dX12_draftAt_5 (by decide) (jl_nz hr1) (fun c3 => ?_) (fun c3 => ?_)
  · refine jr_iconst dX12_draftAt_8 ?_
    exact jr_ret_i rfl (jl_nlit rfl) dX12_draftAt_9
  · refine jr_aload_n dX12_draftAt_10 0 rfl ?_
    refine jr_iload_n dX12_draftAt_11 1 rfl ?_
    refine jr_puti (i := 58) jc_12 jk_206 (by decide) (Nat.le_of_ble_eq_true rfl) jlk_206_58 jft_12_58 rfl jw_1263 rfl dX12_draftAt_12 ?_
    refine jr_lm (fun s4 => ?_)
    refine jr_aload_n dX12_draftAt_15 0 rfl ?_
    refine jr_iconst dX12_draftAt_16 ?_
    refine j2_callVl (As := [jl_vi (0 : Int)]) dX12_draftAt_17 (jt_X12_codesTell G (0 : Int) (jl_nlit rfl) s4) jv_X12_codesTell ⟨rfl, rfl, rfl⟩ jw_1783 jk_206 (by decide) (by decide) rfl ⟨Nat.le_of_ble_eq_true rfl, Nat.le_of_ble_eq_true rfl⟩ rfl (Nat.le_of_ble_eq_true rfl) (fun r5 s6 hr5 => ?_)
    refine jr_bipush dX12_draftAt_20 (by decide) ?_
    refine j2_callSi (As := [jl_vl r5, jl_vi (9 : Int)]) dX12_draftAt_22 (jt_X12_clamp G r5 (9 : Int) hr5 (jl_nlit rfl) s6) jv_X12_clamp ⟨rfl, rfl, rfl⟩ jw_1820 ⟨Nat.le_of_ble_eq_true rfl, Nat.le_of_ble_eq_true rfl⟩ rfl (Nat.le_of_ble_eq_true rfl) (fun r7 s8 hr7 => ?_)
    exact jr_ret_i rfl hr7 dX12_draftAt_25
def jf_X12_laysDrafts_L2 : Nat → Int → jl_Mm → jl_O
  | 0, _, _ => none
  | n + 1, l1, s0 =>
    jl_bd (jf_X12_windowMany s0) fun r1 s2 => if r1 ≤ l1 then (some (0, s2)) else (jl_bd (jf_X12_draftAt l1 s2) fun r4 s5 => if 0 ≤ l1 ∧ l1 < ((30 : Nat) : Int) then jl_lm (jl_up s5 250 (l1).toNat r4) fun s7 => jf_X12_laysDrafts_L2 n (jl_add l1 1) s7 else none)
set_option maxRecDepth 20000 in
set_option maxHeartbeats 2000000 in
theorem jj_X12_laysDrafts_L2 (G : jl_GC) : ∀ (n : Nat) (l1 : Int) (hl1 : jl_n3 l1) (s0 : jl_Mm), j2 G jM_X12_laysDrafts 2 [(0, jl_vr G 206), (1, jl_vi l1)] [] s0 (jf_X12_laysDrafts_L2 n l1 s0) := by
  intro n
  induction n with
  | zero =>
    intros
    exact jr_none
  | succ n ih =>
    intro l1 hl1 s0
    refine jr_iload_n dX12_laysDrafts_2 1 rfl ?_
    refine jr_aload_n dX12_laysDrafts_3 0 rfl ?_
    refine j2_callVi (As := []) dX12_laysDrafts_4 (jt_X12_windowMany G s0) jv_X12_windowMany ⟨rfl, rfl, rfl⟩ jw_1743 jk_206 (by decide) (by decide) rfl ⟨Nat.le_of_ble_eq_true rfl, Nat.le_of_ble_eq_true rfl⟩ rfl (Nat.le_of_ble_eq_true rfl) (fun r1 s2 hr1 => ?_)
    refine jr_icmp_ge (t := 27) dX12_laysDrafts_7 (by decide) hl1 hr1 (fun c3 => ?_) (fun c3 => ?_)
    · exact jr_ret_v rfl dX12_laysDrafts_27
    · refine jr_aload_n dX12_laysDrafts_10 0 rfl ?_
      refine jr_getk (i := 60) jc_12 jk_206 (by decide) (Nat.le_of_ble_eq_true rfl) jlk_206_60 jw_1265 dX12_laysDrafts_11 ?_
      refine jr_iload_n dX12_laysDrafts_14 1 rfl ?_
      refine jr_aload_n dX12_laysDrafts_15 0 rfl ?_
      refine jr_iload_n dX12_laysDrafts_16 1 rfl ?_
      refine j2_callVi (As := [jl_vi l1]) dX12_laysDrafts_17 (jt_X12_draftAt G l1 hl1 s2) jv_X12_draftAt ⟨rfl, rfl, rfl⟩ jw_1775 jk_206 (by decide) (by decide) rfl ⟨Nat.le_of_ble_eq_true rfl, Nat.le_of_ble_eq_true rfl⟩ rfl (Nat.le_of_ble_eq_true rfl) (fun r4 s5 hr4 => ?_)
      refine jr_grd (fun g6 => ?_)
      refine jr_iastore jk_250 (by decide) hl1 g6 dX12_laysDrafts_20 ?_
      refine jr_lm (fun s7 => ?_)
      refine jr_iinc (j := 1) (lv := [(1, jl_vi (jl_add l1 1)), (0, jl_vr G 206)]) dX12_laysDrafts_21 rfl (Nat.le_of_ble_eq_true rfl) rfl ?_
      refine jr_goto (t := 2) dX12_laysDrafts_24 (by decide) ?_
      refine jr_sub [1, 0] rfl ?_
      exact ih (jl_add l1 1) (jl_n3_to _) s7
def jf_X12_laysDrafts (s0 : jl_Mm) : jl_O :=
  jf_X12_laysDrafts_L2 jl_fu (0 : Int) s0
set_option maxRecDepth 20000 in
set_option maxHeartbeats 2000000 in
theorem jt_X12_laysDrafts (G : jl_GC) (s0 : jl_Mm) : jC2 G jM_X12_laysDrafts [jl_vr G 206] s0 (jf_X12_laysDrafts s0) := by
  refine jl_met (plainFor_of_name rfl) (Nat.le_of_ble_eq_true rfl) ?_
  show j2 G jM_X12_laysDrafts 0 [(0, jl_vr G 206)] [] s0 _
  refine jr_iconst dX12_laysDrafts_0 ?_
  refine jr_istore_n (lv := [(1, jl_vi (0 : Int)), (0, jl_vr G 206)]) dX12_laysDrafts_1 rfl (Nat.le_of_ble_eq_true rfl) rfl ?_
  refine jr_sub [1, 0] rfl ?_
  exact jj_X12_laysDrafts_L2 G jl_fu (0 : Int) (jl_nlit rfl) s0
def jf_X12_laysHeld_B77 (R8 : Int → Int → jl_Mm → jl_O) (l1 : Int) (l2 : Int) (s0 : jl_Mm) : jl_O :=
  R8 l1 (jl_add l2 1) s0
set_option maxRecDepth 20000 in
set_option maxHeartbeats 2000000 in
theorem jj_X12_laysHeld_B77 (G : jl_GC) (R8 : Int → Int → jl_Mm → jl_O) (hR8 : ∀ (l1 : Int) (l2 : Int) (_hl1 : jl_n3 l1) (_hl2 : jl_n3 l2) (s0 : jl_Mm), j2 G jM_X12_laysHeld 8 [(0, jl_vr G 206), (1, jl_vi l1), (2, jl_vi l2)] [] s0 (R8 l1 l2 s0)) (l1 : Int) (l2 : Int) (hl1 : jl_n3 l1) (hl2 : jl_n3 l2) (s0 : jl_Mm) : j2 G jM_X12_laysHeld 77 [(0, jl_vr G 206), (1, jl_vi l1), (2, jl_vi l2)] [] s0 (jf_X12_laysHeld_B77 R8 l1 l2 s0) := by
  refine jr_iinc (j := 2) (lv := [(2, jl_vi (jl_add l2 1)), (0, jl_vr G 206), (1, jl_vi l1)]) dX12_laysHeld_77 rfl (Nat.le_of_ble_eq_true rfl) rfl ?_
  refine jr_goto (t := 8) dX12_laysHeld_80 (by decide) ?_
  refine jr_sub [1, 2, 0] rfl ?_
  exact hR8 l1 (jl_add l2 1) hl1 (jl_n3_to _) s0
def jf_X12_laysHeld_B71 (R8 : Int → Int → jl_Mm → jl_O) (l1 : Int) (l2 : Int) (s0 : jl_Mm) : jl_O :=
  jl_let (jl_or l1 (jl_shl (1 : Int) l2)) fun x16 => jf_X12_laysHeld_B77 (R8) x16 l2 s0
set_option maxRecDepth 20000 in
set_option maxHeartbeats 2000000 in
theorem jj_X12_laysHeld_B71 (G : jl_GC) (R8 : Int → Int → jl_Mm → jl_O) (hR8 : ∀ (l1 : Int) (l2 : Int) (_hl1 : jl_n3 l1) (_hl2 : jl_n3 l2) (s0 : jl_Mm), j2 G jM_X12_laysHeld 8 [(0, jl_vr G 206), (1, jl_vi l1), (2, jl_vi l2)] [] s0 (R8 l1 l2 s0)) (l1 : Int) (l2 : Int) (hl1 : jl_n3 l1) (hl2 : jl_n3 l2) (s0 : jl_Mm) : j2 G jM_X12_laysHeld 71 [(0, jl_vr G 206), (1, jl_vi l1), (2, jl_vi l2)] [] s0 (jf_X12_laysHeld_B71 R8 l1 l2 s0) := by
  refine jr_iload_n dX12_laysHeld_71 1 rfl ?_
  refine jr_iconst dX12_laysHeld_72 ?_
  refine jr_iload_n dX12_laysHeld_73 2 rfl ?_
  refine jr_ishl dX12_laysHeld_74 ?_
  refine jr_ior dX12_laysHeld_75 ?_
  refine jr_let (jl_n3_to _) (fun x16 hx16 => ?_)
  refine jr_istore_n (lv := [(1, jl_vi x16), (0, jl_vr G 206), (2, jl_vi l2)]) dX12_laysHeld_76 rfl (Nat.le_of_ble_eq_true rfl) rfl ?_
  refine jr_sub [1, 0, 2] rfl ?_
  exact jj_X12_laysHeld_B77 G (R8) (hR8) x16 l2 hx16 hl2 s0
def jf_X12_laysHeld_B48 (R8 : Int → Int → jl_Mm → jl_O) (l1 : Int) (l2 : Int) (s0 : jl_Mm) : jl_O :=
  jl_lm (jl_up s0 206 57 l2) fun s12 => jl_bd (jf_X12_isCoded (2 : Int) s12) fun r13 s14 => if r13 = (0 : Int) then (jf_X12_laysHeld_B71 (R8) l1 l2 s14) else (jl_bd (jf_X12_codesTell (2 : Int) s14) fun r17 s18 => if jl_lcmp r17 (1 : Int) = (0 : Int) then (jf_X12_laysHeld_B71 (R8) l1 l2 s18) else (jf_X12_laysHeld_B77 (R8) l1 l2 s18))
set_option maxRecDepth 20000 in
set_option maxHeartbeats 2000000 in
theorem jj_X12_laysHeld_B48 (G : jl_GC) (R8 : Int → Int → jl_Mm → jl_O) (hR8 : ∀ (l1 : Int) (l2 : Int) (_hl1 : jl_n3 l1) (_hl2 : jl_n3 l2) (s0 : jl_Mm), j2 G jM_X12_laysHeld 8 [(0, jl_vr G 206), (1, jl_vi l1), (2, jl_vi l2)] [] s0 (R8 l1 l2 s0)) (l1 : Int) (l2 : Int) (hl1 : jl_n3 l1) (hl2 : jl_n3 l2) (s0 : jl_Mm) : j2 G jM_X12_laysHeld 48 [(0, jl_vr G 206), (1, jl_vi l1), (2, jl_vi l2)] [] s0 (jf_X12_laysHeld_B48 R8 l1 l2 s0) := by
  refine jr_aload_n dX12_laysHeld_48 0 rfl ?_
  refine jr_iload_n dX12_laysHeld_49 2 rfl ?_
  refine jr_puti (i := 57) jc_12 jk_206 (by decide) (Nat.le_of_ble_eq_true rfl) jlk_206_57 jft_12_57 rfl jw_1262 rfl dX12_laysHeld_50 ?_
  refine jr_lm (fun s12 => ?_)
  refine jr_aload_n dX12_laysHeld_53 0 rfl ?_
  refine jr_iconst dX12_laysHeld_54 ?_
  refine j2_callVz (As := [jl_vi (2 : Int)]) dX12_laysHeld_55 (jt_X12_isCoded G (2 : Int) (jl_nlit rfl) s12) jv_X12_isCoded ⟨rfl, rfl, rfl⟩ jw_1779 jk_206 (by decide) (by decide) rfl ⟨Nat.le_of_ble_eq_true rfl, Nat.le_of_ble_eq_true rfl⟩ rfl (Nat.le_of_ble_eq_true rfl) (fun r13 s14 hr13 => ?_)
  refine jr_if_eq (t := 71) dX12_laysHeld_58 (by decide) (jl_nz hr13) (fun c15 => ?_) (fun c15 => ?_)
  · exact jj_X12_laysHeld_B71 G (R8) (hR8) l1 l2 hl1 hl2 s14
  · refine jr_aload_n dX12_laysHeld_61 0 rfl ?_
    refine jr_iconst dX12_laysHeld_62 ?_
    refine j2_callVl (As := [jl_vi (2 : Int)]) dX12_laysHeld_63 (jt_X12_codesTell G (2 : Int) (jl_nlit rfl) s14) jv_X12_codesTell ⟨rfl, rfl, rfl⟩ jw_1783 jk_206 (by decide) (by decide) rfl ⟨Nat.le_of_ble_eq_true rfl, Nat.le_of_ble_eq_true rfl⟩ rfl (Nat.le_of_ble_eq_true rfl) (fun r17 s18 hr17 => ?_)
    refine jr_lconst (v := 1) dX12_laysHeld_66 (by decide) ?_
    refine jr_lcmp dX12_laysHeld_67 ?_
    refine jr_if_ne (t := 77) dX12_laysHeld_68 (by decide) (jl_n3_to _) (fun c19 => ?_) (fun c19 => ?_)
    · exact jj_X12_laysHeld_B71 G (R8) (hR8) l1 l2 hl1 hl2 s18
    · exact jj_X12_laysHeld_B77 G (R8) (hR8) l1 l2 hl1 hl2 s18
def jf_X12_laysHeld_L8 : Nat → Int → Int → jl_Mm → jl_O
  | 0, _, _, _ => none
  | n + 1, l1, l2, s0 =>
    jl_bd (jf_X12_lieMany s0) fun r3 s4 => if r3 ≤ l2 then (some (l1, s4)) else (jl_bd (jf_X12_isLit l2 s4) fun r6 s7 => if r6 = (0 : Int) then (jf_X12_laysHeld_B77 (jf_X12_laysHeld_L8 n) l1 l2 s7) else (jl_bd (jf_X12_hangsOn l2 s7) fun r9 s10 => if r9 = (-1 : Int) then (jf_X12_laysHeld_B48 (jf_X12_laysHeld_L8 n) l1 l2 s10) else (jl_bd (jf_X12_hangsOn l2 s10) fun r20 s21 => if jl_and (jl_shr l1 r20) (1 : Int) = (0 : Int) then (jf_X12_laysHeld_B77 (jf_X12_laysHeld_L8 n) l1 l2 s21) else (jf_X12_laysHeld_B48 (jf_X12_laysHeld_L8 n) l1 l2 s21))))
set_option maxRecDepth 20000 in
set_option maxHeartbeats 2000000 in
theorem jj_X12_laysHeld_L8 (G : jl_GC) : ∀ (n : Nat) (l1 : Int) (l2 : Int) (hl1 : jl_n3 l1) (hl2 : jl_n3 l2) (s0 : jl_Mm), j2 G jM_X12_laysHeld 8 [(0, jl_vr G 206), (1, jl_vi l1), (2, jl_vi l2)] [] s0 (jf_X12_laysHeld_L8 n l1 l2 s0) := by
  intro n
  induction n with
  | zero =>
    intros
    exact jr_none
  | succ n ih =>
    intro l1 l2 hl1 hl2 s0
    refine jr_iload_n dX12_laysHeld_8 2 rfl ?_
    refine jr_aload_n dX12_laysHeld_9 0 rfl ?_
    refine j2_callVi (As := []) dX12_laysHeld_10 (jt_X12_lieMany G s0) jv_X12_lieMany ⟨rfl, rfl, rfl⟩ jw_1751 jk_206 (by decide) (by decide) rfl ⟨Nat.le_of_ble_eq_true rfl, Nat.le_of_ble_eq_true rfl⟩ rfl (Nat.le_of_ble_eq_true rfl) (fun r3 s4 hr3 => ?_)
    refine jr_icmp_ge (t := 83) dX12_laysHeld_13 (by decide) hl2 hr3 (fun c5 => ?_) (fun c5 => ?_)
    · refine jr_iload_n dX12_laysHeld_83 1 rfl ?_
      exact jr_ret_i rfl hl1 dX12_laysHeld_84
    · refine jr_aload_n dX12_laysHeld_16 0 rfl ?_
      refine jr_iload_n dX12_laysHeld_17 2 rfl ?_
      refine j2_callVz (As := [jl_vi l2]) dX12_laysHeld_18 (jt_X12_isLit G l2 hl2 s4) jv_X12_isLit ⟨rfl, rfl, rfl⟩ jw_1763 jk_206 (by decide) (by decide) rfl ⟨Nat.le_of_ble_eq_true rfl, Nat.le_of_ble_eq_true rfl⟩ rfl (Nat.le_of_ble_eq_true rfl) (fun r6 s7 hr6 => ?_)
      refine jr_if_eq (t := 77) dX12_laysHeld_21 (by decide) (jl_nz hr6) (fun c8 => ?_) (fun c8 => ?_)
      · exact jj_X12_laysHeld_B77 G (jf_X12_laysHeld_L8 n) (ih) l1 l2 hl1 hl2 s7
      · refine jr_aload_n dX12_laysHeld_24 0 rfl ?_
        refine jr_iload_n dX12_laysHeld_25 2 rfl ?_
        refine j2_callVi (As := [jl_vi l2]) dX12_laysHeld_26 (jt_X12_hangsOn G l2 hl2 s7) jv_X12_hangsOn ⟨rfl, rfl, rfl⟩ jw_1823 jk_206 (by decide) (by decide) rfl ⟨Nat.le_of_ble_eq_true rfl, Nat.le_of_ble_eq_true rfl⟩ rfl (Nat.le_of_ble_eq_true rfl) (fun r9 s10 hr9 => ?_)
        refine jr_iconst dX12_laysHeld_29 ?_
        refine jr_icmp_eq (t := 48) dX12_laysHeld_30 (by decide) hr9 (jl_nlit rfl) (fun c11 => ?_) (fun c11 => ?_)
        · exact jj_X12_laysHeld_B48 G (jf_X12_laysHeld_L8 n) (ih) l1 l2 hl1 hl2 s10
        · refine jr_iload_n dX12_laysHeld_33 1 rfl ?_
          refine jr_aload_n dX12_laysHeld_34 0 rfl ?_
          refine jr_iload_n dX12_laysHeld_35 2 rfl ?_
          refine j2_callVi (As := [jl_vi l2]) dX12_laysHeld_36 (jt_X12_hangsOn G l2 hl2 s10) jv_X12_hangsOn ⟨rfl, rfl, rfl⟩ jw_1823 jk_206 (by decide) (by decide) rfl ⟨Nat.le_of_ble_eq_true rfl, Nat.le_of_ble_eq_true rfl⟩ rfl (Nat.le_of_ble_eq_true rfl) (fun r20 s21 hr20 => ?_)
          refine jr_ishr dX12_laysHeld_39 ?_
          refine jr_iconst dX12_laysHeld_40 ?_
          refine jr_iand dX12_laysHeld_41 ?_
          refine jr_if_ne (t := 48) dX12_laysHeld_42 (by decide) (jl_n3_to _) (fun c22 => ?_) (fun c22 => ?_)
          · refine jr_goto (t := 77) dX12_laysHeld_45 (by decide) ?_
            exact jj_X12_laysHeld_B77 G (jf_X12_laysHeld_L8 n) (ih) l1 l2 hl1 hl2 s21
          · exact jj_X12_laysHeld_B48 G (jf_X12_laysHeld_L8 n) (ih) l1 l2 hl1 hl2 s21
def jf_X12_laysHeld (s0 : jl_Mm) : jl_O :=
  jl_bd (jf_X12_laysDrafts s0) fun r1 s2 => jf_X12_laysHeld_L8 jl_fu (0 : Int) (0 : Int) s2
set_option maxRecDepth 20000 in
set_option maxHeartbeats 2000000 in
theorem jt_X12_laysHeld (G : jl_GC) (s0 : jl_Mm) : jC2 G jM_X12_laysHeld [jl_vr G 206] s0 (jf_X12_laysHeld s0) := by
  refine jl_met (plainFor_of_name rfl) (Nat.le_of_ble_eq_true rfl) ?_
  show j2 G jM_X12_laysHeld 0 [(0, jl_vr G 206)] [] s0 _
  refine jr_iconst dX12_laysHeld_0 ?_
  refine jr_istore_n (lv := [(1, jl_vi (0 : Int)), (0, jl_vr G 206)]) dX12_laysHeld_1 rfl (Nat.le_of_ble_eq_true rfl) rfl ?_
  refine jr_aload_n dX12_laysHeld_2 1 rfl ?_
  refine j2_callVv (As := []) dX12_laysHeld_3 (jt_X12_laysDrafts G s0) jv_X12_laysDrafts ⟨rfl, rfl, rfl⟩ jw_1771 jk_206 (by decide) (by decide) rfl ⟨Nat.le_of_ble_eq_true rfl, Nat.le_of_ble_eq_true rfl⟩ rfl (Nat.le_of_ble_eq_true rfl) (fun r1 s2 hr1 => ?_)
  refine jr_iconst dX12_laysHeld_6 ?_
  refine jr_istore_n (lv := [(2, jl_vi (0 : Int)), (1, jl_vi (0 : Int)), (0, jl_vr G 206)]) dX12_laysHeld_7 rfl (Nat.le_of_ble_eq_true rfl) rfl ?_
  refine jr_sub [2, 1, 0] rfl ?_
  exact jj_X12_laysHeld_L8 G jl_fu (0 : Int) (0 : Int) (jl_nlit rfl) (jl_nlit rfl) s2
def jf_X12_isHeld_B17 (k0 : Int) (s0 : jl_Mm) : jl_O :=
  jl_zb k0 s0
set_option maxRecDepth 20000 in
set_option maxHeartbeats 2000000 in
theorem jj_X12_isHeld_B17 (G : jl_GC) (k0 : Int) (hk0 : jl_n3 k0) (s0 : jl_Mm) : j2 G jM_X12_isHeld 17 [] [jl_vi k0] s0 (jf_X12_isHeld_B17 k0 s0) := by
  exact jr_ret_z rfl dX12_isHeld_17
def jf_X12_isHeld (v1 : Int) (s0 : jl_Mm) : jl_O :=
  jl_bd (jf_X12_laysHeld s0) fun r1 s2 => if jl_and (jl_shr r1 v1) (1 : Int) = (1 : Int) then (jf_X12_isHeld_B17 (1 : Int) s2) else (jf_X12_isHeld_B17 (0 : Int) s2)
set_option maxRecDepth 20000 in
set_option maxHeartbeats 2000000 in
theorem jt_X12_isHeld (G : jl_GC) (v1 : Int) (h1 : jl_n3 v1) (s0 : jl_Mm) : jC2 G jM_X12_isHeld [jl_vr G 206, jl_vi v1] s0 (jf_X12_isHeld v1 s0) := by
  refine jl_met (plainFor_of_name rfl) (Nat.le_of_ble_eq_true rfl) ?_
  show j2 G jM_X12_isHeld 0 [(0, jl_vr G 206), (1, jl_vi v1)] [] s0 _
  refine jr_aload_n dX12_isHeld_0 0 rfl ?_
  refine j2_callVi (As := []) dX12_isHeld_1 (jt_X12_laysHeld G s0) jv_X12_laysHeld ⟨rfl, rfl, rfl⟩ jw_1767 jk_206 (by decide) (by decide) rfl ⟨Nat.le_of_ble_eq_true rfl, Nat.le_of_ble_eq_true rfl⟩ rfl (Nat.le_of_ble_eq_true rfl) (fun r1 s2 hr1 => ?_)
  refine jr_iload_n dX12_isHeld_4 1 rfl ?_
  refine jr_ishr dX12_isHeld_5 ?_
  refine jr_iconst dX12_isHeld_6 ?_
  refine jr_iand dX12_isHeld_7 ?_
  refine jr_iconst dX12_isHeld_8 ?_
  refine jr_icmp_ne (t := 16) dX12_isHeld_9 (by decide) (jl_n3_to _) (jl_nlit rfl) (fun c3 => ?_) (fun c3 => ?_)
  · refine jr_iconst dX12_isHeld_12 ?_
    refine jr_goto (t := 17) dX12_isHeld_13 (by decide) ?_
    refine jr_sub [] rfl ?_
    exact jj_X12_isHeld_B17 G (1 : Int) (jl_nlit rfl) s2
  · refine jr_iconst dX12_isHeld_16 ?_
    refine jr_sub [] rfl ?_
    exact jj_X12_isHeld_B17 G (0 : Int) (jl_nlit rfl) s2
def jf_X12_bits_L4 : Nat → Int → Int → jl_Mm → jl_O
  | 0, _, _, _ => none
  | n + 1, l1, l2, s0 =>
    if l2 = (0 : Int) then (some (l1, s0)) else (jl_let (jl_and l2 (jl_sub l2 (1 : Int))) fun x2 => jf_X12_bits_L4 n (jl_add l1 1) x2 s0)
set_option maxRecDepth 20000 in
set_option maxHeartbeats 2000000 in
theorem jj_X12_bits_L4 (G : jl_GC) : ∀ (n : Nat) (l1 : Int) (l2 : Int) (hl1 : jl_n3 l1) (hl2 : jl_n3 l2) (s0 : jl_Mm), j2 G jM_X12_bits 4 [(1, jl_vi l1), (2, jl_vi l2)] [] s0 (jf_X12_bits_L4 n l1 l2 s0) := by
  intro n
  induction n with
  | zero =>
    intros
    exact jr_none
  | succ n ih =>
    intro l1 l2 hl1 hl2 s0
    refine jr_iload_n dX12_bits_4 1 rfl ?_
    refine jr_if_eq (t := 20) dX12_bits_5 (by decide) hl2 (fun c1 => ?_) (fun c1 => ?_)
    · refine jr_iload_n dX12_bits_20 0 rfl ?_
      exact jr_ret_i rfl hl1 dX12_bits_21
    · refine jr_iinc (j := 0) (lv := [(1, jl_vi (jl_add l1 1)), (2, jl_vi l2)]) dX12_bits_8 rfl (Nat.le_of_ble_eq_true rfl) rfl ?_
      refine jr_iload_n dX12_bits_11 1 rfl ?_
      refine jr_iload_n dX12_bits_12 1 rfl ?_
      refine jr_iconst dX12_bits_13 ?_
      refine jr_isub dX12_bits_14 ?_
      refine jr_iand dX12_bits_15 ?_
      refine jr_let (jl_n3_to _) (fun x2 hx2 => ?_)
      refine jr_istore_n (lv := [(2, jl_vi x2), (1, jl_vi (jl_add l1 1))]) dX12_bits_16 rfl (Nat.le_of_ble_eq_true rfl) rfl ?_
      refine jr_goto (t := 4) dX12_bits_17 (by decide) ?_
      refine jr_sub [1, 0] rfl ?_
      exact ih (jl_add l1 1) x2 (jl_n3_to _) hx2 s0
def jf_X12_bits (v1 : Int) (s0 : jl_Mm) : jl_O :=
  jf_X12_bits_L4 jl_fu (0 : Int) v1 s0
set_option maxRecDepth 20000 in
set_option maxHeartbeats 2000000 in
theorem jt_X12_bits (G : jl_GC) (v1 : Int) (h1 : jl_n3 v1) (s0 : jl_Mm) : jC2 G jM_X12_bits [jl_vi v1] s0 (jf_X12_bits v1 s0) := by
  refine jl_met (plainFor_of_name rfl) (Nat.le_of_ble_eq_true rfl) ?_
  show j2 G jM_X12_bits 0 [(0, jl_vi v1)] [] s0 _
  refine jr_iconst dX12_bits_0 ?_
  refine jr_istore_n (lv := [(1, jl_vi (0 : Int)), (0, jl_vi v1)]) dX12_bits_1 rfl (Nat.le_of_ble_eq_true rfl) rfl ?_
  refine jr_iload_n dX12_bits_2 1 rfl ?_
  refine jr_istore_n (lv := [(2, jl_vi v1), (1, jl_vi (0 : Int)), (0, jl_vi v1)]) dX12_bits_3 rfl (Nat.le_of_ble_eq_true rfl) rfl ?_
  refine jr_sub [1, 0] rfl ?_
  exact jj_X12_bits_L4 G jl_fu (0 : Int) v1 (jl_nlit rfl) h1 s0
def jf_X12_isKept_B63 (l1 : Int) (s0 : jl_Mm) : jl_O :=
  jl_let (jl_sub (jl_add (25 : Int) (jl_mul (2 : Int) (jl_g s0 249 (((24 : Int) : Int).toNat)))) (2 : Int)) fun x4 => if 0 ≤ x4 ∧ x4 < ((105 : Nat) : Int) then jl_lm (jl_up s0 249 (x4).toNat (jl_g s0 249 (((0 : Int) : Int).toNat))) fun s6 => if 0 ≤ jl_add x4 (1 : Int) ∧ jl_add x4 (1 : Int) < ((105 : Nat) : Int) then jl_lm (jl_up s6 249 (jl_add x4 (1 : Int)).toNat l1) fun s8 => some (0, s8) else none else none
set_option maxRecDepth 20000 in
set_option maxHeartbeats 2000000 in
theorem jj_X12_isKept_B63 (G : jl_GC) (l1 : Int) (hl1 : jl_n3 l1) (s0 : jl_Mm) : j2 G jM_X12_isKept 63 [(0, jl_vr G 206), (1, jl_vi l1)] [] s0 (jf_X12_isKept_B63 l1 s0) := by
  refine jr_bipush dX12_isKept_63 (by decide) ?_
  refine jr_iconst dX12_isKept_65 ?_
  refine jr_aload_n dX12_isKept_66 0 rfl ?_
  refine jr_getk (i := 56) jc_12 jk_206 (by decide) (Nat.le_of_ble_eq_true rfl) jlk_206_56 jw_1261 dX12_isKept_67 ?_
  refine jr_bipush dX12_isKept_70 (by decide) ?_
  refine jr_iaload jk_249 (by decide) (jl_nlit rfl) ⟨by decide, by decide⟩ dX12_isKept_72 ?_
  refine jr_imul dX12_isKept_73 ?_
  refine jr_iadd dX12_isKept_74 ?_
  refine jr_iconst dX12_isKept_75 ?_
  refine jr_isub dX12_isKept_76 ?_
  refine jr_let (jl_n3_to _) (fun x4 hx4 => ?_)
  refine jr_istore_n (lv := [(2, jl_vi x4), (0, jl_vr G 206), (1, jl_vi l1)]) dX12_isKept_77 rfl (Nat.le_of_ble_eq_true rfl) rfl ?_
  refine jr_aload_n dX12_isKept_78 1 rfl ?_
  refine jr_getk (i := 56) jc_12 jk_206 (by decide) (Nat.le_of_ble_eq_true rfl) jlk_206_56 jw_1261 dX12_isKept_79 ?_
  refine jr_iload_n dX12_isKept_82 0 rfl ?_
  refine jr_aload_n dX12_isKept_83 1 rfl ?_
  refine jr_getk (i := 56) jc_12 jk_206 (by decide) (Nat.le_of_ble_eq_true rfl) jlk_206_56 jw_1261 dX12_isKept_84 ?_
  refine jr_iconst dX12_isKept_87 ?_
  refine jr_iaload jk_249 (by decide) (jl_nlit rfl) ⟨by decide, by decide⟩ dX12_isKept_88 ?_
  refine jr_grd (fun g5 => ?_)
  refine jr_iastore jk_249 (by decide) hx4 g5 dX12_isKept_89 ?_
  refine jr_lm (fun s6 => ?_)
  refine jr_aload_n dX12_isKept_90 1 rfl ?_
  refine jr_getk (i := 56) jc_12 jk_206 (by decide) (Nat.le_of_ble_eq_true rfl) jlk_206_56 jw_1261 dX12_isKept_91 ?_
  refine jr_iload_n dX12_isKept_94 0 rfl ?_
  refine jr_iconst dX12_isKept_95 ?_
  refine jr_iadd dX12_isKept_96 ?_
  refine jr_iload_n dX12_isKept_97 2 rfl ?_
  refine jr_grd (fun g7 => ?_)
  refine jr_iastore jk_249 (by decide) (jl_n3_to _) g7 dX12_isKept_98 ?_
  refine jr_lm (fun s8 => ?_)
  exact jr_ret_v rfl dX12_isKept_99
def jf_X12_isKept_L23 : Nat → Int → Int → jl_Mm → jl_O
  | 0, _, _, _ => none
  | n + 1, l1, l2, s0 =>
    if (103 : Int) ≤ l2 then (jf_X12_isKept_B63 l1 s0) else (if 0 ≤ jl_add l2 (2 : Int) ∧ jl_add l2 (2 : Int) < ((105 : Nat) : Int) then if 0 ≤ l2 ∧ l2 < ((105 : Nat) : Int) then jl_lm (jl_up s0 249 (l2).toNat (jl_g s0 249 (jl_add l2 (2 : Int)).toNat)) fun s12 => jf_X12_isKept_L23 n l1 (jl_add l2 1) s12 else none else none)
set_option maxRecDepth 20000 in
set_option maxHeartbeats 2000000 in
theorem jj_X12_isKept_L23 (G : jl_GC) : ∀ (n : Nat) (l1 : Int) (l2 : Int) (hl1 : jl_n3 l1) (hl2 : jl_n3 l2) (s0 : jl_Mm), j2 G jM_X12_isKept 23 [(0, jl_vr G 206), (1, jl_vi l1), (2, jl_vi l2)] [] s0 (jf_X12_isKept_L23 n l1 l2 s0) := by
  intro n
  induction n with
  | zero =>
    intros
    exact jr_none
  | succ n ih =>
    intro l1 l2 hl1 hl2 s0
    refine jr_iload_n dX12_isKept_23 2 rfl ?_
    refine jr_bipush dX12_isKept_24 (by decide) ?_
    refine jr_icmp_ge (t := 49) dX12_isKept_26 (by decide) hl2 (jl_nlit rfl) (fun c9 => ?_) (fun c9 => ?_)
    · refine jr_goto (t := 63) dX12_isKept_49 (by decide) ?_
      refine jr_sub [0, 1] rfl ?_
      exact jj_X12_isKept_B63 G l1 hl1 s0
    · refine jr_aload_n dX12_isKept_29 0 rfl ?_
      refine jr_getk (i := 56) jc_12 jk_206 (by decide) (Nat.le_of_ble_eq_true rfl) jlk_206_56 jw_1261 dX12_isKept_30 ?_
      refine jr_iload_n dX12_isKept_33 2 rfl ?_
      refine jr_aload_n dX12_isKept_34 0 rfl ?_
      refine jr_getk (i := 56) jc_12 jk_206 (by decide) (Nat.le_of_ble_eq_true rfl) jlk_206_56 jw_1261 dX12_isKept_35 ?_
      refine jr_iload_n dX12_isKept_38 2 rfl ?_
      refine jr_iconst dX12_isKept_39 ?_
      refine jr_iadd dX12_isKept_40 ?_
      refine jr_grd (fun g10 => ?_)
      refine jr_iaload jk_249 (by decide) (jl_n3_to _) g10 dX12_isKept_41 ?_
      refine jr_grd (fun g11 => ?_)
      refine jr_iastore jk_249 (by decide) hl2 g11 dX12_isKept_42 ?_
      refine jr_lm (fun s12 => ?_)
      refine jr_iinc (j := 2) (lv := [(2, jl_vi (jl_add l2 1)), (0, jl_vr G 206), (1, jl_vi l1)]) dX12_isKept_43 rfl (Nat.le_of_ble_eq_true rfl) rfl ?_
      refine jr_goto (t := 23) dX12_isKept_46 (by decide) ?_
      refine jr_sub [1, 2, 0] rfl ?_
      exact ih l1 (jl_add l2 1) hl1 (jl_n3_to _) s12
def jf_X12_isKept (v1 : Int) (s0 : jl_Mm) : jl_O :=
  if jl_g s0 206 63 = (0 : Int) then (if jl_g s0 249 (((24 : Int) : Int).toNat) = (40 : Int) then (jf_X12_isKept_L23 jl_fu v1 (25 : Int) s0) else (jl_lm (jl_up s0 249 (((24 : Int) : Int).toNat) (jl_add (jl_g s0 249 (((24 : Int) : Int).toNat)) (1 : Int))) fun s3 => jf_X12_isKept_B63 v1 s3)) else (some (0, s0))
set_option maxRecDepth 20000 in
set_option maxHeartbeats 2000000 in
theorem jt_X12_isKept (G : jl_GC) (v1 : Int) (h1 : jl_n3 v1) (s0 : jl_Mm) : jC2 G jM_X12_isKept [jl_vr G 206, jl_vi v1] s0 (jf_X12_isKept v1 s0) := by
  refine jl_met (plainFor_of_name rfl) (Nat.le_of_ble_eq_true rfl) ?_
  show j2 G jM_X12_isKept 0 [(0, jl_vr G 206), (1, jl_vi v1)] [] s0 _
  refine jr_aload_n dX12_isKept_0 0 rfl ?_
  refine jr_geti (i := 63) jc_12 jk_206 (by decide) (Nat.le_of_ble_eq_true rfl) jlk_206_63 jft_12_63 jw_1268 dX12_isKept_1 ?_
  refine jr_if_eq (t := 8) dX12_isKept_4 (by decide) (jl_n3_to _) (fun c1 => ?_) (fun c1 => ?_)
  · refine jr_aload_n dX12_isKept_8 0 rfl ?_
    refine jr_getk (i := 56) jc_12 jk_206 (by decide) (Nat.le_of_ble_eq_true rfl) jlk_206_56 jw_1261 dX12_isKept_9 ?_
    refine jr_bipush dX12_isKept_12 (by decide) ?_
    refine jr_iaload jk_249 (by decide) (jl_nlit rfl) ⟨by decide, by decide⟩ dX12_isKept_14 ?_
    refine jr_bipush dX12_isKept_15 (by decide) ?_
    refine jr_icmp_ne (t := 52) dX12_isKept_17 (by decide) (jl_n3_to _) (jl_nlit rfl) (fun c2 => ?_) (fun c2 => ?_)
    · refine jr_bipush dX12_isKept_20 (by decide) ?_
      refine jr_istore_n (lv := [(2, jl_vi (25 : Int)), (0, jl_vr G 206), (1, jl_vi v1)]) dX12_isKept_22 rfl (Nat.le_of_ble_eq_true rfl) rfl ?_
      refine jr_sub [1, 2, 0] rfl ?_
      exact jj_X12_isKept_L23 G jl_fu v1 (25 : Int) h1 (jl_nlit rfl) s0
    · refine jr_aload_n dX12_isKept_52 0 rfl ?_
      refine jr_getk (i := 56) jc_12 jk_206 (by decide) (Nat.le_of_ble_eq_true rfl) jlk_206_56 jw_1261 dX12_isKept_53 ?_
      refine jr_bipush dX12_isKept_56 (by decide) ?_
      refine jr_dup2_11 dX12_isKept_58 rfl rfl ?_
      refine jr_iaload jk_249 (by decide) (jl_nlit rfl) ⟨by decide, by decide⟩ dX12_isKept_59 ?_
      refine jr_iconst dX12_isKept_60 ?_
      refine jr_iadd dX12_isKept_61 ?_
      refine jr_iastore jk_249 (by decide) (jl_nlit rfl) ⟨by decide, by decide⟩ dX12_isKept_62 ?_
      refine jr_lm (fun s3 => ?_)
      exact jj_X12_isKept_B63 G v1 h1 s3
  · exact jr_ret_v rfl dX12_isKept_7
def jf_X12_darkens (v1 : Int) (s0 : jl_Mm) : jl_O :=
  if 0 ≤ jl_add (8 : Int) v1 ∧ jl_add (8 : Int) v1 < ((105 : Nat) : Int) then jl_lm (jl_up s0 249 (jl_add (8 : Int) v1).toNat (0 : Int)) fun s2 => if 0 ≤ jl_add (16 : Int) v1 ∧ jl_add (16 : Int) v1 < ((105 : Nat) : Int) then jl_lm (jl_up s2 249 (jl_add (16 : Int) v1).toNat (0 : Int)) fun s4 => some (0, s4) else none else none
set_option maxRecDepth 20000 in
set_option maxHeartbeats 2000000 in
theorem jt_X12_darkens (G : jl_GC) (v1 : Int) (h1 : jl_n3 v1) (s0 : jl_Mm) : jC2 G jM_X12_darkens [jl_vr G 206, jl_vi v1] s0 (jf_X12_darkens v1 s0) := by
  refine jl_met (plainFor_of_name rfl) (Nat.le_of_ble_eq_true rfl) ?_
  show j2 G jM_X12_darkens 0 [(0, jl_vr G 206), (1, jl_vi v1)] [] s0 _
  refine jr_aload_n dX12_darkens_0 0 rfl ?_
  refine jr_getk (i := 56) jc_12 jk_206 (by decide) (Nat.le_of_ble_eq_true rfl) jlk_206_56 jw_1261 dX12_darkens_1 ?_
  refine jr_bipush dX12_darkens_4 (by decide) ?_
  refine jr_iload_n dX12_darkens_6 1 rfl ?_
  refine jr_iadd dX12_darkens_7 ?_
  refine jr_iconst dX12_darkens_8 ?_
  refine jr_grd (fun g1 => ?_)
  refine jr_iastore jk_249 (by decide) (jl_n3_to _) g1 dX12_darkens_9 ?_
  refine jr_lm (fun s2 => ?_)
  refine jr_aload_n dX12_darkens_10 0 rfl ?_
  refine jr_getk (i := 56) jc_12 jk_206 (by decide) (Nat.le_of_ble_eq_true rfl) jlk_206_56 jw_1261 dX12_darkens_11 ?_
  refine jr_bipush dX12_darkens_14 (by decide) ?_
  refine jr_iload_n dX12_darkens_16 1 rfl ?_
  refine jr_iadd dX12_darkens_17 ?_
  refine jr_iconst dX12_darkens_18 ?_
  refine jr_grd (fun g3 => ?_)
  refine jr_iastore jk_249 (by decide) (jl_n3_to _) g3 dX12_darkens_19 ?_
  refine jr_lm (fun s4 => ?_)
  exact jr_ret_v rfl dX12_darkens_20
