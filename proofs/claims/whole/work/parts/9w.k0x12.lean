/-! LieCandlesModel.<init> (by ctor_gen.py) -/
def k0_X12m1 (σ : jl_Mm) : jl_Mm := (k0_ml [(206, 15, ((213 : Nat) : Int)), (213, 2, 101), (213, 1, 105), (213, 0, 108), (206, 14, ((212 : Nat) : Int)), (212, 4, 116), (212, 3, 115), (212, 2, 117), (212, 1, 114), (212, 0, 116), (206, 13, ((211 : Nat) : Int)), (211, 1, 116), (211, 0, 97), (206, 12, ((210 : Nat) : Int)), (210, 5, 110), (210, 4, 111), (210, 3, 115), (210, 2, 114), (210, 1, 101), (210, 0, 112), (206, 11, ((209 : Nat) : Int)), (209, 5, 116), (209, 4, 101), (209, 3, 101), (209, 2, 114), (209, 1, 116), (209, 0, 115), (206, 9, ((208 : Nat) : Int)), (206, 8, (-1)), (206, 0, ((207 : Nat) : Int))] σ)
set_option maxRecDepth 20000 in
set_option maxHeartbeats 4000000 in
theorem k0_X12s1 {G0 : jl_GC} {σ : jl_Mm} {o : jl_O} (k : k0_J G0 207 jM_X12_init (k0_E G0 jM_X12_init 207 286) 214 7 1628 173 [(0, .inl 206)] [] (k0_X12m1 σ) o) : k0_J G0 207 jM_X12_init (k0_E G0 jM_X12_init 207 286) 207 0 0 0 [(0, .inl 206)] [] σ o := by
  refine k0_aload dX12_init_0 0 rfl ?_
  refine k0_obj jw_1203 ⟨Nat.le_of_ble_eq_true rfl, Nat.le_of_ble_eq_true rfl⟩ (fun _ => Nat.le_of_ble_eq_true rfl) dX12_init_1 ?_
  refine k0_aload dX12_init_4 0 rfl ?_
  refine k0_sipush dX12_init_5 (by decide) ?_
  refine k0_ni (nx := 207) (ce := 0) (sl := 0) (N := 1600) jk_207 rfl (Nat.le_of_ble_eq_true rfl) ⟨Nat.le_of_ble_eq_true rfl, Nat.le_of_ble_eq_true rfl⟩ rfl dX12_init_8 ?_
  refine k0_putr (y := 207) (x := 206) (i := 0) jc_12 jk_206 (Nat.le_of_ble_eq_true rfl) (Nat.le_of_ble_eq_true rfl) (by decide +kernel) (Nat.le_of_ble_eq_true rfl) (fun _ => ⟨rfl, rfl⟩) jw_1205 ⟨rfl, rfl⟩ dX12_init_10 ?_
  refine k0_aload dX12_init_13 0 rfl ?_
  refine k0_iconst dX12_init_14 ?_
  refine k0_puti (x := 206) (i := 8) jc_12 jk_206 (Nat.le_of_ble_eq_true rfl) (Nat.le_of_ble_eq_true rfl) (by decide +kernel) ⟨by decide, by decide⟩ jw_1213 ⟨rfl, rfl⟩ dX12_init_15 ?_
  refine k0_aload dX12_init_18 0 rfl ?_
  refine k0_bipush dX12_init_19 (by decide) ?_
  refine k0_ni (nx := 208) (ce := 1) (sl := 1600) (N := 6) jk_208 rfl (Nat.le_of_ble_eq_true rfl) ⟨Nat.le_of_ble_eq_true rfl, Nat.le_of_ble_eq_true rfl⟩ rfl dX12_init_21 ?_
  refine k0_putr (y := 208) (x := 206) (i := 9) jc_12 jk_206 (Nat.le_of_ble_eq_true rfl) (Nat.le_of_ble_eq_true rfl) (by decide +kernel) (Nat.le_of_ble_eq_true rfl) (fun _ => ⟨rfl, rfl⟩) jw_1214 ⟨rfl, rfl⟩ dX12_init_23 ?_
  refine k0_aload dX12_init_26 0 rfl ?_
  refine k0_bipush dX12_init_27 (by decide) ?_
  refine k0_nc (nx := 209) (ce := 2) (sl := 1606) (N := 6) jk_209 rfl (Nat.le_of_ble_eq_true rfl) ⟨Nat.le_of_ble_eq_true rfl, Nat.le_of_ble_eq_true rfl⟩ rfl dX12_init_29 ?_
  refine k0_dup dX12_init_31 ?_
  refine k0_iconst dX12_init_32 ?_
  refine k0_bipush dX12_init_33 (by decide) ?_
  refine k0_cast (x := 209) (j := 0) jk_209 (Nat.le_of_ble_eq_true rfl) ⟨by decide, by decide⟩ ⟨by decide, by decide⟩ rfl (by decide) dX12_init_35 ?_
  refine k0_dup dX12_init_36 ?_
  refine k0_iconst dX12_init_37 ?_
  refine k0_bipush dX12_init_38 (by decide) ?_
  refine k0_cast (x := 209) (j := 1) jk_209 (Nat.le_of_ble_eq_true rfl) ⟨by decide, by decide⟩ ⟨by decide, by decide⟩ rfl (by decide) dX12_init_40 ?_
  refine k0_dup dX12_init_41 ?_
  refine k0_iconst dX12_init_42 ?_
  refine k0_bipush dX12_init_43 (by decide) ?_
  refine k0_cast (x := 209) (j := 2) jk_209 (Nat.le_of_ble_eq_true rfl) ⟨by decide, by decide⟩ ⟨by decide, by decide⟩ rfl (by decide) dX12_init_45 ?_
  refine k0_dup dX12_init_46 ?_
  refine k0_iconst dX12_init_47 ?_
  refine k0_bipush dX12_init_48 (by decide) ?_
  refine k0_cast (x := 209) (j := 3) jk_209 (Nat.le_of_ble_eq_true rfl) ⟨by decide, by decide⟩ ⟨by decide, by decide⟩ rfl (by decide) dX12_init_50 ?_
  refine k0_dup dX12_init_51 ?_
  refine k0_iconst dX12_init_52 ?_
  refine k0_bipush dX12_init_53 (by decide) ?_
  refine k0_cast (x := 209) (j := 4) jk_209 (Nat.le_of_ble_eq_true rfl) ⟨by decide, by decide⟩ ⟨by decide, by decide⟩ rfl (by decide) dX12_init_55 ?_
  refine k0_dup dX12_init_56 ?_
  refine k0_iconst dX12_init_57 ?_
  refine k0_bipush dX12_init_58 (by decide) ?_
  refine k0_cast (x := 209) (j := 5) jk_209 (Nat.le_of_ble_eq_true rfl) ⟨by decide, by decide⟩ ⟨by decide, by decide⟩ rfl (by decide) dX12_init_60 ?_
  refine k0_putr (y := 209) (x := 206) (i := 11) jc_12 jk_206 (Nat.le_of_ble_eq_true rfl) (Nat.le_of_ble_eq_true rfl) (by decide +kernel) (Nat.le_of_ble_eq_true rfl) (fun _ => ⟨rfl, rfl⟩) jw_1216 ⟨rfl, rfl⟩ dX12_init_61 ?_
  refine k0_aload dX12_init_64 0 rfl ?_
  refine k0_bipush dX12_init_65 (by decide) ?_
  refine k0_nc (nx := 210) (ce := 3) (sl := 1612) (N := 6) jk_210 rfl (Nat.le_of_ble_eq_true rfl) ⟨Nat.le_of_ble_eq_true rfl, Nat.le_of_ble_eq_true rfl⟩ rfl dX12_init_67 ?_
  refine k0_dup dX12_init_69 ?_
  refine k0_iconst dX12_init_70 ?_
  refine k0_bipush dX12_init_71 (by decide) ?_
  refine k0_cast (x := 210) (j := 0) jk_210 (Nat.le_of_ble_eq_true rfl) ⟨by decide, by decide⟩ ⟨by decide, by decide⟩ rfl (by decide) dX12_init_73 ?_
  refine k0_dup dX12_init_74 ?_
  refine k0_iconst dX12_init_75 ?_
  refine k0_bipush dX12_init_76 (by decide) ?_
  refine k0_cast (x := 210) (j := 1) jk_210 (Nat.le_of_ble_eq_true rfl) ⟨by decide, by decide⟩ ⟨by decide, by decide⟩ rfl (by decide) dX12_init_78 ?_
  refine k0_dup dX12_init_79 ?_
  refine k0_iconst dX12_init_80 ?_
  refine k0_bipush dX12_init_81 (by decide) ?_
  refine k0_cast (x := 210) (j := 2) jk_210 (Nat.le_of_ble_eq_true rfl) ⟨by decide, by decide⟩ ⟨by decide, by decide⟩ rfl (by decide) dX12_init_83 ?_
  refine k0_dup dX12_init_84 ?_
  refine k0_iconst dX12_init_85 ?_
  refine k0_bipush dX12_init_86 (by decide) ?_
  refine k0_cast (x := 210) (j := 3) jk_210 (Nat.le_of_ble_eq_true rfl) ⟨by decide, by decide⟩ ⟨by decide, by decide⟩ rfl (by decide) dX12_init_88 ?_
  refine k0_dup dX12_init_89 ?_
  refine k0_iconst dX12_init_90 ?_
  refine k0_bipush dX12_init_91 (by decide) ?_
  refine k0_cast (x := 210) (j := 4) jk_210 (Nat.le_of_ble_eq_true rfl) ⟨by decide, by decide⟩ ⟨by decide, by decide⟩ rfl (by decide) dX12_init_93 ?_
  refine k0_dup dX12_init_94 ?_
  refine k0_iconst dX12_init_95 ?_
  refine k0_bipush dX12_init_96 (by decide) ?_
  refine k0_cast (x := 210) (j := 5) jk_210 (Nat.le_of_ble_eq_true rfl) ⟨by decide, by decide⟩ ⟨by decide, by decide⟩ rfl (by decide) dX12_init_98 ?_
  refine k0_putr (y := 210) (x := 206) (i := 12) jc_12 jk_206 (Nat.le_of_ble_eq_true rfl) (Nat.le_of_ble_eq_true rfl) (by decide +kernel) (Nat.le_of_ble_eq_true rfl) (fun _ => ⟨rfl, rfl⟩) jw_1217 ⟨rfl, rfl⟩ dX12_init_99 ?_
  refine k0_aload dX12_init_102 0 rfl ?_
  refine k0_iconst dX12_init_103 ?_
  refine k0_nc (nx := 211) (ce := 4) (sl := 1618) (N := 2) jk_211 rfl (Nat.le_of_ble_eq_true rfl) ⟨Nat.le_of_ble_eq_true rfl, Nat.le_of_ble_eq_true rfl⟩ rfl dX12_init_104 ?_
  refine k0_dup dX12_init_106 ?_
  refine k0_iconst dX12_init_107 ?_
  refine k0_bipush dX12_init_108 (by decide) ?_
  refine k0_cast (x := 211) (j := 0) jk_211 (Nat.le_of_ble_eq_true rfl) ⟨by decide, by decide⟩ ⟨by decide, by decide⟩ rfl (by decide) dX12_init_110 ?_
  refine k0_dup dX12_init_111 ?_
  refine k0_iconst dX12_init_112 ?_
  refine k0_bipush dX12_init_113 (by decide) ?_
  refine k0_cast (x := 211) (j := 1) jk_211 (Nat.le_of_ble_eq_true rfl) ⟨by decide, by decide⟩ ⟨by decide, by decide⟩ rfl (by decide) dX12_init_115 ?_
  refine k0_putr (y := 211) (x := 206) (i := 13) jc_12 jk_206 (Nat.le_of_ble_eq_true rfl) (Nat.le_of_ble_eq_true rfl) (by decide +kernel) (Nat.le_of_ble_eq_true rfl) (fun _ => ⟨rfl, rfl⟩) jw_1218 ⟨rfl, rfl⟩ dX12_init_116 ?_
  refine k0_aload dX12_init_119 0 rfl ?_
  refine k0_iconst dX12_init_120 ?_
  refine k0_nc (nx := 212) (ce := 5) (sl := 1620) (N := 5) jk_212 rfl (Nat.le_of_ble_eq_true rfl) ⟨Nat.le_of_ble_eq_true rfl, Nat.le_of_ble_eq_true rfl⟩ rfl dX12_init_121 ?_
  refine k0_dup dX12_init_123 ?_
  refine k0_iconst dX12_init_124 ?_
  refine k0_bipush dX12_init_125 (by decide) ?_
  refine k0_cast (x := 212) (j := 0) jk_212 (Nat.le_of_ble_eq_true rfl) ⟨by decide, by decide⟩ ⟨by decide, by decide⟩ rfl (by decide) dX12_init_127 ?_
  refine k0_dup dX12_init_128 ?_
  refine k0_iconst dX12_init_129 ?_
  refine k0_bipush dX12_init_130 (by decide) ?_
  refine k0_cast (x := 212) (j := 1) jk_212 (Nat.le_of_ble_eq_true rfl) ⟨by decide, by decide⟩ ⟨by decide, by decide⟩ rfl (by decide) dX12_init_132 ?_
  refine k0_dup dX12_init_133 ?_
  refine k0_iconst dX12_init_134 ?_
  refine k0_bipush dX12_init_135 (by decide) ?_
  refine k0_cast (x := 212) (j := 2) jk_212 (Nat.le_of_ble_eq_true rfl) ⟨by decide, by decide⟩ ⟨by decide, by decide⟩ rfl (by decide) dX12_init_137 ?_
  refine k0_dup dX12_init_138 ?_
  refine k0_iconst dX12_init_139 ?_
  refine k0_bipush dX12_init_140 (by decide) ?_
  refine k0_cast (x := 212) (j := 3) jk_212 (Nat.le_of_ble_eq_true rfl) ⟨by decide, by decide⟩ ⟨by decide, by decide⟩ rfl (by decide) dX12_init_142 ?_
  refine k0_dup dX12_init_143 ?_
  refine k0_iconst dX12_init_144 ?_
  refine k0_bipush dX12_init_145 (by decide) ?_
  refine k0_cast (x := 212) (j := 4) jk_212 (Nat.le_of_ble_eq_true rfl) ⟨by decide, by decide⟩ ⟨by decide, by decide⟩ rfl (by decide) dX12_init_147 ?_
  refine k0_putr (y := 212) (x := 206) (i := 14) jc_12 jk_206 (Nat.le_of_ble_eq_true rfl) (Nat.le_of_ble_eq_true rfl) (by decide +kernel) (Nat.le_of_ble_eq_true rfl) (fun _ => ⟨rfl, rfl⟩) jw_1219 ⟨rfl, rfl⟩ dX12_init_148 ?_
  refine k0_aload dX12_init_151 0 rfl ?_
  refine k0_iconst dX12_init_152 ?_
  refine k0_nc (nx := 213) (ce := 6) (sl := 1625) (N := 3) jk_213 rfl (Nat.le_of_ble_eq_true rfl) ⟨Nat.le_of_ble_eq_true rfl, Nat.le_of_ble_eq_true rfl⟩ rfl dX12_init_153 ?_
  refine k0_dup dX12_init_155 ?_
  refine k0_iconst dX12_init_156 ?_
  refine k0_bipush dX12_init_157 (by decide) ?_
  refine k0_cast (x := 213) (j := 0) jk_213 (Nat.le_of_ble_eq_true rfl) ⟨by decide, by decide⟩ ⟨by decide, by decide⟩ rfl (by decide) dX12_init_159 ?_
  refine k0_dup dX12_init_160 ?_
  refine k0_iconst dX12_init_161 ?_
  refine k0_bipush dX12_init_162 (by decide) ?_
  refine k0_cast (x := 213) (j := 1) jk_213 (Nat.le_of_ble_eq_true rfl) ⟨by decide, by decide⟩ ⟨by decide, by decide⟩ rfl (by decide) dX12_init_164 ?_
  refine k0_dup dX12_init_165 ?_
  refine k0_iconst dX12_init_166 ?_
  refine k0_bipush dX12_init_167 (by decide) ?_
  refine k0_cast (x := 213) (j := 2) jk_213 (Nat.le_of_ble_eq_true rfl) ⟨by decide, by decide⟩ ⟨by decide, by decide⟩ rfl (by decide) dX12_init_169 ?_
  refine k0_putr (y := 213) (x := 206) (i := 15) jc_12 jk_206 (Nat.le_of_ble_eq_true rfl) (Nat.le_of_ble_eq_true rfl) (by decide +kernel) (Nat.le_of_ble_eq_true rfl) (fun _ => ⟨rfl, rfl⟩) jw_1220 ⟨rfl, rfl⟩ dX12_init_170 ?_
  exact k
def k0_X12m2 (σ : jl_Mm) : jl_Mm := (k0_ml [(206, 22, ((220 : Nat) : Int)), (220, 5, 115), (220, 4, 116), (220, 3, 102), (220, 2, 97), (220, 1, 114), (220, 0, 100), (206, 21, ((219 : Nat) : Int)), (219, 5, 119), (219, 4, 111), (219, 3, 108), (219, 2, 108), (219, 1, 97), (219, 0, 116), (206, 20, ((218 : Nat) : Int)), (218, 2, 114), (218, 1, 111), (218, 0, 102), (206, 19, ((217 : Nat) : Int)), (217, 4, 116), (217, 3, 104), (217, 2, 103), (217, 1, 105), (217, 0, 108), (206, 18, ((216 : Nat) : Int)), (216, 1, 110), (216, 0, 111), (206, 17, ((215 : Nat) : Int)), (215, 4, 115), (215, 3, 103), (215, 2, 110), (215, 1, 97), (215, 0, 104), (206, 16, ((214 : Nat) : Int)), (214, 1, 102), (214, 0, 111)] σ)
set_option maxRecDepth 20000 in
set_option maxHeartbeats 4000000 in
theorem k0_X12s2 {G0 : jl_GC} {σ : jl_Mm} {o : jl_O} (k : k0_J G0 207 jM_X12_init (k0_E G0 jM_X12_init 207 286) 221 14 1657 369 [(0, .inl 206)] [] (k0_X12m2 σ) o) : k0_J G0 207 jM_X12_init (k0_E G0 jM_X12_init 207 286) 214 7 1628 173 [(0, .inl 206)] [] σ o := by
  refine k0_aload dX12_init_173 0 rfl ?_
  refine k0_iconst dX12_init_174 ?_
  refine k0_nc (nx := 214) (ce := 7) (sl := 1628) (N := 2) jk_214 rfl (Nat.le_of_ble_eq_true rfl) ⟨Nat.le_of_ble_eq_true rfl, Nat.le_of_ble_eq_true rfl⟩ rfl dX12_init_175 ?_
  refine k0_dup dX12_init_177 ?_
  refine k0_iconst dX12_init_178 ?_
  refine k0_bipush dX12_init_179 (by decide) ?_
  refine k0_cast (x := 214) (j := 0) jk_214 (Nat.le_of_ble_eq_true rfl) ⟨by decide, by decide⟩ ⟨by decide, by decide⟩ rfl (by decide) dX12_init_181 ?_
  refine k0_dup dX12_init_182 ?_
  refine k0_iconst dX12_init_183 ?_
  refine k0_bipush dX12_init_184 (by decide) ?_
  refine k0_cast (x := 214) (j := 1) jk_214 (Nat.le_of_ble_eq_true rfl) ⟨by decide, by decide⟩ ⟨by decide, by decide⟩ rfl (by decide) dX12_init_186 ?_
  refine k0_putr (y := 214) (x := 206) (i := 16) jc_12 jk_206 (Nat.le_of_ble_eq_true rfl) (Nat.le_of_ble_eq_true rfl) (by decide +kernel) (Nat.le_of_ble_eq_true rfl) (fun _ => ⟨rfl, rfl⟩) jw_1221 ⟨rfl, rfl⟩ dX12_init_187 ?_
  refine k0_aload dX12_init_190 0 rfl ?_
  refine k0_iconst dX12_init_191 ?_
  refine k0_nc (nx := 215) (ce := 8) (sl := 1630) (N := 5) jk_215 rfl (Nat.le_of_ble_eq_true rfl) ⟨Nat.le_of_ble_eq_true rfl, Nat.le_of_ble_eq_true rfl⟩ rfl dX12_init_192 ?_
  refine k0_dup dX12_init_194 ?_
  refine k0_iconst dX12_init_195 ?_
  refine k0_bipush dX12_init_196 (by decide) ?_
  refine k0_cast (x := 215) (j := 0) jk_215 (Nat.le_of_ble_eq_true rfl) ⟨by decide, by decide⟩ ⟨by decide, by decide⟩ rfl (by decide) dX12_init_198 ?_
  refine k0_dup dX12_init_199 ?_
  refine k0_iconst dX12_init_200 ?_
  refine k0_bipush dX12_init_201 (by decide) ?_
  refine k0_cast (x := 215) (j := 1) jk_215 (Nat.le_of_ble_eq_true rfl) ⟨by decide, by decide⟩ ⟨by decide, by decide⟩ rfl (by decide) dX12_init_203 ?_
  refine k0_dup dX12_init_204 ?_
  refine k0_iconst dX12_init_205 ?_
  refine k0_bipush dX12_init_206 (by decide) ?_
  refine k0_cast (x := 215) (j := 2) jk_215 (Nat.le_of_ble_eq_true rfl) ⟨by decide, by decide⟩ ⟨by decide, by decide⟩ rfl (by decide) dX12_init_208 ?_
  refine k0_dup dX12_init_209 ?_
  refine k0_iconst dX12_init_210 ?_
  refine k0_bipush dX12_init_211 (by decide) ?_
  refine k0_cast (x := 215) (j := 3) jk_215 (Nat.le_of_ble_eq_true rfl) ⟨by decide, by decide⟩ ⟨by decide, by decide⟩ rfl (by decide) dX12_init_213 ?_
  refine k0_dup dX12_init_214 ?_
  refine k0_iconst dX12_init_215 ?_
  refine k0_bipush dX12_init_216 (by decide) ?_
  refine k0_cast (x := 215) (j := 4) jk_215 (Nat.le_of_ble_eq_true rfl) ⟨by decide, by decide⟩ ⟨by decide, by decide⟩ rfl (by decide) dX12_init_218 ?_
  refine k0_putr (y := 215) (x := 206) (i := 17) jc_12 jk_206 (Nat.le_of_ble_eq_true rfl) (Nat.le_of_ble_eq_true rfl) (by decide +kernel) (Nat.le_of_ble_eq_true rfl) (fun _ => ⟨rfl, rfl⟩) jw_1222 ⟨rfl, rfl⟩ dX12_init_219 ?_
  refine k0_aload dX12_init_222 0 rfl ?_
  refine k0_iconst dX12_init_223 ?_
  refine k0_nc (nx := 216) (ce := 9) (sl := 1635) (N := 2) jk_216 rfl (Nat.le_of_ble_eq_true rfl) ⟨Nat.le_of_ble_eq_true rfl, Nat.le_of_ble_eq_true rfl⟩ rfl dX12_init_224 ?_
  refine k0_dup dX12_init_226 ?_
  refine k0_iconst dX12_init_227 ?_
  refine k0_bipush dX12_init_228 (by decide) ?_
  refine k0_cast (x := 216) (j := 0) jk_216 (Nat.le_of_ble_eq_true rfl) ⟨by decide, by decide⟩ ⟨by decide, by decide⟩ rfl (by decide) dX12_init_230 ?_
  refine k0_dup dX12_init_231 ?_
  refine k0_iconst dX12_init_232 ?_
  refine k0_bipush dX12_init_233 (by decide) ?_
  refine k0_cast (x := 216) (j := 1) jk_216 (Nat.le_of_ble_eq_true rfl) ⟨by decide, by decide⟩ ⟨by decide, by decide⟩ rfl (by decide) dX12_init_235 ?_
  refine k0_putr (y := 216) (x := 206) (i := 18) jc_12 jk_206 (Nat.le_of_ble_eq_true rfl) (Nat.le_of_ble_eq_true rfl) (by decide +kernel) (Nat.le_of_ble_eq_true rfl) (fun _ => ⟨rfl, rfl⟩) jw_1223 ⟨rfl, rfl⟩ dX12_init_236 ?_
  refine k0_aload dX12_init_239 0 rfl ?_
  refine k0_iconst dX12_init_240 ?_
  refine k0_nc (nx := 217) (ce := 10) (sl := 1637) (N := 5) jk_217 rfl (Nat.le_of_ble_eq_true rfl) ⟨Nat.le_of_ble_eq_true rfl, Nat.le_of_ble_eq_true rfl⟩ rfl dX12_init_241 ?_
  refine k0_dup dX12_init_243 ?_
  refine k0_iconst dX12_init_244 ?_
  refine k0_bipush dX12_init_245 (by decide) ?_
  refine k0_cast (x := 217) (j := 0) jk_217 (Nat.le_of_ble_eq_true rfl) ⟨by decide, by decide⟩ ⟨by decide, by decide⟩ rfl (by decide) dX12_init_247 ?_
  refine k0_dup dX12_init_248 ?_
  refine k0_iconst dX12_init_249 ?_
  refine k0_bipush dX12_init_250 (by decide) ?_
  refine k0_cast (x := 217) (j := 1) jk_217 (Nat.le_of_ble_eq_true rfl) ⟨by decide, by decide⟩ ⟨by decide, by decide⟩ rfl (by decide) dX12_init_252 ?_
  refine k0_dup dX12_init_253 ?_
  refine k0_iconst dX12_init_254 ?_
  refine k0_bipush dX12_init_255 (by decide) ?_
  refine k0_cast (x := 217) (j := 2) jk_217 (Nat.le_of_ble_eq_true rfl) ⟨by decide, by decide⟩ ⟨by decide, by decide⟩ rfl (by decide) dX12_init_257 ?_
  refine k0_dup dX12_init_258 ?_
  refine k0_iconst dX12_init_259 ?_
  refine k0_bipush dX12_init_260 (by decide) ?_
  refine k0_cast (x := 217) (j := 3) jk_217 (Nat.le_of_ble_eq_true rfl) ⟨by decide, by decide⟩ ⟨by decide, by decide⟩ rfl (by decide) dX12_init_262 ?_
  refine k0_dup dX12_init_263 ?_
  refine k0_iconst dX12_init_264 ?_
  refine k0_bipush dX12_init_265 (by decide) ?_
  refine k0_cast (x := 217) (j := 4) jk_217 (Nat.le_of_ble_eq_true rfl) ⟨by decide, by decide⟩ ⟨by decide, by decide⟩ rfl (by decide) dX12_init_267 ?_
  refine k0_putr (y := 217) (x := 206) (i := 19) jc_12 jk_206 (Nat.le_of_ble_eq_true rfl) (Nat.le_of_ble_eq_true rfl) (by decide +kernel) (Nat.le_of_ble_eq_true rfl) (fun _ => ⟨rfl, rfl⟩) jw_1224 ⟨rfl, rfl⟩ dX12_init_268 ?_
  refine k0_aload dX12_init_271 0 rfl ?_
  refine k0_iconst dX12_init_272 ?_
  refine k0_nc (nx := 218) (ce := 11) (sl := 1642) (N := 3) jk_218 rfl (Nat.le_of_ble_eq_true rfl) ⟨Nat.le_of_ble_eq_true rfl, Nat.le_of_ble_eq_true rfl⟩ rfl dX12_init_273 ?_
  refine k0_dup dX12_init_275 ?_
  refine k0_iconst dX12_init_276 ?_
  refine k0_bipush dX12_init_277 (by decide) ?_
  refine k0_cast (x := 218) (j := 0) jk_218 (Nat.le_of_ble_eq_true rfl) ⟨by decide, by decide⟩ ⟨by decide, by decide⟩ rfl (by decide) dX12_init_279 ?_
  refine k0_dup dX12_init_280 ?_
  refine k0_iconst dX12_init_281 ?_
  refine k0_bipush dX12_init_282 (by decide) ?_
  refine k0_cast (x := 218) (j := 1) jk_218 (Nat.le_of_ble_eq_true rfl) ⟨by decide, by decide⟩ ⟨by decide, by decide⟩ rfl (by decide) dX12_init_284 ?_
  refine k0_dup dX12_init_285 ?_
  refine k0_iconst dX12_init_286 ?_
  refine k0_bipush dX12_init_287 (by decide) ?_
  refine k0_cast (x := 218) (j := 2) jk_218 (Nat.le_of_ble_eq_true rfl) ⟨by decide, by decide⟩ ⟨by decide, by decide⟩ rfl (by decide) dX12_init_289 ?_
  refine k0_putr (y := 218) (x := 206) (i := 20) jc_12 jk_206 (Nat.le_of_ble_eq_true rfl) (Nat.le_of_ble_eq_true rfl) (by decide +kernel) (Nat.le_of_ble_eq_true rfl) (fun _ => ⟨rfl, rfl⟩) jw_1225 ⟨rfl, rfl⟩ dX12_init_290 ?_
  refine k0_aload dX12_init_293 0 rfl ?_
  refine k0_bipush dX12_init_294 (by decide) ?_
  refine k0_nc (nx := 219) (ce := 12) (sl := 1645) (N := 6) jk_219 rfl (Nat.le_of_ble_eq_true rfl) ⟨Nat.le_of_ble_eq_true rfl, Nat.le_of_ble_eq_true rfl⟩ rfl dX12_init_296 ?_
  refine k0_dup dX12_init_298 ?_
  refine k0_iconst dX12_init_299 ?_
  refine k0_bipush dX12_init_300 (by decide) ?_
  refine k0_cast (x := 219) (j := 0) jk_219 (Nat.le_of_ble_eq_true rfl) ⟨by decide, by decide⟩ ⟨by decide, by decide⟩ rfl (by decide) dX12_init_302 ?_
  refine k0_dup dX12_init_303 ?_
  refine k0_iconst dX12_init_304 ?_
  refine k0_bipush dX12_init_305 (by decide) ?_
  refine k0_cast (x := 219) (j := 1) jk_219 (Nat.le_of_ble_eq_true rfl) ⟨by decide, by decide⟩ ⟨by decide, by decide⟩ rfl (by decide) dX12_init_307 ?_
  refine k0_dup dX12_init_308 ?_
  refine k0_iconst dX12_init_309 ?_
  refine k0_bipush dX12_init_310 (by decide) ?_
  refine k0_cast (x := 219) (j := 2) jk_219 (Nat.le_of_ble_eq_true rfl) ⟨by decide, by decide⟩ ⟨by decide, by decide⟩ rfl (by decide) dX12_init_312 ?_
  refine k0_dup dX12_init_313 ?_
  refine k0_iconst dX12_init_314 ?_
  refine k0_bipush dX12_init_315 (by decide) ?_
  refine k0_cast (x := 219) (j := 3) jk_219 (Nat.le_of_ble_eq_true rfl) ⟨by decide, by decide⟩ ⟨by decide, by decide⟩ rfl (by decide) dX12_init_317 ?_
  refine k0_dup dX12_init_318 ?_
  refine k0_iconst dX12_init_319 ?_
  refine k0_bipush dX12_init_320 (by decide) ?_
  refine k0_cast (x := 219) (j := 4) jk_219 (Nat.le_of_ble_eq_true rfl) ⟨by decide, by decide⟩ ⟨by decide, by decide⟩ rfl (by decide) dX12_init_322 ?_
  refine k0_dup dX12_init_323 ?_
  refine k0_iconst dX12_init_324 ?_
  refine k0_bipush dX12_init_325 (by decide) ?_
  refine k0_cast (x := 219) (j := 5) jk_219 (Nat.le_of_ble_eq_true rfl) ⟨by decide, by decide⟩ ⟨by decide, by decide⟩ rfl (by decide) dX12_init_327 ?_
  refine k0_putr (y := 219) (x := 206) (i := 21) jc_12 jk_206 (Nat.le_of_ble_eq_true rfl) (Nat.le_of_ble_eq_true rfl) (by decide +kernel) (Nat.le_of_ble_eq_true rfl) (fun _ => ⟨rfl, rfl⟩) jw_1226 ⟨rfl, rfl⟩ dX12_init_328 ?_
  refine k0_aload dX12_init_331 0 rfl ?_
  refine k0_bipush dX12_init_332 (by decide) ?_
  refine k0_nc (nx := 220) (ce := 13) (sl := 1651) (N := 6) jk_220 rfl (Nat.le_of_ble_eq_true rfl) ⟨Nat.le_of_ble_eq_true rfl, Nat.le_of_ble_eq_true rfl⟩ rfl dX12_init_334 ?_
  refine k0_dup dX12_init_336 ?_
  refine k0_iconst dX12_init_337 ?_
  refine k0_bipush dX12_init_338 (by decide) ?_
  refine k0_cast (x := 220) (j := 0) jk_220 (Nat.le_of_ble_eq_true rfl) ⟨by decide, by decide⟩ ⟨by decide, by decide⟩ rfl (by decide) dX12_init_340 ?_
  refine k0_dup dX12_init_341 ?_
  refine k0_iconst dX12_init_342 ?_
  refine k0_bipush dX12_init_343 (by decide) ?_
  refine k0_cast (x := 220) (j := 1) jk_220 (Nat.le_of_ble_eq_true rfl) ⟨by decide, by decide⟩ ⟨by decide, by decide⟩ rfl (by decide) dX12_init_345 ?_
  refine k0_dup dX12_init_346 ?_
  refine k0_iconst dX12_init_347 ?_
  refine k0_bipush dX12_init_348 (by decide) ?_
  refine k0_cast (x := 220) (j := 2) jk_220 (Nat.le_of_ble_eq_true rfl) ⟨by decide, by decide⟩ ⟨by decide, by decide⟩ rfl (by decide) dX12_init_350 ?_
  refine k0_dup dX12_init_351 ?_
  refine k0_iconst dX12_init_352 ?_
  refine k0_bipush dX12_init_353 (by decide) ?_
  refine k0_cast (x := 220) (j := 3) jk_220 (Nat.le_of_ble_eq_true rfl) ⟨by decide, by decide⟩ ⟨by decide, by decide⟩ rfl (by decide) dX12_init_355 ?_
  refine k0_dup dX12_init_356 ?_
  refine k0_iconst dX12_init_357 ?_
  refine k0_bipush dX12_init_358 (by decide) ?_
  refine k0_cast (x := 220) (j := 4) jk_220 (Nat.le_of_ble_eq_true rfl) ⟨by decide, by decide⟩ ⟨by decide, by decide⟩ rfl (by decide) dX12_init_360 ?_
  refine k0_dup dX12_init_361 ?_
  refine k0_iconst dX12_init_362 ?_
  refine k0_bipush dX12_init_363 (by decide) ?_
  refine k0_cast (x := 220) (j := 5) jk_220 (Nat.le_of_ble_eq_true rfl) ⟨by decide, by decide⟩ ⟨by decide, by decide⟩ rfl (by decide) dX12_init_365 ?_
  refine k0_putr (y := 220) (x := 206) (i := 22) jc_12 jk_206 (Nat.le_of_ble_eq_true rfl) (Nat.le_of_ble_eq_true rfl) (by decide +kernel) (Nat.le_of_ble_eq_true rfl) (fun _ => ⟨rfl, rfl⟩) jw_1227 ⟨rfl, rfl⟩ dX12_init_366 ?_
  exact k
def k0_X12m3 (σ : jl_Mm) : jl_Mm := (k0_ml [(206, 27, ((225 : Nat) : Int)), (225, 3, 114), (225, 2, 97), (225, 1, 101), (225, 0, 110), (206, 26, ((224 : Nat) : Int)), (224, 5, 115), (224, 4, 101), (224, 3, 104), (224, 2, 99), (224, 1, 110), (224, 0, 105), (206, 25, ((223 : Nat) : Int)), (223, 3, 116), (223, 2, 115), (223, 1, 117), (223, 0, 103), (206, 24, ((222 : Nat) : Int)), (222, 7, 115), (222, 6, 101), (222, 5, 118), (222, 4, 101), (222, 3, 105), (222, 2, 108), (222, 1, 101), (222, 0, 98), (206, 23, ((221 : Nat) : Int)), (221, 4, 115), (221, 3, 110), (221, 2, 114), (221, 1, 117), (221, 0, 98)] σ)
set_option maxRecDepth 20000 in
set_option maxHeartbeats 4000000 in
theorem k0_X12s3 {G0 : jl_GC} {σ : jl_Mm} {o : jl_O} (k : k0_J G0 207 jM_X12_init (k0_E G0 jM_X12_init 207 286) 226 19 1684 543 [(0, .inl 206)] [] (k0_X12m3 σ) o) : k0_J G0 207 jM_X12_init (k0_E G0 jM_X12_init 207 286) 221 14 1657 369 [(0, .inl 206)] [] σ o := by
  refine k0_aload dX12_init_369 0 rfl ?_
  refine k0_iconst dX12_init_370 ?_
  refine k0_nc (nx := 221) (ce := 14) (sl := 1657) (N := 5) jk_221 rfl (Nat.le_of_ble_eq_true rfl) ⟨Nat.le_of_ble_eq_true rfl, Nat.le_of_ble_eq_true rfl⟩ rfl dX12_init_371 ?_
  refine k0_dup dX12_init_373 ?_
  refine k0_iconst dX12_init_374 ?_
  refine k0_bipush dX12_init_375 (by decide) ?_
  refine k0_cast (x := 221) (j := 0) jk_221 (Nat.le_of_ble_eq_true rfl) ⟨by decide, by decide⟩ ⟨by decide, by decide⟩ rfl (by decide) dX12_init_377 ?_
  refine k0_dup dX12_init_378 ?_
  refine k0_iconst dX12_init_379 ?_
  refine k0_bipush dX12_init_380 (by decide) ?_
  refine k0_cast (x := 221) (j := 1) jk_221 (Nat.le_of_ble_eq_true rfl) ⟨by decide, by decide⟩ ⟨by decide, by decide⟩ rfl (by decide) dX12_init_382 ?_
  refine k0_dup dX12_init_383 ?_
  refine k0_iconst dX12_init_384 ?_
  refine k0_bipush dX12_init_385 (by decide) ?_
  refine k0_cast (x := 221) (j := 2) jk_221 (Nat.le_of_ble_eq_true rfl) ⟨by decide, by decide⟩ ⟨by decide, by decide⟩ rfl (by decide) dX12_init_387 ?_
  refine k0_dup dX12_init_388 ?_
  refine k0_iconst dX12_init_389 ?_
  refine k0_bipush dX12_init_390 (by decide) ?_
  refine k0_cast (x := 221) (j := 3) jk_221 (Nat.le_of_ble_eq_true rfl) ⟨by decide, by decide⟩ ⟨by decide, by decide⟩ rfl (by decide) dX12_init_392 ?_
  refine k0_dup dX12_init_393 ?_
  refine k0_iconst dX12_init_394 ?_
  refine k0_bipush dX12_init_395 (by decide) ?_
  refine k0_cast (x := 221) (j := 4) jk_221 (Nat.le_of_ble_eq_true rfl) ⟨by decide, by decide⟩ ⟨by decide, by decide⟩ rfl (by decide) dX12_init_397 ?_
  refine k0_putr (y := 221) (x := 206) (i := 23) jc_12 jk_206 (Nat.le_of_ble_eq_true rfl) (Nat.le_of_ble_eq_true rfl) (by decide +kernel) (Nat.le_of_ble_eq_true rfl) (fun _ => ⟨rfl, rfl⟩) jw_1228 ⟨rfl, rfl⟩ dX12_init_398 ?_
  refine k0_aload dX12_init_401 0 rfl ?_
  refine k0_bipush dX12_init_402 (by decide) ?_
  refine k0_nc (nx := 222) (ce := 15) (sl := 1662) (N := 8) jk_222 rfl (Nat.le_of_ble_eq_true rfl) ⟨Nat.le_of_ble_eq_true rfl, Nat.le_of_ble_eq_true rfl⟩ rfl dX12_init_404 ?_
  refine k0_dup dX12_init_406 ?_
  refine k0_iconst dX12_init_407 ?_
  refine k0_bipush dX12_init_408 (by decide) ?_
  refine k0_cast (x := 222) (j := 0) jk_222 (Nat.le_of_ble_eq_true rfl) ⟨by decide, by decide⟩ ⟨by decide, by decide⟩ rfl (by decide) dX12_init_410 ?_
  refine k0_dup dX12_init_411 ?_
  refine k0_iconst dX12_init_412 ?_
  refine k0_bipush dX12_init_413 (by decide) ?_
  refine k0_cast (x := 222) (j := 1) jk_222 (Nat.le_of_ble_eq_true rfl) ⟨by decide, by decide⟩ ⟨by decide, by decide⟩ rfl (by decide) dX12_init_415 ?_
  refine k0_dup dX12_init_416 ?_
  refine k0_iconst dX12_init_417 ?_
  refine k0_bipush dX12_init_418 (by decide) ?_
  refine k0_cast (x := 222) (j := 2) jk_222 (Nat.le_of_ble_eq_true rfl) ⟨by decide, by decide⟩ ⟨by decide, by decide⟩ rfl (by decide) dX12_init_420 ?_
  refine k0_dup dX12_init_421 ?_
  refine k0_iconst dX12_init_422 ?_
  refine k0_bipush dX12_init_423 (by decide) ?_
  refine k0_cast (x := 222) (j := 3) jk_222 (Nat.le_of_ble_eq_true rfl) ⟨by decide, by decide⟩ ⟨by decide, by decide⟩ rfl (by decide) dX12_init_425 ?_
  refine k0_dup dX12_init_426 ?_
  refine k0_iconst dX12_init_427 ?_
  refine k0_bipush dX12_init_428 (by decide) ?_
  refine k0_cast (x := 222) (j := 4) jk_222 (Nat.le_of_ble_eq_true rfl) ⟨by decide, by decide⟩ ⟨by decide, by decide⟩ rfl (by decide) dX12_init_430 ?_
  refine k0_dup dX12_init_431 ?_
  refine k0_iconst dX12_init_432 ?_
  refine k0_bipush dX12_init_433 (by decide) ?_
  refine k0_cast (x := 222) (j := 5) jk_222 (Nat.le_of_ble_eq_true rfl) ⟨by decide, by decide⟩ ⟨by decide, by decide⟩ rfl (by decide) dX12_init_435 ?_
  refine k0_dup dX12_init_436 ?_
  refine k0_bipush dX12_init_437 (by decide) ?_
  refine k0_bipush dX12_init_439 (by decide) ?_
  refine k0_cast (x := 222) (j := 6) jk_222 (Nat.le_of_ble_eq_true rfl) ⟨by decide, by decide⟩ ⟨by decide, by decide⟩ rfl (by decide) dX12_init_441 ?_
  refine k0_dup dX12_init_442 ?_
  refine k0_bipush dX12_init_443 (by decide) ?_
  refine k0_bipush dX12_init_445 (by decide) ?_
  refine k0_cast (x := 222) (j := 7) jk_222 (Nat.le_of_ble_eq_true rfl) ⟨by decide, by decide⟩ ⟨by decide, by decide⟩ rfl (by decide) dX12_init_447 ?_
  refine k0_putr (y := 222) (x := 206) (i := 24) jc_12 jk_206 (Nat.le_of_ble_eq_true rfl) (Nat.le_of_ble_eq_true rfl) (by decide +kernel) (Nat.le_of_ble_eq_true rfl) (fun _ => ⟨rfl, rfl⟩) jw_1229 ⟨rfl, rfl⟩ dX12_init_448 ?_
  refine k0_aload dX12_init_451 0 rfl ?_
  refine k0_iconst dX12_init_452 ?_
  refine k0_nc (nx := 223) (ce := 16) (sl := 1670) (N := 4) jk_223 rfl (Nat.le_of_ble_eq_true rfl) ⟨Nat.le_of_ble_eq_true rfl, Nat.le_of_ble_eq_true rfl⟩ rfl dX12_init_453 ?_
  refine k0_dup dX12_init_455 ?_
  refine k0_iconst dX12_init_456 ?_
  refine k0_bipush dX12_init_457 (by decide) ?_
  refine k0_cast (x := 223) (j := 0) jk_223 (Nat.le_of_ble_eq_true rfl) ⟨by decide, by decide⟩ ⟨by decide, by decide⟩ rfl (by decide) dX12_init_459 ?_
  refine k0_dup dX12_init_460 ?_
  refine k0_iconst dX12_init_461 ?_
  refine k0_bipush dX12_init_462 (by decide) ?_
  refine k0_cast (x := 223) (j := 1) jk_223 (Nat.le_of_ble_eq_true rfl) ⟨by decide, by decide⟩ ⟨by decide, by decide⟩ rfl (by decide) dX12_init_464 ?_
  refine k0_dup dX12_init_465 ?_
  refine k0_iconst dX12_init_466 ?_
  refine k0_bipush dX12_init_467 (by decide) ?_
  refine k0_cast (x := 223) (j := 2) jk_223 (Nat.le_of_ble_eq_true rfl) ⟨by decide, by decide⟩ ⟨by decide, by decide⟩ rfl (by decide) dX12_init_469 ?_
  refine k0_dup dX12_init_470 ?_
  refine k0_iconst dX12_init_471 ?_
  refine k0_bipush dX12_init_472 (by decide) ?_
  refine k0_cast (x := 223) (j := 3) jk_223 (Nat.le_of_ble_eq_true rfl) ⟨by decide, by decide⟩ ⟨by decide, by decide⟩ rfl (by decide) dX12_init_474 ?_
  refine k0_putr (y := 223) (x := 206) (i := 25) jc_12 jk_206 (Nat.le_of_ble_eq_true rfl) (Nat.le_of_ble_eq_true rfl) (by decide +kernel) (Nat.le_of_ble_eq_true rfl) (fun _ => ⟨rfl, rfl⟩) jw_1230 ⟨rfl, rfl⟩ dX12_init_475 ?_
  refine k0_aload dX12_init_478 0 rfl ?_
  refine k0_bipush dX12_init_479 (by decide) ?_
  refine k0_nc (nx := 224) (ce := 17) (sl := 1674) (N := 6) jk_224 rfl (Nat.le_of_ble_eq_true rfl) ⟨Nat.le_of_ble_eq_true rfl, Nat.le_of_ble_eq_true rfl⟩ rfl dX12_init_481 ?_
  refine k0_dup dX12_init_483 ?_
  refine k0_iconst dX12_init_484 ?_
  refine k0_bipush dX12_init_485 (by decide) ?_
  refine k0_cast (x := 224) (j := 0) jk_224 (Nat.le_of_ble_eq_true rfl) ⟨by decide, by decide⟩ ⟨by decide, by decide⟩ rfl (by decide) dX12_init_487 ?_
  refine k0_dup dX12_init_488 ?_
  refine k0_iconst dX12_init_489 ?_
  refine k0_bipush dX12_init_490 (by decide) ?_
  refine k0_cast (x := 224) (j := 1) jk_224 (Nat.le_of_ble_eq_true rfl) ⟨by decide, by decide⟩ ⟨by decide, by decide⟩ rfl (by decide) dX12_init_492 ?_
  refine k0_dup dX12_init_493 ?_
  refine k0_iconst dX12_init_494 ?_
  refine k0_bipush dX12_init_495 (by decide) ?_
  refine k0_cast (x := 224) (j := 2) jk_224 (Nat.le_of_ble_eq_true rfl) ⟨by decide, by decide⟩ ⟨by decide, by decide⟩ rfl (by decide) dX12_init_497 ?_
  refine k0_dup dX12_init_498 ?_
  refine k0_iconst dX12_init_499 ?_
  refine k0_bipush dX12_init_500 (by decide) ?_
  refine k0_cast (x := 224) (j := 3) jk_224 (Nat.le_of_ble_eq_true rfl) ⟨by decide, by decide⟩ ⟨by decide, by decide⟩ rfl (by decide) dX12_init_502 ?_
  refine k0_dup dX12_init_503 ?_
  refine k0_iconst dX12_init_504 ?_
  refine k0_bipush dX12_init_505 (by decide) ?_
  refine k0_cast (x := 224) (j := 4) jk_224 (Nat.le_of_ble_eq_true rfl) ⟨by decide, by decide⟩ ⟨by decide, by decide⟩ rfl (by decide) dX12_init_507 ?_
  refine k0_dup dX12_init_508 ?_
  refine k0_iconst dX12_init_509 ?_
  refine k0_bipush dX12_init_510 (by decide) ?_
  refine k0_cast (x := 224) (j := 5) jk_224 (Nat.le_of_ble_eq_true rfl) ⟨by decide, by decide⟩ ⟨by decide, by decide⟩ rfl (by decide) dX12_init_512 ?_
  refine k0_putr (y := 224) (x := 206) (i := 26) jc_12 jk_206 (Nat.le_of_ble_eq_true rfl) (Nat.le_of_ble_eq_true rfl) (by decide +kernel) (Nat.le_of_ble_eq_true rfl) (fun _ => ⟨rfl, rfl⟩) jw_1231 ⟨rfl, rfl⟩ dX12_init_513 ?_
  refine k0_aload dX12_init_516 0 rfl ?_
  refine k0_iconst dX12_init_517 ?_
  refine k0_nc (nx := 225) (ce := 18) (sl := 1680) (N := 4) jk_225 rfl (Nat.le_of_ble_eq_true rfl) ⟨Nat.le_of_ble_eq_true rfl, Nat.le_of_ble_eq_true rfl⟩ rfl dX12_init_518 ?_
  refine k0_dup dX12_init_520 ?_
  refine k0_iconst dX12_init_521 ?_
  refine k0_bipush dX12_init_522 (by decide) ?_
  refine k0_cast (x := 225) (j := 0) jk_225 (Nat.le_of_ble_eq_true rfl) ⟨by decide, by decide⟩ ⟨by decide, by decide⟩ rfl (by decide) dX12_init_524 ?_
  refine k0_dup dX12_init_525 ?_
  refine k0_iconst dX12_init_526 ?_
  refine k0_bipush dX12_init_527 (by decide) ?_
  refine k0_cast (x := 225) (j := 1) jk_225 (Nat.le_of_ble_eq_true rfl) ⟨by decide, by decide⟩ ⟨by decide, by decide⟩ rfl (by decide) dX12_init_529 ?_
  refine k0_dup dX12_init_530 ?_
  refine k0_iconst dX12_init_531 ?_
  refine k0_bipush dX12_init_532 (by decide) ?_
  refine k0_cast (x := 225) (j := 2) jk_225 (Nat.le_of_ble_eq_true rfl) ⟨by decide, by decide⟩ ⟨by decide, by decide⟩ rfl (by decide) dX12_init_534 ?_
  refine k0_dup dX12_init_535 ?_
  refine k0_iconst dX12_init_536 ?_
  refine k0_bipush dX12_init_537 (by decide) ?_
  refine k0_cast (x := 225) (j := 3) jk_225 (Nat.le_of_ble_eq_true rfl) ⟨by decide, by decide⟩ ⟨by decide, by decide⟩ rfl (by decide) dX12_init_539 ?_
  refine k0_putr (y := 225) (x := 206) (i := 27) jc_12 jk_206 (Nat.le_of_ble_eq_true rfl) (Nat.le_of_ble_eq_true rfl) (by decide +kernel) (Nat.le_of_ble_eq_true rfl) (fun _ => ⟨rfl, rfl⟩) jw_1232 ⟨rfl, rfl⟩ dX12_init_540 ?_
  exact k
def k0_X12m4 (σ : jl_Mm) : jl_Mm := (k0_ml [(206, 33, ((231 : Nat) : Int)), (231, 2, 116), (231, 1, 105), (231, 0, 108), (206, 32, ((230 : Nat) : Int)), (230, 5, 114), (230, 4, 101), (230, 3, 98), (230, 2, 109), (230, 1, 117), (230, 0, 110), (206, 31, ((229 : Nat) : Int)), (229, 4, 101), (229, 3, 99), (229, 2, 97), (229, 1, 108), (229, 0, 112), (206, 30, ((228 : Nat) : Int)), (228, 3, 114), (228, 2, 117), (228, 1, 111), (228, 0, 104), (206, 29, ((227 : Nat) : Int)), (227, 3, 100), (227, 2, 108), (227, 1, 111), (227, 0, 116), (206, 28, ((226 : Nat) : Int)), (226, 4, 116), (226, 3, 102), (226, 2, 97), (226, 1, 114), (226, 0, 100)] σ)
set_option maxRecDepth 20000 in
set_option maxHeartbeats 4000000 in
theorem k0_X12s4 {G0 : jl_GC} {σ : jl_Mm} {o : jl_O} (k : k0_J G0 207 jM_X12_init (k0_E G0 jM_X12_init 207 286) 232 25 1711 721 [(0, .inl 206)] [] (k0_X12m4 σ) o) : k0_J G0 207 jM_X12_init (k0_E G0 jM_X12_init 207 286) 226 19 1684 543 [(0, .inl 206)] [] σ o := by
  refine k0_aload dX12_init_543 0 rfl ?_
  refine k0_iconst dX12_init_544 ?_
  refine k0_nc (nx := 226) (ce := 19) (sl := 1684) (N := 5) jk_226 rfl (Nat.le_of_ble_eq_true rfl) ⟨Nat.le_of_ble_eq_true rfl, Nat.le_of_ble_eq_true rfl⟩ rfl dX12_init_545 ?_
  refine k0_dup dX12_init_547 ?_
  refine k0_iconst dX12_init_548 ?_
  refine k0_bipush dX12_init_549 (by decide) ?_
  refine k0_cast (x := 226) (j := 0) jk_226 (Nat.le_of_ble_eq_true rfl) ⟨by decide, by decide⟩ ⟨by decide, by decide⟩ rfl (by decide) dX12_init_551 ?_
  refine k0_dup dX12_init_552 ?_
  refine k0_iconst dX12_init_553 ?_
  refine k0_bipush dX12_init_554 (by decide) ?_
  refine k0_cast (x := 226) (j := 1) jk_226 (Nat.le_of_ble_eq_true rfl) ⟨by decide, by decide⟩ ⟨by decide, by decide⟩ rfl (by decide) dX12_init_556 ?_
  refine k0_dup dX12_init_557 ?_
  refine k0_iconst dX12_init_558 ?_
  refine k0_bipush dX12_init_559 (by decide) ?_
  refine k0_cast (x := 226) (j := 2) jk_226 (Nat.le_of_ble_eq_true rfl) ⟨by decide, by decide⟩ ⟨by decide, by decide⟩ rfl (by decide) dX12_init_561 ?_
  refine k0_dup dX12_init_562 ?_
  refine k0_iconst dX12_init_563 ?_
  refine k0_bipush dX12_init_564 (by decide) ?_
  refine k0_cast (x := 226) (j := 3) jk_226 (Nat.le_of_ble_eq_true rfl) ⟨by decide, by decide⟩ ⟨by decide, by decide⟩ rfl (by decide) dX12_init_566 ?_
  refine k0_dup dX12_init_567 ?_
  refine k0_iconst dX12_init_568 ?_
  refine k0_bipush dX12_init_569 (by decide) ?_
  refine k0_cast (x := 226) (j := 4) jk_226 (Nat.le_of_ble_eq_true rfl) ⟨by decide, by decide⟩ ⟨by decide, by decide⟩ rfl (by decide) dX12_init_571 ?_
  refine k0_putr (y := 226) (x := 206) (i := 28) jc_12 jk_206 (Nat.le_of_ble_eq_true rfl) (Nat.le_of_ble_eq_true rfl) (by decide +kernel) (Nat.le_of_ble_eq_true rfl) (fun _ => ⟨rfl, rfl⟩) jw_1233 ⟨rfl, rfl⟩ dX12_init_572 ?_
  refine k0_aload dX12_init_575 0 rfl ?_
  refine k0_iconst dX12_init_576 ?_
  refine k0_nc (nx := 227) (ce := 20) (sl := 1689) (N := 4) jk_227 rfl (Nat.le_of_ble_eq_true rfl) ⟨Nat.le_of_ble_eq_true rfl, Nat.le_of_ble_eq_true rfl⟩ rfl dX12_init_577 ?_
  refine k0_dup dX12_init_579 ?_
  refine k0_iconst dX12_init_580 ?_
  refine k0_bipush dX12_init_581 (by decide) ?_
  refine k0_cast (x := 227) (j := 0) jk_227 (Nat.le_of_ble_eq_true rfl) ⟨by decide, by decide⟩ ⟨by decide, by decide⟩ rfl (by decide) dX12_init_583 ?_
  refine k0_dup dX12_init_584 ?_
  refine k0_iconst dX12_init_585 ?_
  refine k0_bipush dX12_init_586 (by decide) ?_
  refine k0_cast (x := 227) (j := 1) jk_227 (Nat.le_of_ble_eq_true rfl) ⟨by decide, by decide⟩ ⟨by decide, by decide⟩ rfl (by decide) dX12_init_588 ?_
  refine k0_dup dX12_init_589 ?_
  refine k0_iconst dX12_init_590 ?_
  refine k0_bipush dX12_init_591 (by decide) ?_
  refine k0_cast (x := 227) (j := 2) jk_227 (Nat.le_of_ble_eq_true rfl) ⟨by decide, by decide⟩ ⟨by decide, by decide⟩ rfl (by decide) dX12_init_593 ?_
  refine k0_dup dX12_init_594 ?_
  refine k0_iconst dX12_init_595 ?_
  refine k0_bipush dX12_init_596 (by decide) ?_
  refine k0_cast (x := 227) (j := 3) jk_227 (Nat.le_of_ble_eq_true rfl) ⟨by decide, by decide⟩ ⟨by decide, by decide⟩ rfl (by decide) dX12_init_598 ?_
  refine k0_putr (y := 227) (x := 206) (i := 29) jc_12 jk_206 (Nat.le_of_ble_eq_true rfl) (Nat.le_of_ble_eq_true rfl) (by decide +kernel) (Nat.le_of_ble_eq_true rfl) (fun _ => ⟨rfl, rfl⟩) jw_1234 ⟨rfl, rfl⟩ dX12_init_599 ?_
  refine k0_aload dX12_init_602 0 rfl ?_
  refine k0_iconst dX12_init_603 ?_
  refine k0_nc (nx := 228) (ce := 21) (sl := 1693) (N := 4) jk_228 rfl (Nat.le_of_ble_eq_true rfl) ⟨Nat.le_of_ble_eq_true rfl, Nat.le_of_ble_eq_true rfl⟩ rfl dX12_init_604 ?_
  refine k0_dup dX12_init_606 ?_
  refine k0_iconst dX12_init_607 ?_
  refine k0_bipush dX12_init_608 (by decide) ?_
  refine k0_cast (x := 228) (j := 0) jk_228 (Nat.le_of_ble_eq_true rfl) ⟨by decide, by decide⟩ ⟨by decide, by decide⟩ rfl (by decide) dX12_init_610 ?_
  refine k0_dup dX12_init_611 ?_
  refine k0_iconst dX12_init_612 ?_
  refine k0_bipush dX12_init_613 (by decide) ?_
  refine k0_cast (x := 228) (j := 1) jk_228 (Nat.le_of_ble_eq_true rfl) ⟨by decide, by decide⟩ ⟨by decide, by decide⟩ rfl (by decide) dX12_init_615 ?_
  refine k0_dup dX12_init_616 ?_
  refine k0_iconst dX12_init_617 ?_
  refine k0_bipush dX12_init_618 (by decide) ?_
  refine k0_cast (x := 228) (j := 2) jk_228 (Nat.le_of_ble_eq_true rfl) ⟨by decide, by decide⟩ ⟨by decide, by decide⟩ rfl (by decide) dX12_init_620 ?_
  refine k0_dup dX12_init_621 ?_
  refine k0_iconst dX12_init_622 ?_
  refine k0_bipush dX12_init_623 (by decide) ?_
  refine k0_cast (x := 228) (j := 3) jk_228 (Nat.le_of_ble_eq_true rfl) ⟨by decide, by decide⟩ ⟨by decide, by decide⟩ rfl (by decide) dX12_init_625 ?_
  refine k0_putr (y := 228) (x := 206) (i := 30) jc_12 jk_206 (Nat.le_of_ble_eq_true rfl) (Nat.le_of_ble_eq_true rfl) (by decide +kernel) (Nat.le_of_ble_eq_true rfl) (fun _ => ⟨rfl, rfl⟩) jw_1235 ⟨rfl, rfl⟩ dX12_init_626 ?_
  refine k0_aload dX12_init_629 0 rfl ?_
  refine k0_iconst dX12_init_630 ?_
  refine k0_nc (nx := 229) (ce := 22) (sl := 1697) (N := 5) jk_229 rfl (Nat.le_of_ble_eq_true rfl) ⟨Nat.le_of_ble_eq_true rfl, Nat.le_of_ble_eq_true rfl⟩ rfl dX12_init_631 ?_
  refine k0_dup dX12_init_633 ?_
  refine k0_iconst dX12_init_634 ?_
  refine k0_bipush dX12_init_635 (by decide) ?_
  refine k0_cast (x := 229) (j := 0) jk_229 (Nat.le_of_ble_eq_true rfl) ⟨by decide, by decide⟩ ⟨by decide, by decide⟩ rfl (by decide) dX12_init_637 ?_
  refine k0_dup dX12_init_638 ?_
  refine k0_iconst dX12_init_639 ?_
  refine k0_bipush dX12_init_640 (by decide) ?_
  refine k0_cast (x := 229) (j := 1) jk_229 (Nat.le_of_ble_eq_true rfl) ⟨by decide, by decide⟩ ⟨by decide, by decide⟩ rfl (by decide) dX12_init_642 ?_
  refine k0_dup dX12_init_643 ?_
  refine k0_iconst dX12_init_644 ?_
  refine k0_bipush dX12_init_645 (by decide) ?_
  refine k0_cast (x := 229) (j := 2) jk_229 (Nat.le_of_ble_eq_true rfl) ⟨by decide, by decide⟩ ⟨by decide, by decide⟩ rfl (by decide) dX12_init_647 ?_
  refine k0_dup dX12_init_648 ?_
  refine k0_iconst dX12_init_649 ?_
  refine k0_bipush dX12_init_650 (by decide) ?_
  refine k0_cast (x := 229) (j := 3) jk_229 (Nat.le_of_ble_eq_true rfl) ⟨by decide, by decide⟩ ⟨by decide, by decide⟩ rfl (by decide) dX12_init_652 ?_
  refine k0_dup dX12_init_653 ?_
  refine k0_iconst dX12_init_654 ?_
  refine k0_bipush dX12_init_655 (by decide) ?_
  refine k0_cast (x := 229) (j := 4) jk_229 (Nat.le_of_ble_eq_true rfl) ⟨by decide, by decide⟩ ⟨by decide, by decide⟩ rfl (by decide) dX12_init_657 ?_
  refine k0_putr (y := 229) (x := 206) (i := 31) jc_12 jk_206 (Nat.le_of_ble_eq_true rfl) (Nat.le_of_ble_eq_true rfl) (by decide +kernel) (Nat.le_of_ble_eq_true rfl) (fun _ => ⟨rfl, rfl⟩) jw_1236 ⟨rfl, rfl⟩ dX12_init_658 ?_
  refine k0_aload dX12_init_661 0 rfl ?_
  refine k0_bipush dX12_init_662 (by decide) ?_
  refine k0_nc (nx := 230) (ce := 23) (sl := 1702) (N := 6) jk_230 rfl (Nat.le_of_ble_eq_true rfl) ⟨Nat.le_of_ble_eq_true rfl, Nat.le_of_ble_eq_true rfl⟩ rfl dX12_init_664 ?_
  refine k0_dup dX12_init_666 ?_
  refine k0_iconst dX12_init_667 ?_
  refine k0_bipush dX12_init_668 (by decide) ?_
  refine k0_cast (x := 230) (j := 0) jk_230 (Nat.le_of_ble_eq_true rfl) ⟨by decide, by decide⟩ ⟨by decide, by decide⟩ rfl (by decide) dX12_init_670 ?_
  refine k0_dup dX12_init_671 ?_
  refine k0_iconst dX12_init_672 ?_
  refine k0_bipush dX12_init_673 (by decide) ?_
  refine k0_cast (x := 230) (j := 1) jk_230 (Nat.le_of_ble_eq_true rfl) ⟨by decide, by decide⟩ ⟨by decide, by decide⟩ rfl (by decide) dX12_init_675 ?_
  refine k0_dup dX12_init_676 ?_
  refine k0_iconst dX12_init_677 ?_
  refine k0_bipush dX12_init_678 (by decide) ?_
  refine k0_cast (x := 230) (j := 2) jk_230 (Nat.le_of_ble_eq_true rfl) ⟨by decide, by decide⟩ ⟨by decide, by decide⟩ rfl (by decide) dX12_init_680 ?_
  refine k0_dup dX12_init_681 ?_
  refine k0_iconst dX12_init_682 ?_
  refine k0_bipush dX12_init_683 (by decide) ?_
  refine k0_cast (x := 230) (j := 3) jk_230 (Nat.le_of_ble_eq_true rfl) ⟨by decide, by decide⟩ ⟨by decide, by decide⟩ rfl (by decide) dX12_init_685 ?_
  refine k0_dup dX12_init_686 ?_
  refine k0_iconst dX12_init_687 ?_
  refine k0_bipush dX12_init_688 (by decide) ?_
  refine k0_cast (x := 230) (j := 4) jk_230 (Nat.le_of_ble_eq_true rfl) ⟨by decide, by decide⟩ ⟨by decide, by decide⟩ rfl (by decide) dX12_init_690 ?_
  refine k0_dup dX12_init_691 ?_
  refine k0_iconst dX12_init_692 ?_
  refine k0_bipush dX12_init_693 (by decide) ?_
  refine k0_cast (x := 230) (j := 5) jk_230 (Nat.le_of_ble_eq_true rfl) ⟨by decide, by decide⟩ ⟨by decide, by decide⟩ rfl (by decide) dX12_init_695 ?_
  refine k0_putr (y := 230) (x := 206) (i := 32) jc_12 jk_206 (Nat.le_of_ble_eq_true rfl) (Nat.le_of_ble_eq_true rfl) (by decide +kernel) (Nat.le_of_ble_eq_true rfl) (fun _ => ⟨rfl, rfl⟩) jw_1237 ⟨rfl, rfl⟩ dX12_init_696 ?_
  refine k0_aload dX12_init_699 0 rfl ?_
  refine k0_iconst dX12_init_700 ?_
  refine k0_nc (nx := 231) (ce := 24) (sl := 1708) (N := 3) jk_231 rfl (Nat.le_of_ble_eq_true rfl) ⟨Nat.le_of_ble_eq_true rfl, Nat.le_of_ble_eq_true rfl⟩ rfl dX12_init_701 ?_
  refine k0_dup dX12_init_703 ?_
  refine k0_iconst dX12_init_704 ?_
  refine k0_bipush dX12_init_705 (by decide) ?_
  refine k0_cast (x := 231) (j := 0) jk_231 (Nat.le_of_ble_eq_true rfl) ⟨by decide, by decide⟩ ⟨by decide, by decide⟩ rfl (by decide) dX12_init_707 ?_
  refine k0_dup dX12_init_708 ?_
  refine k0_iconst dX12_init_709 ?_
  refine k0_bipush dX12_init_710 (by decide) ?_
  refine k0_cast (x := 231) (j := 1) jk_231 (Nat.le_of_ble_eq_true rfl) ⟨by decide, by decide⟩ ⟨by decide, by decide⟩ rfl (by decide) dX12_init_712 ?_
  refine k0_dup dX12_init_713 ?_
  refine k0_iconst dX12_init_714 ?_
  refine k0_bipush dX12_init_715 (by decide) ?_
  refine k0_cast (x := 231) (j := 2) jk_231 (Nat.le_of_ble_eq_true rfl) ⟨by decide, by decide⟩ ⟨by decide, by decide⟩ rfl (by decide) dX12_init_717 ?_
  refine k0_putr (y := 231) (x := 206) (i := 33) jc_12 jk_206 (Nat.le_of_ble_eq_true rfl) (Nat.le_of_ble_eq_true rfl) (by decide +kernel) (Nat.le_of_ble_eq_true rfl) (fun _ => ⟨rfl, rfl⟩) jw_1238 ⟨rfl, rfl⟩ dX12_init_718 ?_
  exact k
def k0_X12m5 (σ : jl_Mm) : jl_Mm := (k0_ml [(206, 41, ((239 : Nat) : Int)), (239, 2, 110), (239, 1, 105), (239, 0, 109), (206, 40, ((238 : Nat) : Int)), (238, 2, 108), (238, 1, 108), (238, 0, 97), (206, 39, ((237 : Nat) : Int)), (237, 2, 116), (237, 1, 111), (237, 0, 110), (206, 38, ((236 : Nat) : Int)), (236, 2, 100), (236, 1, 110), (236, 0, 97), (206, 37, ((235 : Nat) : Int)), (235, 1, 114), (235, 0, 111), (206, 36, ((234 : Nat) : Int)), (234, 3, 119), (234, 2, 111), (234, 1, 108), (234, 0, 103), (206, 35, ((233 : Nat) : Int)), (233, 2, 120), (233, 1, 97), (233, 0, 119), (206, 34, ((232 : Nat) : Int)), (232, 3, 100), (232, 2, 108), (232, 1, 101), (232, 0, 104)] σ)
set_option maxRecDepth 20000 in
set_option maxHeartbeats 4000000 in
theorem k0_X12s5 {G0 : jl_GC} {σ : jl_Mm} {o : jl_O} (k : k0_J G0 207 jM_X12_init (k0_E G0 jM_X12_init 207 286) 240 33 1736 902 [(0, .inl 206)] [] (k0_X12m5 σ) o) : k0_J G0 207 jM_X12_init (k0_E G0 jM_X12_init 207 286) 232 25 1711 721 [(0, .inl 206)] [] σ o := by
  refine k0_aload dX12_init_721 0 rfl ?_
  refine k0_iconst dX12_init_722 ?_
  refine k0_nc (nx := 232) (ce := 25) (sl := 1711) (N := 4) jk_232 rfl (Nat.le_of_ble_eq_true rfl) ⟨Nat.le_of_ble_eq_true rfl, Nat.le_of_ble_eq_true rfl⟩ rfl dX12_init_723 ?_
  refine k0_dup dX12_init_725 ?_
  refine k0_iconst dX12_init_726 ?_
  refine k0_bipush dX12_init_727 (by decide) ?_
  refine k0_cast (x := 232) (j := 0) jk_232 (Nat.le_of_ble_eq_true rfl) ⟨by decide, by decide⟩ ⟨by decide, by decide⟩ rfl (by decide) dX12_init_729 ?_
  refine k0_dup dX12_init_730 ?_
  refine k0_iconst dX12_init_731 ?_
  refine k0_bipush dX12_init_732 (by decide) ?_
  refine k0_cast (x := 232) (j := 1) jk_232 (Nat.le_of_ble_eq_true rfl) ⟨by decide, by decide⟩ ⟨by decide, by decide⟩ rfl (by decide) dX12_init_734 ?_
  refine k0_dup dX12_init_735 ?_
  refine k0_iconst dX12_init_736 ?_
  refine k0_bipush dX12_init_737 (by decide) ?_
  refine k0_cast (x := 232) (j := 2) jk_232 (Nat.le_of_ble_eq_true rfl) ⟨by decide, by decide⟩ ⟨by decide, by decide⟩ rfl (by decide) dX12_init_739 ?_
  refine k0_dup dX12_init_740 ?_
  refine k0_iconst dX12_init_741 ?_
  refine k0_bipush dX12_init_742 (by decide) ?_
  refine k0_cast (x := 232) (j := 3) jk_232 (Nat.le_of_ble_eq_true rfl) ⟨by decide, by decide⟩ ⟨by decide, by decide⟩ rfl (by decide) dX12_init_744 ?_
  refine k0_putr (y := 232) (x := 206) (i := 34) jc_12 jk_206 (Nat.le_of_ble_eq_true rfl) (Nat.le_of_ble_eq_true rfl) (by decide +kernel) (Nat.le_of_ble_eq_true rfl) (fun _ => ⟨rfl, rfl⟩) jw_1239 ⟨rfl, rfl⟩ dX12_init_745 ?_
  refine k0_aload dX12_init_748 0 rfl ?_
  refine k0_iconst dX12_init_749 ?_
  refine k0_nc (nx := 233) (ce := 26) (sl := 1715) (N := 3) jk_233 rfl (Nat.le_of_ble_eq_true rfl) ⟨Nat.le_of_ble_eq_true rfl, Nat.le_of_ble_eq_true rfl⟩ rfl dX12_init_750 ?_
  refine k0_dup dX12_init_752 ?_
  refine k0_iconst dX12_init_753 ?_
  refine k0_bipush dX12_init_754 (by decide) ?_
  refine k0_cast (x := 233) (j := 0) jk_233 (Nat.le_of_ble_eq_true rfl) ⟨by decide, by decide⟩ ⟨by decide, by decide⟩ rfl (by decide) dX12_init_756 ?_
  refine k0_dup dX12_init_757 ?_
  refine k0_iconst dX12_init_758 ?_
  refine k0_bipush dX12_init_759 (by decide) ?_
  refine k0_cast (x := 233) (j := 1) jk_233 (Nat.le_of_ble_eq_true rfl) ⟨by decide, by decide⟩ ⟨by decide, by decide⟩ rfl (by decide) dX12_init_761 ?_
  refine k0_dup dX12_init_762 ?_
  refine k0_iconst dX12_init_763 ?_
  refine k0_bipush dX12_init_764 (by decide) ?_
  refine k0_cast (x := 233) (j := 2) jk_233 (Nat.le_of_ble_eq_true rfl) ⟨by decide, by decide⟩ ⟨by decide, by decide⟩ rfl (by decide) dX12_init_766 ?_
  refine k0_putr (y := 233) (x := 206) (i := 35) jc_12 jk_206 (Nat.le_of_ble_eq_true rfl) (Nat.le_of_ble_eq_true rfl) (by decide +kernel) (Nat.le_of_ble_eq_true rfl) (fun _ => ⟨rfl, rfl⟩) jw_1240 ⟨rfl, rfl⟩ dX12_init_767 ?_
  refine k0_aload dX12_init_770 0 rfl ?_
  refine k0_iconst dX12_init_771 ?_
  refine k0_nc (nx := 234) (ce := 27) (sl := 1718) (N := 4) jk_234 rfl (Nat.le_of_ble_eq_true rfl) ⟨Nat.le_of_ble_eq_true rfl, Nat.le_of_ble_eq_true rfl⟩ rfl dX12_init_772 ?_
  refine k0_dup dX12_init_774 ?_
  refine k0_iconst dX12_init_775 ?_
  refine k0_bipush dX12_init_776 (by decide) ?_
  refine k0_cast (x := 234) (j := 0) jk_234 (Nat.le_of_ble_eq_true rfl) ⟨by decide, by decide⟩ ⟨by decide, by decide⟩ rfl (by decide) dX12_init_778 ?_
  refine k0_dup dX12_init_779 ?_
  refine k0_iconst dX12_init_780 ?_
  refine k0_bipush dX12_init_781 (by decide) ?_
  refine k0_cast (x := 234) (j := 1) jk_234 (Nat.le_of_ble_eq_true rfl) ⟨by decide, by decide⟩ ⟨by decide, by decide⟩ rfl (by decide) dX12_init_783 ?_
  refine k0_dup dX12_init_784 ?_
  refine k0_iconst dX12_init_785 ?_
  refine k0_bipush dX12_init_786 (by decide) ?_
  refine k0_cast (x := 234) (j := 2) jk_234 (Nat.le_of_ble_eq_true rfl) ⟨by decide, by decide⟩ ⟨by decide, by decide⟩ rfl (by decide) dX12_init_788 ?_
  refine k0_dup dX12_init_789 ?_
  refine k0_iconst dX12_init_790 ?_
  refine k0_bipush dX12_init_791 (by decide) ?_
  refine k0_cast (x := 234) (j := 3) jk_234 (Nat.le_of_ble_eq_true rfl) ⟨by decide, by decide⟩ ⟨by decide, by decide⟩ rfl (by decide) dX12_init_793 ?_
  refine k0_putr (y := 234) (x := 206) (i := 36) jc_12 jk_206 (Nat.le_of_ble_eq_true rfl) (Nat.le_of_ble_eq_true rfl) (by decide +kernel) (Nat.le_of_ble_eq_true rfl) (fun _ => ⟨rfl, rfl⟩) jw_1241 ⟨rfl, rfl⟩ dX12_init_794 ?_
  refine k0_aload dX12_init_797 0 rfl ?_
  refine k0_iconst dX12_init_798 ?_
  refine k0_nc (nx := 235) (ce := 28) (sl := 1722) (N := 2) jk_235 rfl (Nat.le_of_ble_eq_true rfl) ⟨Nat.le_of_ble_eq_true rfl, Nat.le_of_ble_eq_true rfl⟩ rfl dX12_init_799 ?_
  refine k0_dup dX12_init_801 ?_
  refine k0_iconst dX12_init_802 ?_
  refine k0_bipush dX12_init_803 (by decide) ?_
  refine k0_cast (x := 235) (j := 0) jk_235 (Nat.le_of_ble_eq_true rfl) ⟨by decide, by decide⟩ ⟨by decide, by decide⟩ rfl (by decide) dX12_init_805 ?_
  refine k0_dup dX12_init_806 ?_
  refine k0_iconst dX12_init_807 ?_
  refine k0_bipush dX12_init_808 (by decide) ?_
  refine k0_cast (x := 235) (j := 1) jk_235 (Nat.le_of_ble_eq_true rfl) ⟨by decide, by decide⟩ ⟨by decide, by decide⟩ rfl (by decide) dX12_init_810 ?_
  refine k0_putr (y := 235) (x := 206) (i := 37) jc_12 jk_206 (Nat.le_of_ble_eq_true rfl) (Nat.le_of_ble_eq_true rfl) (by decide +kernel) (Nat.le_of_ble_eq_true rfl) (fun _ => ⟨rfl, rfl⟩) jw_1242 ⟨rfl, rfl⟩ dX12_init_811 ?_
  refine k0_aload dX12_init_814 0 rfl ?_
  refine k0_iconst dX12_init_815 ?_
  refine k0_nc (nx := 236) (ce := 29) (sl := 1724) (N := 3) jk_236 rfl (Nat.le_of_ble_eq_true rfl) ⟨Nat.le_of_ble_eq_true rfl, Nat.le_of_ble_eq_true rfl⟩ rfl dX12_init_816 ?_
  refine k0_dup dX12_init_818 ?_
  refine k0_iconst dX12_init_819 ?_
  refine k0_bipush dX12_init_820 (by decide) ?_
  refine k0_cast (x := 236) (j := 0) jk_236 (Nat.le_of_ble_eq_true rfl) ⟨by decide, by decide⟩ ⟨by decide, by decide⟩ rfl (by decide) dX12_init_822 ?_
  refine k0_dup dX12_init_823 ?_
  refine k0_iconst dX12_init_824 ?_
  refine k0_bipush dX12_init_825 (by decide) ?_
  refine k0_cast (x := 236) (j := 1) jk_236 (Nat.le_of_ble_eq_true rfl) ⟨by decide, by decide⟩ ⟨by decide, by decide⟩ rfl (by decide) dX12_init_827 ?_
  refine k0_dup dX12_init_828 ?_
  refine k0_iconst dX12_init_829 ?_
  refine k0_bipush dX12_init_830 (by decide) ?_
  refine k0_cast (x := 236) (j := 2) jk_236 (Nat.le_of_ble_eq_true rfl) ⟨by decide, by decide⟩ ⟨by decide, by decide⟩ rfl (by decide) dX12_init_832 ?_
  refine k0_putr (y := 236) (x := 206) (i := 38) jc_12 jk_206 (Nat.le_of_ble_eq_true rfl) (Nat.le_of_ble_eq_true rfl) (by decide +kernel) (Nat.le_of_ble_eq_true rfl) (fun _ => ⟨rfl, rfl⟩) jw_1243 ⟨rfl, rfl⟩ dX12_init_833 ?_
  refine k0_aload dX12_init_836 0 rfl ?_
  refine k0_iconst dX12_init_837 ?_
  refine k0_nc (nx := 237) (ce := 30) (sl := 1727) (N := 3) jk_237 rfl (Nat.le_of_ble_eq_true rfl) ⟨Nat.le_of_ble_eq_true rfl, Nat.le_of_ble_eq_true rfl⟩ rfl dX12_init_838 ?_
  refine k0_dup dX12_init_840 ?_
  refine k0_iconst dX12_init_841 ?_
  refine k0_bipush dX12_init_842 (by decide) ?_
  refine k0_cast (x := 237) (j := 0) jk_237 (Nat.le_of_ble_eq_true rfl) ⟨by decide, by decide⟩ ⟨by decide, by decide⟩ rfl (by decide) dX12_init_844 ?_
  refine k0_dup dX12_init_845 ?_
  refine k0_iconst dX12_init_846 ?_
  refine k0_bipush dX12_init_847 (by decide) ?_
  refine k0_cast (x := 237) (j := 1) jk_237 (Nat.le_of_ble_eq_true rfl) ⟨by decide, by decide⟩ ⟨by decide, by decide⟩ rfl (by decide) dX12_init_849 ?_
  refine k0_dup dX12_init_850 ?_
  refine k0_iconst dX12_init_851 ?_
  refine k0_bipush dX12_init_852 (by decide) ?_
  refine k0_cast (x := 237) (j := 2) jk_237 (Nat.le_of_ble_eq_true rfl) ⟨by decide, by decide⟩ ⟨by decide, by decide⟩ rfl (by decide) dX12_init_854 ?_
  refine k0_putr (y := 237) (x := 206) (i := 39) jc_12 jk_206 (Nat.le_of_ble_eq_true rfl) (Nat.le_of_ble_eq_true rfl) (by decide +kernel) (Nat.le_of_ble_eq_true rfl) (fun _ => ⟨rfl, rfl⟩) jw_1244 ⟨rfl, rfl⟩ dX12_init_855 ?_
  refine k0_aload dX12_init_858 0 rfl ?_
  refine k0_iconst dX12_init_859 ?_
  refine k0_nc (nx := 238) (ce := 31) (sl := 1730) (N := 3) jk_238 rfl (Nat.le_of_ble_eq_true rfl) ⟨Nat.le_of_ble_eq_true rfl, Nat.le_of_ble_eq_true rfl⟩ rfl dX12_init_860 ?_
  refine k0_dup dX12_init_862 ?_
  refine k0_iconst dX12_init_863 ?_
  refine k0_bipush dX12_init_864 (by decide) ?_
  refine k0_cast (x := 238) (j := 0) jk_238 (Nat.le_of_ble_eq_true rfl) ⟨by decide, by decide⟩ ⟨by decide, by decide⟩ rfl (by decide) dX12_init_866 ?_
  refine k0_dup dX12_init_867 ?_
  refine k0_iconst dX12_init_868 ?_
  refine k0_bipush dX12_init_869 (by decide) ?_
  refine k0_cast (x := 238) (j := 1) jk_238 (Nat.le_of_ble_eq_true rfl) ⟨by decide, by decide⟩ ⟨by decide, by decide⟩ rfl (by decide) dX12_init_871 ?_
  refine k0_dup dX12_init_872 ?_
  refine k0_iconst dX12_init_873 ?_
  refine k0_bipush dX12_init_874 (by decide) ?_
  refine k0_cast (x := 238) (j := 2) jk_238 (Nat.le_of_ble_eq_true rfl) ⟨by decide, by decide⟩ ⟨by decide, by decide⟩ rfl (by decide) dX12_init_876 ?_
  refine k0_putr (y := 238) (x := 206) (i := 40) jc_12 jk_206 (Nat.le_of_ble_eq_true rfl) (Nat.le_of_ble_eq_true rfl) (by decide +kernel) (Nat.le_of_ble_eq_true rfl) (fun _ => ⟨rfl, rfl⟩) jw_1245 ⟨rfl, rfl⟩ dX12_init_877 ?_
  refine k0_aload dX12_init_880 0 rfl ?_
  refine k0_iconst dX12_init_881 ?_
  refine k0_nc (nx := 239) (ce := 32) (sl := 1733) (N := 3) jk_239 rfl (Nat.le_of_ble_eq_true rfl) ⟨Nat.le_of_ble_eq_true rfl, Nat.le_of_ble_eq_true rfl⟩ rfl dX12_init_882 ?_
  refine k0_dup dX12_init_884 ?_
  refine k0_iconst dX12_init_885 ?_
  refine k0_bipush dX12_init_886 (by decide) ?_
  refine k0_cast (x := 239) (j := 0) jk_239 (Nat.le_of_ble_eq_true rfl) ⟨by decide, by decide⟩ ⟨by decide, by decide⟩ rfl (by decide) dX12_init_888 ?_
  refine k0_dup dX12_init_889 ?_
  refine k0_iconst dX12_init_890 ?_
  refine k0_bipush dX12_init_891 (by decide) ?_
  refine k0_cast (x := 239) (j := 1) jk_239 (Nat.le_of_ble_eq_true rfl) ⟨by decide, by decide⟩ ⟨by decide, by decide⟩ rfl (by decide) dX12_init_893 ?_
  refine k0_dup dX12_init_894 ?_
  refine k0_iconst dX12_init_895 ?_
  refine k0_bipush dX12_init_896 (by decide) ?_
  refine k0_cast (x := 239) (j := 2) jk_239 (Nat.le_of_ble_eq_true rfl) ⟨by decide, by decide⟩ ⟨by decide, by decide⟩ rfl (by decide) dX12_init_898 ?_
  refine k0_putr (y := 239) (x := 206) (i := 41) jc_12 jk_206 (Nat.le_of_ble_eq_true rfl) (Nat.le_of_ble_eq_true rfl) (by decide +kernel) (Nat.le_of_ble_eq_true rfl) (fun _ => ⟨rfl, rfl⟩) jw_1246 ⟨rfl, rfl⟩ dX12_init_899 ?_
  exact k
def k0_X12m6 (σ : jl_Mm) : jl_Mm := (k0_ml [(206, 75, ((258 : Nat) : Int)), (258, 4, 116), (258, 3, 115), (258, 2, 114), (258, 1, 105), (258, 0, 102), (206, 74, 1), (206, 71, ((257 : Nat) : Int)), (206, 70, ((256 : Nat) : Int)), (206, 69, ((255 : Nat) : Int)), (206, 67, ((254 : Nat) : Int)), (206, 66, ((253 : Nat) : Int)), (206, 64, ((252 : Nat) : Int)), (206, 62, ((251 : Nat) : Int)), (206, 60, ((250 : Nat) : Int)), (206, 56, ((249 : Nat) : Int)), (206, 51, ((248 : Nat) : Int)), (206, 50, ((247 : Nat) : Int)), (206, 49, ((246 : Nat) : Int)), (246, 5, (-1)), (246, 4, (-1)), (246, 3, (-1)), (246, 2, (-1)), (246, 1, (-1)), (246, 0, (-1)), (206, 48, ((245 : Nat) : Int)), (206, 47, ((244 : Nat) : Int)), (206, 46, ((243 : Nat) : Int)), (206, 45, ((242 : Nat) : Int)), (206, 44, ((241 : Nat) : Int)), (206, 42, ((240 : Nat) : Int)), (240, 2, 120), (240, 1, 97), (240, 0, 109)] σ)
set_option maxRecDepth 20000 in
set_option maxHeartbeats 4000000 in
theorem k0_X12s6 {G0 : jl_GC} {σ : jl_Mm} {o : jl_O} (k : k0_J G0 207 jM_X12_init (k0_E G0 jM_X12_init 207 286) 259 52 100576 1123 [(0, .inl 206)] [] (k0_X12m6 σ) o) : k0_J G0 207 jM_X12_init (k0_E G0 jM_X12_init 207 286) 240 33 1736 902 [(0, .inl 206)] [] σ o := by
  refine k0_aload dX12_init_902 0 rfl ?_
  refine k0_iconst dX12_init_903 ?_
  refine k0_nc (nx := 240) (ce := 33) (sl := 1736) (N := 3) jk_240 rfl (Nat.le_of_ble_eq_true rfl) ⟨Nat.le_of_ble_eq_true rfl, Nat.le_of_ble_eq_true rfl⟩ rfl dX12_init_904 ?_
  refine k0_dup dX12_init_906 ?_
  refine k0_iconst dX12_init_907 ?_
  refine k0_bipush dX12_init_908 (by decide) ?_
  refine k0_cast (x := 240) (j := 0) jk_240 (Nat.le_of_ble_eq_true rfl) ⟨by decide, by decide⟩ ⟨by decide, by decide⟩ rfl (by decide) dX12_init_910 ?_
  refine k0_dup dX12_init_911 ?_
  refine k0_iconst dX12_init_912 ?_
  refine k0_bipush dX12_init_913 (by decide) ?_
  refine k0_cast (x := 240) (j := 1) jk_240 (Nat.le_of_ble_eq_true rfl) ⟨by decide, by decide⟩ ⟨by decide, by decide⟩ rfl (by decide) dX12_init_915 ?_
  refine k0_dup dX12_init_916 ?_
  refine k0_iconst dX12_init_917 ?_
  refine k0_bipush dX12_init_918 (by decide) ?_
  refine k0_cast (x := 240) (j := 2) jk_240 (Nat.le_of_ble_eq_true rfl) ⟨by decide, by decide⟩ ⟨by decide, by decide⟩ rfl (by decide) dX12_init_920 ?_
  refine k0_putr (y := 240) (x := 206) (i := 42) jc_12 jk_206 (Nat.le_of_ble_eq_true rfl) (Nat.le_of_ble_eq_true rfl) (by decide +kernel) (Nat.le_of_ble_eq_true rfl) (fun _ => ⟨rfl, rfl⟩) jw_1247 ⟨rfl, rfl⟩ dX12_init_921 ?_
  refine k0_aload dX12_init_924 0 rfl ?_
  refine k0_bipush dX12_init_925 (by decide) ?_
  refine k0_ni (nx := 241) (ce := 34) (sl := 1739) (N := 12) jk_241 rfl (Nat.le_of_ble_eq_true rfl) ⟨Nat.le_of_ble_eq_true rfl, Nat.le_of_ble_eq_true rfl⟩ rfl dX12_init_927 ?_
  refine k0_putr (y := 241) (x := 206) (i := 44) jc_12 jk_206 (Nat.le_of_ble_eq_true rfl) (Nat.le_of_ble_eq_true rfl) (by decide +kernel) (Nat.le_of_ble_eq_true rfl) (fun _ => ⟨rfl, rfl⟩) jw_1249 ⟨rfl, rfl⟩ dX12_init_929 ?_
  refine k0_aload dX12_init_932 0 rfl ?_
  refine k0_bipush dX12_init_933 (by decide) ?_
  refine k0_nj (nx := 242) (ce := 35) (sl := 1751) (N := 32) jk_242 rfl (Nat.le_of_ble_eq_true rfl) ⟨Nat.le_of_ble_eq_true rfl, Nat.le_of_ble_eq_true rfl⟩ rfl dX12_init_935 ?_
  refine k0_putr (y := 242) (x := 206) (i := 45) jc_12 jk_206 (Nat.le_of_ble_eq_true rfl) (Nat.le_of_ble_eq_true rfl) (by decide +kernel) (Nat.le_of_ble_eq_true rfl) (fun _ => ⟨rfl, rfl⟩) jw_1250 ⟨rfl, rfl⟩ dX12_init_937 ?_
  refine k0_aload dX12_init_940 0 rfl ?_
  refine k0_bipush dX12_init_941 (by decide) ?_
  refine k0_ni (nx := 243) (ce := 36) (sl := 1783) (N := 24) jk_243 rfl (Nat.le_of_ble_eq_true rfl) ⟨Nat.le_of_ble_eq_true rfl, Nat.le_of_ble_eq_true rfl⟩ rfl dX12_init_943 ?_
  refine k0_putr (y := 243) (x := 206) (i := 46) jc_12 jk_206 (Nat.le_of_ble_eq_true rfl) (Nat.le_of_ble_eq_true rfl) (by decide +kernel) (Nat.le_of_ble_eq_true rfl) (fun _ => ⟨rfl, rfl⟩) jw_1251 ⟨rfl, rfl⟩ dX12_init_945 ?_
  refine k0_aload dX12_init_948 0 rfl ?_
  refine k0_bipush dX12_init_949 (by decide) ?_
  refine k0_ni (nx := 244) (ce := 37) (sl := 1807) (N := 32) jk_244 rfl (Nat.le_of_ble_eq_true rfl) ⟨Nat.le_of_ble_eq_true rfl, Nat.le_of_ble_eq_true rfl⟩ rfl dX12_init_951 ?_
  refine k0_putr (y := 244) (x := 206) (i := 47) jc_12 jk_206 (Nat.le_of_ble_eq_true rfl) (Nat.le_of_ble_eq_true rfl) (by decide +kernel) (Nat.le_of_ble_eq_true rfl) (fun _ => ⟨rfl, rfl⟩) jw_1252 ⟨rfl, rfl⟩ dX12_init_953 ?_
  refine k0_aload dX12_init_956 0 rfl ?_
  refine k0_bipush dX12_init_957 (by decide) ?_
  refine k0_ni (nx := 245) (ce := 38) (sl := 1839) (N := 96) jk_245 rfl (Nat.le_of_ble_eq_true rfl) ⟨Nat.le_of_ble_eq_true rfl, Nat.le_of_ble_eq_true rfl⟩ rfl dX12_init_959 ?_
  refine k0_putr (y := 245) (x := 206) (i := 48) jc_12 jk_206 (Nat.le_of_ble_eq_true rfl) (Nat.le_of_ble_eq_true rfl) (by decide +kernel) (Nat.le_of_ble_eq_true rfl) (fun _ => ⟨rfl, rfl⟩) jw_1253 ⟨rfl, rfl⟩ dX12_init_961 ?_
  refine k0_aload dX12_init_964 0 rfl ?_
  refine k0_bipush dX12_init_965 (by decide) ?_
  refine k0_ni (nx := 246) (ce := 39) (sl := 1935) (N := 6) jk_246 rfl (Nat.le_of_ble_eq_true rfl) ⟨Nat.le_of_ble_eq_true rfl, Nat.le_of_ble_eq_true rfl⟩ rfl dX12_init_967 ?_
  refine k0_dup dX12_init_969 ?_
  refine k0_iconst dX12_init_970 ?_
  refine k0_iconst dX12_init_971 ?_
  refine k0_iast (x := 246) (j := 0) jk_246 (Nat.le_of_ble_eq_true rfl) ⟨by decide, by decide⟩ ⟨by decide, by decide⟩ rfl dX12_init_972 ?_
  refine k0_dup dX12_init_973 ?_
  refine k0_iconst dX12_init_974 ?_
  refine k0_iconst dX12_init_975 ?_
  refine k0_iast (x := 246) (j := 1) jk_246 (Nat.le_of_ble_eq_true rfl) ⟨by decide, by decide⟩ ⟨by decide, by decide⟩ rfl dX12_init_976 ?_
  refine k0_dup dX12_init_977 ?_
  refine k0_iconst dX12_init_978 ?_
  refine k0_iconst dX12_init_979 ?_
  refine k0_iast (x := 246) (j := 2) jk_246 (Nat.le_of_ble_eq_true rfl) ⟨by decide, by decide⟩ ⟨by decide, by decide⟩ rfl dX12_init_980 ?_
  refine k0_dup dX12_init_981 ?_
  refine k0_iconst dX12_init_982 ?_
  refine k0_iconst dX12_init_983 ?_
  refine k0_iast (x := 246) (j := 3) jk_246 (Nat.le_of_ble_eq_true rfl) ⟨by decide, by decide⟩ ⟨by decide, by decide⟩ rfl dX12_init_984 ?_
  refine k0_dup dX12_init_985 ?_
  refine k0_iconst dX12_init_986 ?_
  refine k0_iconst dX12_init_987 ?_
  refine k0_iast (x := 246) (j := 4) jk_246 (Nat.le_of_ble_eq_true rfl) ⟨by decide, by decide⟩ ⟨by decide, by decide⟩ rfl dX12_init_988 ?_
  refine k0_dup dX12_init_989 ?_
  refine k0_iconst dX12_init_990 ?_
  refine k0_iconst dX12_init_991 ?_
  refine k0_iast (x := 246) (j := 5) jk_246 (Nat.le_of_ble_eq_true rfl) ⟨by decide, by decide⟩ ⟨by decide, by decide⟩ rfl dX12_init_992 ?_
  refine k0_putr (y := 246) (x := 206) (i := 49) jc_12 jk_206 (Nat.le_of_ble_eq_true rfl) (Nat.le_of_ble_eq_true rfl) (by decide +kernel) (Nat.le_of_ble_eq_true rfl) (fun _ => ⟨rfl, rfl⟩) jw_1254 ⟨rfl, rfl⟩ dX12_init_993 ?_
  refine k0_aload dX12_init_996 0 rfl ?_
  refine k0_bipush dX12_init_997 (by decide) ?_
  refine k0_ni (nx := 247) (ce := 40) (sl := 1941) (N := 6) jk_247 rfl (Nat.le_of_ble_eq_true rfl) ⟨Nat.le_of_ble_eq_true rfl, Nat.le_of_ble_eq_true rfl⟩ rfl dX12_init_999 ?_
  refine k0_putr (y := 247) (x := 206) (i := 50) jc_12 jk_206 (Nat.le_of_ble_eq_true rfl) (Nat.le_of_ble_eq_true rfl) (by decide +kernel) (Nat.le_of_ble_eq_true rfl) (fun _ => ⟨rfl, rfl⟩) jw_1255 ⟨rfl, rfl⟩ dX12_init_1001 ?_
  refine k0_aload dX12_init_1004 0 rfl ?_
  refine k0_sipush dX12_init_1005 (by decide) ?_
  refine k0_ni (nx := 248) (ce := 41) (sl := 1947) (N := 3200) jk_248 rfl (Nat.le_of_ble_eq_true rfl) ⟨Nat.le_of_ble_eq_true rfl, Nat.le_of_ble_eq_true rfl⟩ rfl dX12_init_1008 ?_
  refine k0_putr (y := 248) (x := 206) (i := 51) jc_12 jk_206 (Nat.le_of_ble_eq_true rfl) (Nat.le_of_ble_eq_true rfl) (by decide +kernel) (Nat.le_of_ble_eq_true rfl) (fun _ => ⟨rfl, rfl⟩) jw_1256 ⟨rfl, rfl⟩ dX12_init_1010 ?_
  refine k0_aload dX12_init_1013 0 rfl ?_
  refine k0_bipush dX12_init_1014 (by decide) ?_
  refine k0_ni (nx := 249) (ce := 42) (sl := 5147) (N := 105) jk_249 rfl (Nat.le_of_ble_eq_true rfl) ⟨Nat.le_of_ble_eq_true rfl, Nat.le_of_ble_eq_true rfl⟩ rfl dX12_init_1016 ?_
  refine k0_putr (y := 249) (x := 206) (i := 56) jc_12 jk_206 (Nat.le_of_ble_eq_true rfl) (Nat.le_of_ble_eq_true rfl) (by decide +kernel) (Nat.le_of_ble_eq_true rfl) (fun _ => ⟨rfl, rfl⟩) jw_1261 ⟨rfl, rfl⟩ dX12_init_1018 ?_
  refine k0_aload dX12_init_1021 0 rfl ?_
  refine k0_bipush dX12_init_1022 (by decide) ?_
  refine k0_ni (nx := 250) (ce := 43) (sl := 5252) (N := 30) jk_250 rfl (Nat.le_of_ble_eq_true rfl) ⟨Nat.le_of_ble_eq_true rfl, Nat.le_of_ble_eq_true rfl⟩ rfl dX12_init_1024 ?_
  refine k0_putr (y := 250) (x := 206) (i := 60) jc_12 jk_206 (Nat.le_of_ble_eq_true rfl) (Nat.le_of_ble_eq_true rfl) (by decide +kernel) (Nat.le_of_ble_eq_true rfl) (fun _ => ⟨rfl, rfl⟩) jw_1265 ⟨rfl, rfl⟩ dX12_init_1026 ?_
  refine k0_aload dX12_init_1029 0 rfl ?_
  refine k0_bipush dX12_init_1030 (by decide) ?_
  refine k0_ni (nx := 251) (ce := 44) (sl := 5282) (N := 8) jk_251 rfl (Nat.le_of_ble_eq_true rfl) ⟨Nat.le_of_ble_eq_true rfl, Nat.le_of_ble_eq_true rfl⟩ rfl dX12_init_1032 ?_
  refine k0_putr (y := 251) (x := 206) (i := 62) jc_12 jk_206 (Nat.le_of_ble_eq_true rfl) (Nat.le_of_ble_eq_true rfl) (by decide +kernel) (Nat.le_of_ble_eq_true rfl) (fun _ => ⟨rfl, rfl⟩) jw_1267 ⟨rfl, rfl⟩ dX12_init_1034 ?_
  refine k0_aload dX12_init_1037 0 rfl ?_
  refine k0_bipush dX12_init_1038 (by decide) ?_
  refine k0_ni (nx := 252) (ce := 45) (sl := 5290) (N := 24) jk_252 rfl (Nat.le_of_ble_eq_true rfl) ⟨Nat.le_of_ble_eq_true rfl, Nat.le_of_ble_eq_true rfl⟩ rfl dX12_init_1040 ?_
  refine k0_putr (y := 252) (x := 206) (i := 64) jc_12 jk_206 (Nat.le_of_ble_eq_true rfl) (Nat.le_of_ble_eq_true rfl) (by decide +kernel) (Nat.le_of_ble_eq_true rfl) (fun _ => ⟨rfl, rfl⟩) jw_1269 ⟨rfl, rfl⟩ dX12_init_1042 ?_
  refine k0_aload dX12_init_1045 0 rfl ?_
  refine k0_bipush dX12_init_1046 (by decide) ?_
  refine k0_ni (nx := 253) (ce := 46) (sl := 5314) (N := 48) jk_253 rfl (Nat.le_of_ble_eq_true rfl) ⟨Nat.le_of_ble_eq_true rfl, Nat.le_of_ble_eq_true rfl⟩ rfl dX12_init_1048 ?_
  refine k0_putr (y := 253) (x := 206) (i := 66) jc_12 jk_206 (Nat.le_of_ble_eq_true rfl) (Nat.le_of_ble_eq_true rfl) (by decide +kernel) (Nat.le_of_ble_eq_true rfl) (fun _ => ⟨rfl, rfl⟩) jw_1271 ⟨rfl, rfl⟩ dX12_init_1050 ?_
  refine k0_aload dX12_init_1053 0 rfl ?_
  refine k0_bipush dX12_init_1054 (by decide) ?_
  refine k0_nz (nx := 254) (ce := 47) (sl := 5362) (N := 100) jk_254 rfl (Nat.le_of_ble_eq_true rfl) ⟨Nat.le_of_ble_eq_true rfl, Nat.le_of_ble_eq_true rfl⟩ rfl dX12_init_1056 ?_
  refine k0_putr (y := 254) (x := 206) (i := 67) jc_12 jk_206 (Nat.le_of_ble_eq_true rfl) (Nat.le_of_ble_eq_true rfl) (by decide +kernel) (Nat.le_of_ble_eq_true rfl) (fun _ => ⟨rfl, rfl⟩) jw_1272 ⟨rfl, rfl⟩ dX12_init_1058 ?_
  refine k0_aload dX12_init_1061 0 rfl ?_
  refine k0_ldc (v := 93000) dX12_init_1062 jw_1204 (by decide) ?_
  refine k0_ni (nx := 255) (ce := 48) (sl := 5462) (N := 93000) jk_255 rfl (Nat.le_of_ble_eq_true rfl) ⟨Nat.le_of_ble_eq_true rfl, Nat.le_of_ble_eq_true rfl⟩ rfl dX12_init_1064 ?_
  refine k0_putr (y := 255) (x := 206) (i := 69) jc_12 jk_206 (Nat.le_of_ble_eq_true rfl) (Nat.le_of_ble_eq_true rfl) (by decide +kernel) (Nat.le_of_ble_eq_true rfl) (fun _ => ⟨rfl, rfl⟩) jw_1274 ⟨rfl, rfl⟩ dX12_init_1066 ?_
  refine k0_aload dX12_init_1069 0 rfl ?_
  refine k0_bipush dX12_init_1070 (by decide) ?_
  refine k0_ni (nx := 256) (ce := 49) (sl := 98462) (N := 9) jk_256 rfl (Nat.le_of_ble_eq_true rfl) ⟨Nat.le_of_ble_eq_true rfl, Nat.le_of_ble_eq_true rfl⟩ rfl dX12_init_1072 ?_
  refine k0_putr (y := 256) (x := 206) (i := 70) jc_12 jk_206 (Nat.le_of_ble_eq_true rfl) (Nat.le_of_ble_eq_true rfl) (by decide +kernel) (Nat.le_of_ble_eq_true rfl) (fun _ => ⟨rfl, rfl⟩) jw_1275 ⟨rfl, rfl⟩ dX12_init_1074 ?_
  refine k0_aload dX12_init_1077 0 rfl ?_
  refine k0_sipush dX12_init_1078 (by decide) ?_
  refine k0_ni (nx := 257) (ce := 50) (sl := 98471) (N := 2100) jk_257 rfl (Nat.le_of_ble_eq_true rfl) ⟨Nat.le_of_ble_eq_true rfl, Nat.le_of_ble_eq_true rfl⟩ rfl dX12_init_1081 ?_
  refine k0_putr (y := 257) (x := 206) (i := 71) jc_12 jk_206 (Nat.le_of_ble_eq_true rfl) (Nat.le_of_ble_eq_true rfl) (by decide +kernel) (Nat.le_of_ble_eq_true rfl) (fun _ => ⟨rfl, rfl⟩) jw_1276 ⟨rfl, rfl⟩ dX12_init_1083 ?_
  refine k0_aload dX12_init_1086 0 rfl ?_
  refine k0_lconst (v := 1) dX12_init_1087 (by decide) ?_
  refine k0_putl (x := 206) (i := 74) jc_12 jk_206 (Nat.le_of_ble_eq_true rfl) (Nat.le_of_ble_eq_true rfl) (by decide +kernel) ⟨by decide, by decide⟩ jw_1279 ⟨rfl, rfl⟩ dX12_init_1088 ?_
  refine k0_aload dX12_init_1091 0 rfl ?_
  refine k0_iconst dX12_init_1092 ?_
  refine k0_nc (nx := 258) (ce := 51) (sl := 100571) (N := 5) jk_258 rfl (Nat.le_of_ble_eq_true rfl) ⟨Nat.le_of_ble_eq_true rfl, Nat.le_of_ble_eq_true rfl⟩ rfl dX12_init_1093 ?_
  refine k0_dup dX12_init_1095 ?_
  refine k0_iconst dX12_init_1096 ?_
  refine k0_bipush dX12_init_1097 (by decide) ?_
  refine k0_cast (x := 258) (j := 0) jk_258 (Nat.le_of_ble_eq_true rfl) ⟨by decide, by decide⟩ ⟨by decide, by decide⟩ rfl (by decide) dX12_init_1099 ?_
  refine k0_dup dX12_init_1100 ?_
  refine k0_iconst dX12_init_1101 ?_
  refine k0_bipush dX12_init_1102 (by decide) ?_
  refine k0_cast (x := 258) (j := 1) jk_258 (Nat.le_of_ble_eq_true rfl) ⟨by decide, by decide⟩ ⟨by decide, by decide⟩ rfl (by decide) dX12_init_1104 ?_
  refine k0_dup dX12_init_1105 ?_
  refine k0_iconst dX12_init_1106 ?_
  refine k0_bipush dX12_init_1107 (by decide) ?_
  refine k0_cast (x := 258) (j := 2) jk_258 (Nat.le_of_ble_eq_true rfl) ⟨by decide, by decide⟩ ⟨by decide, by decide⟩ rfl (by decide) dX12_init_1109 ?_
  refine k0_dup dX12_init_1110 ?_
  refine k0_iconst dX12_init_1111 ?_
  refine k0_bipush dX12_init_1112 (by decide) ?_
  refine k0_cast (x := 258) (j := 3) jk_258 (Nat.le_of_ble_eq_true rfl) ⟨by decide, by decide⟩ ⟨by decide, by decide⟩ rfl (by decide) dX12_init_1114 ?_
  refine k0_dup dX12_init_1115 ?_
  refine k0_iconst dX12_init_1116 ?_
  refine k0_bipush dX12_init_1117 (by decide) ?_
  refine k0_cast (x := 258) (j := 4) jk_258 (Nat.le_of_ble_eq_true rfl) ⟨by decide, by decide⟩ ⟨by decide, by decide⟩ rfl (by decide) dX12_init_1119 ?_
  refine k0_putr (y := 258) (x := 206) (i := 75) jc_12 jk_206 (Nat.le_of_ble_eq_true rfl) (Nat.le_of_ble_eq_true rfl) (by decide +kernel) (Nat.le_of_ble_eq_true rfl) (fun _ => ⟨rfl, rfl⟩) jw_1280 ⟨rfl, rfl⟩ dX12_init_1120 ?_
  exact k
def k0_X12m7 (σ : jl_Mm) : jl_Mm := (k0_ml [(206, 81, ((264 : Nat) : Int)), (264, 2, 116), (264, 1, 111), (264, 0, 110), (206, 80, ((263 : Nat) : Int)), (263, 4, 116), (263, 3, 115), (263, 2, 97), (263, 1, 101), (263, 0, 108), (206, 79, ((262 : Nat) : Int)), (262, 3, 116), (262, 2, 115), (262, 1, 111), (262, 0, 109), (206, 78, ((261 : Nat) : Int)), (261, 4, 108), (261, 3, 97), (261, 2, 116), (261, 1, 111), (261, 0, 116), (206, 77, ((260 : Nat) : Int)), (260, 4, 110), (260, 3, 101), (260, 2, 116), (260, 1, 102), (260, 0, 111), (206, 76, ((259 : Nat) : Int)), (259, 3, 116), (259, 2, 115), (259, 1, 97), (259, 0, 108)] σ)
set_option maxRecDepth 20000 in
set_option maxHeartbeats 4000000 in
theorem k0_X12s7 {G0 : jl_GC} {σ : jl_Mm} {o : jl_O} (k : k0_J G0 207 jM_X12_init (k0_E G0 jM_X12_init 207 286) 265 58 100602 1295 [(0, .inl 206)] [] (k0_X12m7 σ) o) : k0_J G0 207 jM_X12_init (k0_E G0 jM_X12_init 207 286) 259 52 100576 1123 [(0, .inl 206)] [] σ o := by
  refine k0_aload dX12_init_1123 0 rfl ?_
  refine k0_iconst dX12_init_1124 ?_
  refine k0_nc (nx := 259) (ce := 52) (sl := 100576) (N := 4) jk_259 rfl (Nat.le_of_ble_eq_true rfl) ⟨Nat.le_of_ble_eq_true rfl, Nat.le_of_ble_eq_true rfl⟩ rfl dX12_init_1125 ?_
  refine k0_dup dX12_init_1127 ?_
  refine k0_iconst dX12_init_1128 ?_
  refine k0_bipush dX12_init_1129 (by decide) ?_
  refine k0_cast (x := 259) (j := 0) jk_259 (Nat.le_of_ble_eq_true rfl) ⟨by decide, by decide⟩ ⟨by decide, by decide⟩ rfl (by decide) dX12_init_1131 ?_
  refine k0_dup dX12_init_1132 ?_
  refine k0_iconst dX12_init_1133 ?_
  refine k0_bipush dX12_init_1134 (by decide) ?_
  refine k0_cast (x := 259) (j := 1) jk_259 (Nat.le_of_ble_eq_true rfl) ⟨by decide, by decide⟩ ⟨by decide, by decide⟩ rfl (by decide) dX12_init_1136 ?_
  refine k0_dup dX12_init_1137 ?_
  refine k0_iconst dX12_init_1138 ?_
  refine k0_bipush dX12_init_1139 (by decide) ?_
  refine k0_cast (x := 259) (j := 2) jk_259 (Nat.le_of_ble_eq_true rfl) ⟨by decide, by decide⟩ ⟨by decide, by decide⟩ rfl (by decide) dX12_init_1141 ?_
  refine k0_dup dX12_init_1142 ?_
  refine k0_iconst dX12_init_1143 ?_
  refine k0_bipush dX12_init_1144 (by decide) ?_
  refine k0_cast (x := 259) (j := 3) jk_259 (Nat.le_of_ble_eq_true rfl) ⟨by decide, by decide⟩ ⟨by decide, by decide⟩ rfl (by decide) dX12_init_1146 ?_
  refine k0_putr (y := 259) (x := 206) (i := 76) jc_12 jk_206 (Nat.le_of_ble_eq_true rfl) (Nat.le_of_ble_eq_true rfl) (by decide +kernel) (Nat.le_of_ble_eq_true rfl) (fun _ => ⟨rfl, rfl⟩) jw_1281 ⟨rfl, rfl⟩ dX12_init_1147 ?_
  refine k0_aload dX12_init_1150 0 rfl ?_
  refine k0_iconst dX12_init_1151 ?_
  refine k0_nc (nx := 260) (ce := 53) (sl := 100580) (N := 5) jk_260 rfl (Nat.le_of_ble_eq_true rfl) ⟨Nat.le_of_ble_eq_true rfl, Nat.le_of_ble_eq_true rfl⟩ rfl dX12_init_1152 ?_
  refine k0_dup dX12_init_1154 ?_
  refine k0_iconst dX12_init_1155 ?_
  refine k0_bipush dX12_init_1156 (by decide) ?_
  refine k0_cast (x := 260) (j := 0) jk_260 (Nat.le_of_ble_eq_true rfl) ⟨by decide, by decide⟩ ⟨by decide, by decide⟩ rfl (by decide) dX12_init_1158 ?_
  refine k0_dup dX12_init_1159 ?_
  refine k0_iconst dX12_init_1160 ?_
  refine k0_bipush dX12_init_1161 (by decide) ?_
  refine k0_cast (x := 260) (j := 1) jk_260 (Nat.le_of_ble_eq_true rfl) ⟨by decide, by decide⟩ ⟨by decide, by decide⟩ rfl (by decide) dX12_init_1163 ?_
  refine k0_dup dX12_init_1164 ?_
  refine k0_iconst dX12_init_1165 ?_
  refine k0_bipush dX12_init_1166 (by decide) ?_
  refine k0_cast (x := 260) (j := 2) jk_260 (Nat.le_of_ble_eq_true rfl) ⟨by decide, by decide⟩ ⟨by decide, by decide⟩ rfl (by decide) dX12_init_1168 ?_
  refine k0_dup dX12_init_1169 ?_
  refine k0_iconst dX12_init_1170 ?_
  refine k0_bipush dX12_init_1171 (by decide) ?_
  refine k0_cast (x := 260) (j := 3) jk_260 (Nat.le_of_ble_eq_true rfl) ⟨by decide, by decide⟩ ⟨by decide, by decide⟩ rfl (by decide) dX12_init_1173 ?_
  refine k0_dup dX12_init_1174 ?_
  refine k0_iconst dX12_init_1175 ?_
  refine k0_bipush dX12_init_1176 (by decide) ?_
  refine k0_cast (x := 260) (j := 4) jk_260 (Nat.le_of_ble_eq_true rfl) ⟨by decide, by decide⟩ ⟨by decide, by decide⟩ rfl (by decide) dX12_init_1178 ?_
  refine k0_putr (y := 260) (x := 206) (i := 77) jc_12 jk_206 (Nat.le_of_ble_eq_true rfl) (Nat.le_of_ble_eq_true rfl) (by decide +kernel) (Nat.le_of_ble_eq_true rfl) (fun _ => ⟨rfl, rfl⟩) jw_1282 ⟨rfl, rfl⟩ dX12_init_1179 ?_
  refine k0_aload dX12_init_1182 0 rfl ?_
  refine k0_iconst dX12_init_1183 ?_
  refine k0_nc (nx := 261) (ce := 54) (sl := 100585) (N := 5) jk_261 rfl (Nat.le_of_ble_eq_true rfl) ⟨Nat.le_of_ble_eq_true rfl, Nat.le_of_ble_eq_true rfl⟩ rfl dX12_init_1184 ?_
  refine k0_dup dX12_init_1186 ?_
  refine k0_iconst dX12_init_1187 ?_
  refine k0_bipush dX12_init_1188 (by decide) ?_
  refine k0_cast (x := 261) (j := 0) jk_261 (Nat.le_of_ble_eq_true rfl) ⟨by decide, by decide⟩ ⟨by decide, by decide⟩ rfl (by decide) dX12_init_1190 ?_
  refine k0_dup dX12_init_1191 ?_
  refine k0_iconst dX12_init_1192 ?_
  refine k0_bipush dX12_init_1193 (by decide) ?_
  refine k0_cast (x := 261) (j := 1) jk_261 (Nat.le_of_ble_eq_true rfl) ⟨by decide, by decide⟩ ⟨by decide, by decide⟩ rfl (by decide) dX12_init_1195 ?_
  refine k0_dup dX12_init_1196 ?_
  refine k0_iconst dX12_init_1197 ?_
  refine k0_bipush dX12_init_1198 (by decide) ?_
  refine k0_cast (x := 261) (j := 2) jk_261 (Nat.le_of_ble_eq_true rfl) ⟨by decide, by decide⟩ ⟨by decide, by decide⟩ rfl (by decide) dX12_init_1200 ?_
  refine k0_dup dX12_init_1201 ?_
  refine k0_iconst dX12_init_1202 ?_
  refine k0_bipush dX12_init_1203 (by decide) ?_
  refine k0_cast (x := 261) (j := 3) jk_261 (Nat.le_of_ble_eq_true rfl) ⟨by decide, by decide⟩ ⟨by decide, by decide⟩ rfl (by decide) dX12_init_1205 ?_
  refine k0_dup dX12_init_1206 ?_
  refine k0_iconst dX12_init_1207 ?_
  refine k0_bipush dX12_init_1208 (by decide) ?_
  refine k0_cast (x := 261) (j := 4) jk_261 (Nat.le_of_ble_eq_true rfl) ⟨by decide, by decide⟩ ⟨by decide, by decide⟩ rfl (by decide) dX12_init_1210 ?_
  refine k0_putr (y := 261) (x := 206) (i := 78) jc_12 jk_206 (Nat.le_of_ble_eq_true rfl) (Nat.le_of_ble_eq_true rfl) (by decide +kernel) (Nat.le_of_ble_eq_true rfl) (fun _ => ⟨rfl, rfl⟩) jw_1283 ⟨rfl, rfl⟩ dX12_init_1211 ?_
  refine k0_aload dX12_init_1214 0 rfl ?_
  refine k0_iconst dX12_init_1215 ?_
  refine k0_nc (nx := 262) (ce := 55) (sl := 100590) (N := 4) jk_262 rfl (Nat.le_of_ble_eq_true rfl) ⟨Nat.le_of_ble_eq_true rfl, Nat.le_of_ble_eq_true rfl⟩ rfl dX12_init_1216 ?_
  refine k0_dup dX12_init_1218 ?_
  refine k0_iconst dX12_init_1219 ?_
  refine k0_bipush dX12_init_1220 (by decide) ?_
  refine k0_cast (x := 262) (j := 0) jk_262 (Nat.le_of_ble_eq_true rfl) ⟨by decide, by decide⟩ ⟨by decide, by decide⟩ rfl (by decide) dX12_init_1222 ?_
  refine k0_dup dX12_init_1223 ?_
  refine k0_iconst dX12_init_1224 ?_
  refine k0_bipush dX12_init_1225 (by decide) ?_
  refine k0_cast (x := 262) (j := 1) jk_262 (Nat.le_of_ble_eq_true rfl) ⟨by decide, by decide⟩ ⟨by decide, by decide⟩ rfl (by decide) dX12_init_1227 ?_
  refine k0_dup dX12_init_1228 ?_
  refine k0_iconst dX12_init_1229 ?_
  refine k0_bipush dX12_init_1230 (by decide) ?_
  refine k0_cast (x := 262) (j := 2) jk_262 (Nat.le_of_ble_eq_true rfl) ⟨by decide, by decide⟩ ⟨by decide, by decide⟩ rfl (by decide) dX12_init_1232 ?_
  refine k0_dup dX12_init_1233 ?_
  refine k0_iconst dX12_init_1234 ?_
  refine k0_bipush dX12_init_1235 (by decide) ?_
  refine k0_cast (x := 262) (j := 3) jk_262 (Nat.le_of_ble_eq_true rfl) ⟨by decide, by decide⟩ ⟨by decide, by decide⟩ rfl (by decide) dX12_init_1237 ?_
  refine k0_putr (y := 262) (x := 206) (i := 79) jc_12 jk_206 (Nat.le_of_ble_eq_true rfl) (Nat.le_of_ble_eq_true rfl) (by decide +kernel) (Nat.le_of_ble_eq_true rfl) (fun _ => ⟨rfl, rfl⟩) jw_1284 ⟨rfl, rfl⟩ dX12_init_1238 ?_
  refine k0_aload dX12_init_1241 0 rfl ?_
  refine k0_iconst dX12_init_1242 ?_
  refine k0_nc (nx := 263) (ce := 56) (sl := 100594) (N := 5) jk_263 rfl (Nat.le_of_ble_eq_true rfl) ⟨Nat.le_of_ble_eq_true rfl, Nat.le_of_ble_eq_true rfl⟩ rfl dX12_init_1243 ?_
  refine k0_dup dX12_init_1245 ?_
  refine k0_iconst dX12_init_1246 ?_
  refine k0_bipush dX12_init_1247 (by decide) ?_
  refine k0_cast (x := 263) (j := 0) jk_263 (Nat.le_of_ble_eq_true rfl) ⟨by decide, by decide⟩ ⟨by decide, by decide⟩ rfl (by decide) dX12_init_1249 ?_
  refine k0_dup dX12_init_1250 ?_
  refine k0_iconst dX12_init_1251 ?_
  refine k0_bipush dX12_init_1252 (by decide) ?_
  refine k0_cast (x := 263) (j := 1) jk_263 (Nat.le_of_ble_eq_true rfl) ⟨by decide, by decide⟩ ⟨by decide, by decide⟩ rfl (by decide) dX12_init_1254 ?_
  refine k0_dup dX12_init_1255 ?_
  refine k0_iconst dX12_init_1256 ?_
  refine k0_bipush dX12_init_1257 (by decide) ?_
  refine k0_cast (x := 263) (j := 2) jk_263 (Nat.le_of_ble_eq_true rfl) ⟨by decide, by decide⟩ ⟨by decide, by decide⟩ rfl (by decide) dX12_init_1259 ?_
  refine k0_dup dX12_init_1260 ?_
  refine k0_iconst dX12_init_1261 ?_
  refine k0_bipush dX12_init_1262 (by decide) ?_
  refine k0_cast (x := 263) (j := 3) jk_263 (Nat.le_of_ble_eq_true rfl) ⟨by decide, by decide⟩ ⟨by decide, by decide⟩ rfl (by decide) dX12_init_1264 ?_
  refine k0_dup dX12_init_1265 ?_
  refine k0_iconst dX12_init_1266 ?_
  refine k0_bipush dX12_init_1267 (by decide) ?_
  refine k0_cast (x := 263) (j := 4) jk_263 (Nat.le_of_ble_eq_true rfl) ⟨by decide, by decide⟩ ⟨by decide, by decide⟩ rfl (by decide) dX12_init_1269 ?_
  refine k0_putr (y := 263) (x := 206) (i := 80) jc_12 jk_206 (Nat.le_of_ble_eq_true rfl) (Nat.le_of_ble_eq_true rfl) (by decide +kernel) (Nat.le_of_ble_eq_true rfl) (fun _ => ⟨rfl, rfl⟩) jw_1285 ⟨rfl, rfl⟩ dX12_init_1270 ?_
  refine k0_aload dX12_init_1273 0 rfl ?_
  refine k0_iconst dX12_init_1274 ?_
  refine k0_nc (nx := 264) (ce := 57) (sl := 100599) (N := 3) jk_264 rfl (Nat.le_of_ble_eq_true rfl) ⟨Nat.le_of_ble_eq_true rfl, Nat.le_of_ble_eq_true rfl⟩ rfl dX12_init_1275 ?_
  refine k0_dup dX12_init_1277 ?_
  refine k0_iconst dX12_init_1278 ?_
  refine k0_bipush dX12_init_1279 (by decide) ?_
  refine k0_cast (x := 264) (j := 0) jk_264 (Nat.le_of_ble_eq_true rfl) ⟨by decide, by decide⟩ ⟨by decide, by decide⟩ rfl (by decide) dX12_init_1281 ?_
  refine k0_dup dX12_init_1282 ?_
  refine k0_iconst dX12_init_1283 ?_
  refine k0_bipush dX12_init_1284 (by decide) ?_
  refine k0_cast (x := 264) (j := 1) jk_264 (Nat.le_of_ble_eq_true rfl) ⟨by decide, by decide⟩ ⟨by decide, by decide⟩ rfl (by decide) dX12_init_1286 ?_
  refine k0_dup dX12_init_1287 ?_
  refine k0_iconst dX12_init_1288 ?_
  refine k0_bipush dX12_init_1289 (by decide) ?_
  refine k0_cast (x := 264) (j := 2) jk_264 (Nat.le_of_ble_eq_true rfl) ⟨by decide, by decide⟩ ⟨by decide, by decide⟩ rfl (by decide) dX12_init_1291 ?_
  refine k0_putr (y := 264) (x := 206) (i := 81) jc_12 jk_206 (Nat.le_of_ble_eq_true rfl) (Nat.le_of_ble_eq_true rfl) (by decide +kernel) (Nat.le_of_ble_eq_true rfl) (fun _ => ⟨rfl, rfl⟩) jw_1286 ⟨rfl, rfl⟩ dX12_init_1292 ?_
  exact k
def k0_X12m8 (σ : jl_Mm) : jl_Mm := (k0_ml [(206, 88, ((271 : Nat) : Int)), (271, 4, 101), (271, 3, 99), (271, 2, 97), (271, 1, 108), (271, 0, 112), (206, 87, ((270 : Nat) : Int)), (270, 3, 114), (270, 2, 117), (270, 1, 111), (270, 0, 104), (206, 86, ((269 : Nat) : Int)), (269, 2, 120), (269, 1, 97), (269, 0, 109), (206, 85, ((268 : Nat) : Int)), (268, 2, 110), (268, 1, 105), (268, 0, 109), (206, 84, ((267 : Nat) : Int)), (267, 2, 108), (267, 1, 108), (267, 0, 97), (206, 83, ((266 : Nat) : Int)), (266, 1, 114), (266, 0, 111), (206, 82, ((265 : Nat) : Int)), (265, 2, 100), (265, 1, 110), (265, 0, 97)] σ)
set_option maxRecDepth 20000 in
set_option maxHeartbeats 4000000 in
theorem k0_X12s8 {G0 : jl_GC} {σ : jl_Mm} {o : jl_O} (k : k0_J G0 207 jM_X12_init (k0_E G0 jM_X12_init 207 286) 272 65 100625 1459 [(0, .inl 206)] [] (k0_X12m8 σ) o) : k0_J G0 207 jM_X12_init (k0_E G0 jM_X12_init 207 286) 265 58 100602 1295 [(0, .inl 206)] [] σ o := by
  refine k0_aload dX12_init_1295 0 rfl ?_
  refine k0_iconst dX12_init_1296 ?_
  refine k0_nc (nx := 265) (ce := 58) (sl := 100602) (N := 3) jk_265 rfl (Nat.le_of_ble_eq_true rfl) ⟨Nat.le_of_ble_eq_true rfl, Nat.le_of_ble_eq_true rfl⟩ rfl dX12_init_1297 ?_
  refine k0_dup dX12_init_1299 ?_
  refine k0_iconst dX12_init_1300 ?_
  refine k0_bipush dX12_init_1301 (by decide) ?_
  refine k0_cast (x := 265) (j := 0) jk_265 (Nat.le_of_ble_eq_true rfl) ⟨by decide, by decide⟩ ⟨by decide, by decide⟩ rfl (by decide) dX12_init_1303 ?_
  refine k0_dup dX12_init_1304 ?_
  refine k0_iconst dX12_init_1305 ?_
  refine k0_bipush dX12_init_1306 (by decide) ?_
  refine k0_cast (x := 265) (j := 1) jk_265 (Nat.le_of_ble_eq_true rfl) ⟨by decide, by decide⟩ ⟨by decide, by decide⟩ rfl (by decide) dX12_init_1308 ?_
  refine k0_dup dX12_init_1309 ?_
  refine k0_iconst dX12_init_1310 ?_
  refine k0_bipush dX12_init_1311 (by decide) ?_
  refine k0_cast (x := 265) (j := 2) jk_265 (Nat.le_of_ble_eq_true rfl) ⟨by decide, by decide⟩ ⟨by decide, by decide⟩ rfl (by decide) dX12_init_1313 ?_
  refine k0_putr (y := 265) (x := 206) (i := 82) jc_12 jk_206 (Nat.le_of_ble_eq_true rfl) (Nat.le_of_ble_eq_true rfl) (by decide +kernel) (Nat.le_of_ble_eq_true rfl) (fun _ => ⟨rfl, rfl⟩) jw_1287 ⟨rfl, rfl⟩ dX12_init_1314 ?_
  refine k0_aload dX12_init_1317 0 rfl ?_
  refine k0_iconst dX12_init_1318 ?_
  refine k0_nc (nx := 266) (ce := 59) (sl := 100605) (N := 2) jk_266 rfl (Nat.le_of_ble_eq_true rfl) ⟨Nat.le_of_ble_eq_true rfl, Nat.le_of_ble_eq_true rfl⟩ rfl dX12_init_1319 ?_
  refine k0_dup dX12_init_1321 ?_
  refine k0_iconst dX12_init_1322 ?_
  refine k0_bipush dX12_init_1323 (by decide) ?_
  refine k0_cast (x := 266) (j := 0) jk_266 (Nat.le_of_ble_eq_true rfl) ⟨by decide, by decide⟩ ⟨by decide, by decide⟩ rfl (by decide) dX12_init_1325 ?_
  refine k0_dup dX12_init_1326 ?_
  refine k0_iconst dX12_init_1327 ?_
  refine k0_bipush dX12_init_1328 (by decide) ?_
  refine k0_cast (x := 266) (j := 1) jk_266 (Nat.le_of_ble_eq_true rfl) ⟨by decide, by decide⟩ ⟨by decide, by decide⟩ rfl (by decide) dX12_init_1330 ?_
  refine k0_putr (y := 266) (x := 206) (i := 83) jc_12 jk_206 (Nat.le_of_ble_eq_true rfl) (Nat.le_of_ble_eq_true rfl) (by decide +kernel) (Nat.le_of_ble_eq_true rfl) (fun _ => ⟨rfl, rfl⟩) jw_1288 ⟨rfl, rfl⟩ dX12_init_1331 ?_
  refine k0_aload dX12_init_1334 0 rfl ?_
  refine k0_iconst dX12_init_1335 ?_
  refine k0_nc (nx := 267) (ce := 60) (sl := 100607) (N := 3) jk_267 rfl (Nat.le_of_ble_eq_true rfl) ⟨Nat.le_of_ble_eq_true rfl, Nat.le_of_ble_eq_true rfl⟩ rfl dX12_init_1336 ?_
  refine k0_dup dX12_init_1338 ?_
  refine k0_iconst dX12_init_1339 ?_
  refine k0_bipush dX12_init_1340 (by decide) ?_
  refine k0_cast (x := 267) (j := 0) jk_267 (Nat.le_of_ble_eq_true rfl) ⟨by decide, by decide⟩ ⟨by decide, by decide⟩ rfl (by decide) dX12_init_1342 ?_
  refine k0_dup dX12_init_1343 ?_
  refine k0_iconst dX12_init_1344 ?_
  refine k0_bipush dX12_init_1345 (by decide) ?_
  refine k0_cast (x := 267) (j := 1) jk_267 (Nat.le_of_ble_eq_true rfl) ⟨by decide, by decide⟩ ⟨by decide, by decide⟩ rfl (by decide) dX12_init_1347 ?_
  refine k0_dup dX12_init_1348 ?_
  refine k0_iconst dX12_init_1349 ?_
  refine k0_bipush dX12_init_1350 (by decide) ?_
  refine k0_cast (x := 267) (j := 2) jk_267 (Nat.le_of_ble_eq_true rfl) ⟨by decide, by decide⟩ ⟨by decide, by decide⟩ rfl (by decide) dX12_init_1352 ?_
  refine k0_putr (y := 267) (x := 206) (i := 84) jc_12 jk_206 (Nat.le_of_ble_eq_true rfl) (Nat.le_of_ble_eq_true rfl) (by decide +kernel) (Nat.le_of_ble_eq_true rfl) (fun _ => ⟨rfl, rfl⟩) jw_1289 ⟨rfl, rfl⟩ dX12_init_1353 ?_
  refine k0_aload dX12_init_1356 0 rfl ?_
  refine k0_iconst dX12_init_1357 ?_
  refine k0_nc (nx := 268) (ce := 61) (sl := 100610) (N := 3) jk_268 rfl (Nat.le_of_ble_eq_true rfl) ⟨Nat.le_of_ble_eq_true rfl, Nat.le_of_ble_eq_true rfl⟩ rfl dX12_init_1358 ?_
  refine k0_dup dX12_init_1360 ?_
  refine k0_iconst dX12_init_1361 ?_
  refine k0_bipush dX12_init_1362 (by decide) ?_
  refine k0_cast (x := 268) (j := 0) jk_268 (Nat.le_of_ble_eq_true rfl) ⟨by decide, by decide⟩ ⟨by decide, by decide⟩ rfl (by decide) dX12_init_1364 ?_
  refine k0_dup dX12_init_1365 ?_
  refine k0_iconst dX12_init_1366 ?_
  refine k0_bipush dX12_init_1367 (by decide) ?_
  refine k0_cast (x := 268) (j := 1) jk_268 (Nat.le_of_ble_eq_true rfl) ⟨by decide, by decide⟩ ⟨by decide, by decide⟩ rfl (by decide) dX12_init_1369 ?_
  refine k0_dup dX12_init_1370 ?_
  refine k0_iconst dX12_init_1371 ?_
  refine k0_bipush dX12_init_1372 (by decide) ?_
  refine k0_cast (x := 268) (j := 2) jk_268 (Nat.le_of_ble_eq_true rfl) ⟨by decide, by decide⟩ ⟨by decide, by decide⟩ rfl (by decide) dX12_init_1374 ?_
  refine k0_putr (y := 268) (x := 206) (i := 85) jc_12 jk_206 (Nat.le_of_ble_eq_true rfl) (Nat.le_of_ble_eq_true rfl) (by decide +kernel) (Nat.le_of_ble_eq_true rfl) (fun _ => ⟨rfl, rfl⟩) jw_1290 ⟨rfl, rfl⟩ dX12_init_1375 ?_
  refine k0_aload dX12_init_1378 0 rfl ?_
  refine k0_iconst dX12_init_1379 ?_
  refine k0_nc (nx := 269) (ce := 62) (sl := 100613) (N := 3) jk_269 rfl (Nat.le_of_ble_eq_true rfl) ⟨Nat.le_of_ble_eq_true rfl, Nat.le_of_ble_eq_true rfl⟩ rfl dX12_init_1380 ?_
  refine k0_dup dX12_init_1382 ?_
  refine k0_iconst dX12_init_1383 ?_
  refine k0_bipush dX12_init_1384 (by decide) ?_
  refine k0_cast (x := 269) (j := 0) jk_269 (Nat.le_of_ble_eq_true rfl) ⟨by decide, by decide⟩ ⟨by decide, by decide⟩ rfl (by decide) dX12_init_1386 ?_
  refine k0_dup dX12_init_1387 ?_
  refine k0_iconst dX12_init_1388 ?_
  refine k0_bipush dX12_init_1389 (by decide) ?_
  refine k0_cast (x := 269) (j := 1) jk_269 (Nat.le_of_ble_eq_true rfl) ⟨by decide, by decide⟩ ⟨by decide, by decide⟩ rfl (by decide) dX12_init_1391 ?_
  refine k0_dup dX12_init_1392 ?_
  refine k0_iconst dX12_init_1393 ?_
  refine k0_bipush dX12_init_1394 (by decide) ?_
  refine k0_cast (x := 269) (j := 2) jk_269 (Nat.le_of_ble_eq_true rfl) ⟨by decide, by decide⟩ ⟨by decide, by decide⟩ rfl (by decide) dX12_init_1396 ?_
  refine k0_putr (y := 269) (x := 206) (i := 86) jc_12 jk_206 (Nat.le_of_ble_eq_true rfl) (Nat.le_of_ble_eq_true rfl) (by decide +kernel) (Nat.le_of_ble_eq_true rfl) (fun _ => ⟨rfl, rfl⟩) jw_1291 ⟨rfl, rfl⟩ dX12_init_1397 ?_
  refine k0_aload dX12_init_1400 0 rfl ?_
  refine k0_iconst dX12_init_1401 ?_
  refine k0_nc (nx := 270) (ce := 63) (sl := 100616) (N := 4) jk_270 rfl (Nat.le_of_ble_eq_true rfl) ⟨Nat.le_of_ble_eq_true rfl, Nat.le_of_ble_eq_true rfl⟩ rfl dX12_init_1402 ?_
  refine k0_dup dX12_init_1404 ?_
  refine k0_iconst dX12_init_1405 ?_
  refine k0_bipush dX12_init_1406 (by decide) ?_
  refine k0_cast (x := 270) (j := 0) jk_270 (Nat.le_of_ble_eq_true rfl) ⟨by decide, by decide⟩ ⟨by decide, by decide⟩ rfl (by decide) dX12_init_1408 ?_
  refine k0_dup dX12_init_1409 ?_
  refine k0_iconst dX12_init_1410 ?_
  refine k0_bipush dX12_init_1411 (by decide) ?_
  refine k0_cast (x := 270) (j := 1) jk_270 (Nat.le_of_ble_eq_true rfl) ⟨by decide, by decide⟩ ⟨by decide, by decide⟩ rfl (by decide) dX12_init_1413 ?_
  refine k0_dup dX12_init_1414 ?_
  refine k0_iconst dX12_init_1415 ?_
  refine k0_bipush dX12_init_1416 (by decide) ?_
  refine k0_cast (x := 270) (j := 2) jk_270 (Nat.le_of_ble_eq_true rfl) ⟨by decide, by decide⟩ ⟨by decide, by decide⟩ rfl (by decide) dX12_init_1418 ?_
  refine k0_dup dX12_init_1419 ?_
  refine k0_iconst dX12_init_1420 ?_
  refine k0_bipush dX12_init_1421 (by decide) ?_
  refine k0_cast (x := 270) (j := 3) jk_270 (Nat.le_of_ble_eq_true rfl) ⟨by decide, by decide⟩ ⟨by decide, by decide⟩ rfl (by decide) dX12_init_1423 ?_
  refine k0_putr (y := 270) (x := 206) (i := 87) jc_12 jk_206 (Nat.le_of_ble_eq_true rfl) (Nat.le_of_ble_eq_true rfl) (by decide +kernel) (Nat.le_of_ble_eq_true rfl) (fun _ => ⟨rfl, rfl⟩) jw_1292 ⟨rfl, rfl⟩ dX12_init_1424 ?_
  refine k0_aload dX12_init_1427 0 rfl ?_
  refine k0_iconst dX12_init_1428 ?_
  refine k0_nc (nx := 271) (ce := 64) (sl := 100620) (N := 5) jk_271 rfl (Nat.le_of_ble_eq_true rfl) ⟨Nat.le_of_ble_eq_true rfl, Nat.le_of_ble_eq_true rfl⟩ rfl dX12_init_1429 ?_
  refine k0_dup dX12_init_1431 ?_
  refine k0_iconst dX12_init_1432 ?_
  refine k0_bipush dX12_init_1433 (by decide) ?_
  refine k0_cast (x := 271) (j := 0) jk_271 (Nat.le_of_ble_eq_true rfl) ⟨by decide, by decide⟩ ⟨by decide, by decide⟩ rfl (by decide) dX12_init_1435 ?_
  refine k0_dup dX12_init_1436 ?_
  refine k0_iconst dX12_init_1437 ?_
  refine k0_bipush dX12_init_1438 (by decide) ?_
  refine k0_cast (x := 271) (j := 1) jk_271 (Nat.le_of_ble_eq_true rfl) ⟨by decide, by decide⟩ ⟨by decide, by decide⟩ rfl (by decide) dX12_init_1440 ?_
  refine k0_dup dX12_init_1441 ?_
  refine k0_iconst dX12_init_1442 ?_
  refine k0_bipush dX12_init_1443 (by decide) ?_
  refine k0_cast (x := 271) (j := 2) jk_271 (Nat.le_of_ble_eq_true rfl) ⟨by decide, by decide⟩ ⟨by decide, by decide⟩ rfl (by decide) dX12_init_1445 ?_
  refine k0_dup dX12_init_1446 ?_
  refine k0_iconst dX12_init_1447 ?_
  refine k0_bipush dX12_init_1448 (by decide) ?_
  refine k0_cast (x := 271) (j := 3) jk_271 (Nat.le_of_ble_eq_true rfl) ⟨by decide, by decide⟩ ⟨by decide, by decide⟩ rfl (by decide) dX12_init_1450 ?_
  refine k0_dup dX12_init_1451 ?_
  refine k0_iconst dX12_init_1452 ?_
  refine k0_bipush dX12_init_1453 (by decide) ?_
  refine k0_cast (x := 271) (j := 4) jk_271 (Nat.le_of_ble_eq_true rfl) ⟨by decide, by decide⟩ ⟨by decide, by decide⟩ rfl (by decide) dX12_init_1455 ?_
  refine k0_putr (y := 271) (x := 206) (i := 88) jc_12 jk_206 (Nat.le_of_ble_eq_true rfl) (Nat.le_of_ble_eq_true rfl) (by decide +kernel) (Nat.le_of_ble_eq_true rfl) (fun _ => ⟨rfl, rfl⟩) jw_1293 ⟨rfl, rfl⟩ dX12_init_1456 ?_
  exact k
def k0_X12m9 (σ : jl_Mm) : jl_Mm := (k0_ml [(206, 94, ((277 : Nat) : Int)), (277, 5, 114), (277, 4, 101), (277, 3, 98), (277, 2, 109), (277, 1, 117), (277, 0, 110), (206, 93, ((276 : Nat) : Int)), (276, 4, 116), (276, 3, 115), (276, 2, 117), (276, 1, 114), (276, 0, 116), (206, 92, ((275 : Nat) : Int)), (275, 3, 100), (275, 2, 108), (275, 1, 111), (275, 0, 116), (206, 91, ((274 : Nat) : Int)), (274, 4, 116), (274, 3, 102), (274, 2, 97), (274, 1, 114), (274, 0, 100), (206, 90, ((273 : Nat) : Int)), (273, 3, 114), (273, 2, 97), (273, 1, 101), (273, 0, 110), (206, 89, ((272 : Nat) : Int)), (272, 5, 115), (272, 4, 101), (272, 3, 104), (272, 2, 99), (272, 1, 110), (272, 0, 105)] σ)
set_option maxRecDepth 20000 in
set_option maxHeartbeats 4000000 in
theorem k0_X12s9 {G0 : jl_GC} {σ : jl_Mm} {o : jl_O} (k : k0_J G0 207 jM_X12_init (k0_E G0 jM_X12_init 207 286) 278 71 100655 1653 [(0, .inl 206)] [] (k0_X12m9 σ) o) : k0_J G0 207 jM_X12_init (k0_E G0 jM_X12_init 207 286) 272 65 100625 1459 [(0, .inl 206)] [] σ o := by
  refine k0_aload dX12_init_1459 0 rfl ?_
  refine k0_bipush dX12_init_1460 (by decide) ?_
  refine k0_nc (nx := 272) (ce := 65) (sl := 100625) (N := 6) jk_272 rfl (Nat.le_of_ble_eq_true rfl) ⟨Nat.le_of_ble_eq_true rfl, Nat.le_of_ble_eq_true rfl⟩ rfl dX12_init_1462 ?_
  refine k0_dup dX12_init_1464 ?_
  refine k0_iconst dX12_init_1465 ?_
  refine k0_bipush dX12_init_1466 (by decide) ?_
  refine k0_cast (x := 272) (j := 0) jk_272 (Nat.le_of_ble_eq_true rfl) ⟨by decide, by decide⟩ ⟨by decide, by decide⟩ rfl (by decide) dX12_init_1468 ?_
  refine k0_dup dX12_init_1469 ?_
  refine k0_iconst dX12_init_1470 ?_
  refine k0_bipush dX12_init_1471 (by decide) ?_
  refine k0_cast (x := 272) (j := 1) jk_272 (Nat.le_of_ble_eq_true rfl) ⟨by decide, by decide⟩ ⟨by decide, by decide⟩ rfl (by decide) dX12_init_1473 ?_
  refine k0_dup dX12_init_1474 ?_
  refine k0_iconst dX12_init_1475 ?_
  refine k0_bipush dX12_init_1476 (by decide) ?_
  refine k0_cast (x := 272) (j := 2) jk_272 (Nat.le_of_ble_eq_true rfl) ⟨by decide, by decide⟩ ⟨by decide, by decide⟩ rfl (by decide) dX12_init_1478 ?_
  refine k0_dup dX12_init_1479 ?_
  refine k0_iconst dX12_init_1480 ?_
  refine k0_bipush dX12_init_1481 (by decide) ?_
  refine k0_cast (x := 272) (j := 3) jk_272 (Nat.le_of_ble_eq_true rfl) ⟨by decide, by decide⟩ ⟨by decide, by decide⟩ rfl (by decide) dX12_init_1483 ?_
  refine k0_dup dX12_init_1484 ?_
  refine k0_iconst dX12_init_1485 ?_
  refine k0_bipush dX12_init_1486 (by decide) ?_
  refine k0_cast (x := 272) (j := 4) jk_272 (Nat.le_of_ble_eq_true rfl) ⟨by decide, by decide⟩ ⟨by decide, by decide⟩ rfl (by decide) dX12_init_1488 ?_
  refine k0_dup dX12_init_1489 ?_
  refine k0_iconst dX12_init_1490 ?_
  refine k0_bipush dX12_init_1491 (by decide) ?_
  refine k0_cast (x := 272) (j := 5) jk_272 (Nat.le_of_ble_eq_true rfl) ⟨by decide, by decide⟩ ⟨by decide, by decide⟩ rfl (by decide) dX12_init_1493 ?_
  refine k0_putr (y := 272) (x := 206) (i := 89) jc_12 jk_206 (Nat.le_of_ble_eq_true rfl) (Nat.le_of_ble_eq_true rfl) (by decide +kernel) (Nat.le_of_ble_eq_true rfl) (fun _ => ⟨rfl, rfl⟩) jw_1294 ⟨rfl, rfl⟩ dX12_init_1494 ?_
  refine k0_aload dX12_init_1497 0 rfl ?_
  refine k0_iconst dX12_init_1498 ?_
  refine k0_nc (nx := 273) (ce := 66) (sl := 100631) (N := 4) jk_273 rfl (Nat.le_of_ble_eq_true rfl) ⟨Nat.le_of_ble_eq_true rfl, Nat.le_of_ble_eq_true rfl⟩ rfl dX12_init_1499 ?_
  refine k0_dup dX12_init_1501 ?_
  refine k0_iconst dX12_init_1502 ?_
  refine k0_bipush dX12_init_1503 (by decide) ?_
  refine k0_cast (x := 273) (j := 0) jk_273 (Nat.le_of_ble_eq_true rfl) ⟨by decide, by decide⟩ ⟨by decide, by decide⟩ rfl (by decide) dX12_init_1505 ?_
  refine k0_dup dX12_init_1506 ?_
  refine k0_iconst dX12_init_1507 ?_
  refine k0_bipush dX12_init_1508 (by decide) ?_
  refine k0_cast (x := 273) (j := 1) jk_273 (Nat.le_of_ble_eq_true rfl) ⟨by decide, by decide⟩ ⟨by decide, by decide⟩ rfl (by decide) dX12_init_1510 ?_
  refine k0_dup dX12_init_1511 ?_
  refine k0_iconst dX12_init_1512 ?_
  refine k0_bipush dX12_init_1513 (by decide) ?_
  refine k0_cast (x := 273) (j := 2) jk_273 (Nat.le_of_ble_eq_true rfl) ⟨by decide, by decide⟩ ⟨by decide, by decide⟩ rfl (by decide) dX12_init_1515 ?_
  refine k0_dup dX12_init_1516 ?_
  refine k0_iconst dX12_init_1517 ?_
  refine k0_bipush dX12_init_1518 (by decide) ?_
  refine k0_cast (x := 273) (j := 3) jk_273 (Nat.le_of_ble_eq_true rfl) ⟨by decide, by decide⟩ ⟨by decide, by decide⟩ rfl (by decide) dX12_init_1520 ?_
  refine k0_putr (y := 273) (x := 206) (i := 90) jc_12 jk_206 (Nat.le_of_ble_eq_true rfl) (Nat.le_of_ble_eq_true rfl) (by decide +kernel) (Nat.le_of_ble_eq_true rfl) (fun _ => ⟨rfl, rfl⟩) jw_1295 ⟨rfl, rfl⟩ dX12_init_1521 ?_
  refine k0_aload dX12_init_1524 0 rfl ?_
  refine k0_iconst dX12_init_1525 ?_
  refine k0_nc (nx := 274) (ce := 67) (sl := 100635) (N := 5) jk_274 rfl (Nat.le_of_ble_eq_true rfl) ⟨Nat.le_of_ble_eq_true rfl, Nat.le_of_ble_eq_true rfl⟩ rfl dX12_init_1526 ?_
  refine k0_dup dX12_init_1528 ?_
  refine k0_iconst dX12_init_1529 ?_
  refine k0_bipush dX12_init_1530 (by decide) ?_
  refine k0_cast (x := 274) (j := 0) jk_274 (Nat.le_of_ble_eq_true rfl) ⟨by decide, by decide⟩ ⟨by decide, by decide⟩ rfl (by decide) dX12_init_1532 ?_
  refine k0_dup dX12_init_1533 ?_
  refine k0_iconst dX12_init_1534 ?_
  refine k0_bipush dX12_init_1535 (by decide) ?_
  refine k0_cast (x := 274) (j := 1) jk_274 (Nat.le_of_ble_eq_true rfl) ⟨by decide, by decide⟩ ⟨by decide, by decide⟩ rfl (by decide) dX12_init_1537 ?_
  refine k0_dup dX12_init_1538 ?_
  refine k0_iconst dX12_init_1539 ?_
  refine k0_bipush dX12_init_1540 (by decide) ?_
  refine k0_cast (x := 274) (j := 2) jk_274 (Nat.le_of_ble_eq_true rfl) ⟨by decide, by decide⟩ ⟨by decide, by decide⟩ rfl (by decide) dX12_init_1542 ?_
  refine k0_dup dX12_init_1543 ?_
  refine k0_iconst dX12_init_1544 ?_
  refine k0_bipush dX12_init_1545 (by decide) ?_
  refine k0_cast (x := 274) (j := 3) jk_274 (Nat.le_of_ble_eq_true rfl) ⟨by decide, by decide⟩ ⟨by decide, by decide⟩ rfl (by decide) dX12_init_1547 ?_
  refine k0_dup dX12_init_1548 ?_
  refine k0_iconst dX12_init_1549 ?_
  refine k0_bipush dX12_init_1550 (by decide) ?_
  refine k0_cast (x := 274) (j := 4) jk_274 (Nat.le_of_ble_eq_true rfl) ⟨by decide, by decide⟩ ⟨by decide, by decide⟩ rfl (by decide) dX12_init_1552 ?_
  refine k0_putr (y := 274) (x := 206) (i := 91) jc_12 jk_206 (Nat.le_of_ble_eq_true rfl) (Nat.le_of_ble_eq_true rfl) (by decide +kernel) (Nat.le_of_ble_eq_true rfl) (fun _ => ⟨rfl, rfl⟩) jw_1296 ⟨rfl, rfl⟩ dX12_init_1553 ?_
  refine k0_aload dX12_init_1556 0 rfl ?_
  refine k0_iconst dX12_init_1557 ?_
  refine k0_nc (nx := 275) (ce := 68) (sl := 100640) (N := 4) jk_275 rfl (Nat.le_of_ble_eq_true rfl) ⟨Nat.le_of_ble_eq_true rfl, Nat.le_of_ble_eq_true rfl⟩ rfl dX12_init_1558 ?_
  refine k0_dup dX12_init_1560 ?_
  refine k0_iconst dX12_init_1561 ?_
  refine k0_bipush dX12_init_1562 (by decide) ?_
  refine k0_cast (x := 275) (j := 0) jk_275 (Nat.le_of_ble_eq_true rfl) ⟨by decide, by decide⟩ ⟨by decide, by decide⟩ rfl (by decide) dX12_init_1564 ?_
  refine k0_dup dX12_init_1565 ?_
  refine k0_iconst dX12_init_1566 ?_
  refine k0_bipush dX12_init_1567 (by decide) ?_
  refine k0_cast (x := 275) (j := 1) jk_275 (Nat.le_of_ble_eq_true rfl) ⟨by decide, by decide⟩ ⟨by decide, by decide⟩ rfl (by decide) dX12_init_1569 ?_
  refine k0_dup dX12_init_1570 ?_
  refine k0_iconst dX12_init_1571 ?_
  refine k0_bipush dX12_init_1572 (by decide) ?_
  refine k0_cast (x := 275) (j := 2) jk_275 (Nat.le_of_ble_eq_true rfl) ⟨by decide, by decide⟩ ⟨by decide, by decide⟩ rfl (by decide) dX12_init_1574 ?_
  refine k0_dup dX12_init_1575 ?_
  refine k0_iconst dX12_init_1576 ?_
  refine k0_bipush dX12_init_1577 (by decide) ?_
  refine k0_cast (x := 275) (j := 3) jk_275 (Nat.le_of_ble_eq_true rfl) ⟨by decide, by decide⟩ ⟨by decide, by decide⟩ rfl (by decide) dX12_init_1579 ?_
  refine k0_putr (y := 275) (x := 206) (i := 92) jc_12 jk_206 (Nat.le_of_ble_eq_true rfl) (Nat.le_of_ble_eq_true rfl) (by decide +kernel) (Nat.le_of_ble_eq_true rfl) (fun _ => ⟨rfl, rfl⟩) jw_1297 ⟨rfl, rfl⟩ dX12_init_1580 ?_
  refine k0_aload dX12_init_1583 0 rfl ?_
  refine k0_iconst dX12_init_1584 ?_
  refine k0_nc (nx := 276) (ce := 69) (sl := 100644) (N := 5) jk_276 rfl (Nat.le_of_ble_eq_true rfl) ⟨Nat.le_of_ble_eq_true rfl, Nat.le_of_ble_eq_true rfl⟩ rfl dX12_init_1585 ?_
  refine k0_dup dX12_init_1587 ?_
  refine k0_iconst dX12_init_1588 ?_
  refine k0_bipush dX12_init_1589 (by decide) ?_
  refine k0_cast (x := 276) (j := 0) jk_276 (Nat.le_of_ble_eq_true rfl) ⟨by decide, by decide⟩ ⟨by decide, by decide⟩ rfl (by decide) dX12_init_1591 ?_
  refine k0_dup dX12_init_1592 ?_
  refine k0_iconst dX12_init_1593 ?_
  refine k0_bipush dX12_init_1594 (by decide) ?_
  refine k0_cast (x := 276) (j := 1) jk_276 (Nat.le_of_ble_eq_true rfl) ⟨by decide, by decide⟩ ⟨by decide, by decide⟩ rfl (by decide) dX12_init_1596 ?_
  refine k0_dup dX12_init_1597 ?_
  refine k0_iconst dX12_init_1598 ?_
  refine k0_bipush dX12_init_1599 (by decide) ?_
  refine k0_cast (x := 276) (j := 2) jk_276 (Nat.le_of_ble_eq_true rfl) ⟨by decide, by decide⟩ ⟨by decide, by decide⟩ rfl (by decide) dX12_init_1601 ?_
  refine k0_dup dX12_init_1602 ?_
  refine k0_iconst dX12_init_1603 ?_
  refine k0_bipush dX12_init_1604 (by decide) ?_
  refine k0_cast (x := 276) (j := 3) jk_276 (Nat.le_of_ble_eq_true rfl) ⟨by decide, by decide⟩ ⟨by decide, by decide⟩ rfl (by decide) dX12_init_1606 ?_
  refine k0_dup dX12_init_1607 ?_
  refine k0_iconst dX12_init_1608 ?_
  refine k0_bipush dX12_init_1609 (by decide) ?_
  refine k0_cast (x := 276) (j := 4) jk_276 (Nat.le_of_ble_eq_true rfl) ⟨by decide, by decide⟩ ⟨by decide, by decide⟩ rfl (by decide) dX12_init_1611 ?_
  refine k0_putr (y := 276) (x := 206) (i := 93) jc_12 jk_206 (Nat.le_of_ble_eq_true rfl) (Nat.le_of_ble_eq_true rfl) (by decide +kernel) (Nat.le_of_ble_eq_true rfl) (fun _ => ⟨rfl, rfl⟩) jw_1298 ⟨rfl, rfl⟩ dX12_init_1612 ?_
  refine k0_aload dX12_init_1615 0 rfl ?_
  refine k0_bipush dX12_init_1616 (by decide) ?_
  refine k0_nc (nx := 277) (ce := 70) (sl := 100649) (N := 6) jk_277 rfl (Nat.le_of_ble_eq_true rfl) ⟨Nat.le_of_ble_eq_true rfl, Nat.le_of_ble_eq_true rfl⟩ rfl dX12_init_1618 ?_
  refine k0_dup dX12_init_1620 ?_
  refine k0_iconst dX12_init_1621 ?_
  refine k0_bipush dX12_init_1622 (by decide) ?_
  refine k0_cast (x := 277) (j := 0) jk_277 (Nat.le_of_ble_eq_true rfl) ⟨by decide, by decide⟩ ⟨by decide, by decide⟩ rfl (by decide) dX12_init_1624 ?_
  refine k0_dup dX12_init_1625 ?_
  refine k0_iconst dX12_init_1626 ?_
  refine k0_bipush dX12_init_1627 (by decide) ?_
  refine k0_cast (x := 277) (j := 1) jk_277 (Nat.le_of_ble_eq_true rfl) ⟨by decide, by decide⟩ ⟨by decide, by decide⟩ rfl (by decide) dX12_init_1629 ?_
  refine k0_dup dX12_init_1630 ?_
  refine k0_iconst dX12_init_1631 ?_
  refine k0_bipush dX12_init_1632 (by decide) ?_
  refine k0_cast (x := 277) (j := 2) jk_277 (Nat.le_of_ble_eq_true rfl) ⟨by decide, by decide⟩ ⟨by decide, by decide⟩ rfl (by decide) dX12_init_1634 ?_
  refine k0_dup dX12_init_1635 ?_
  refine k0_iconst dX12_init_1636 ?_
  refine k0_bipush dX12_init_1637 (by decide) ?_
  refine k0_cast (x := 277) (j := 3) jk_277 (Nat.le_of_ble_eq_true rfl) ⟨by decide, by decide⟩ ⟨by decide, by decide⟩ rfl (by decide) dX12_init_1639 ?_
  refine k0_dup dX12_init_1640 ?_
  refine k0_iconst dX12_init_1641 ?_
  refine k0_bipush dX12_init_1642 (by decide) ?_
  refine k0_cast (x := 277) (j := 4) jk_277 (Nat.le_of_ble_eq_true rfl) ⟨by decide, by decide⟩ ⟨by decide, by decide⟩ rfl (by decide) dX12_init_1644 ?_
  refine k0_dup dX12_init_1645 ?_
  refine k0_iconst dX12_init_1646 ?_
  refine k0_bipush dX12_init_1647 (by decide) ?_
  refine k0_cast (x := 277) (j := 5) jk_277 (Nat.le_of_ble_eq_true rfl) ⟨by decide, by decide⟩ ⟨by decide, by decide⟩ rfl (by decide) dX12_init_1649 ?_
  refine k0_putr (y := 277) (x := 206) (i := 94) jc_12 jk_206 (Nat.le_of_ble_eq_true rfl) (Nat.le_of_ble_eq_true rfl) (by decide +kernel) (Nat.le_of_ble_eq_true rfl) (fun _ => ⟨rfl, rfl⟩) jw_1299 ⟨rfl, rfl⟩ dX12_init_1650 ?_
  exact k
def k0_X12m10 (σ : jl_Mm) : jl_Mm := (k0_ml [(206, 109, ((285 : Nat) : Int)), (206, 105, ((284 : Nat) : Int)), (206, 101, ((283 : Nat) : Int)), (206, 99, ((282 : Nat) : Int)), (206, 98, ((281 : Nat) : Int)), (281, 3, 119), (281, 2, 111), (281, 1, 108), (281, 0, 103), (206, 97, ((280 : Nat) : Int)), (280, 2, 120), (280, 1, 97), (280, 0, 119), (206, 96, ((279 : Nat) : Int)), (279, 3, 100), (279, 2, 108), (279, 1, 101), (279, 0, 104), (206, 95, ((278 : Nat) : Int)), (278, 2, 116), (278, 1, 105), (278, 0, 108)] σ)
set_option maxRecDepth 20000 in
set_option maxHeartbeats 4000000 in
theorem k0_X12s10 {G0 : jl_GC} {σ : jl_Mm} {o : jl_O} (k : k0_J G0 207 jM_X12_init (k0_E G0 jM_X12_init 207 286) 286 79 105796 1786 [(0, .inl 206)] [] (k0_X12m10 σ) o) : k0_J G0 207 jM_X12_init (k0_E G0 jM_X12_init 207 286) 278 71 100655 1653 [(0, .inl 206)] [] σ o := by
  refine k0_aload dX12_init_1653 0 rfl ?_
  refine k0_iconst dX12_init_1654 ?_
  refine k0_nc (nx := 278) (ce := 71) (sl := 100655) (N := 3) jk_278 rfl (Nat.le_of_ble_eq_true rfl) ⟨Nat.le_of_ble_eq_true rfl, Nat.le_of_ble_eq_true rfl⟩ rfl dX12_init_1655 ?_
  refine k0_dup dX12_init_1657 ?_
  refine k0_iconst dX12_init_1658 ?_
  refine k0_bipush dX12_init_1659 (by decide) ?_
  refine k0_cast (x := 278) (j := 0) jk_278 (Nat.le_of_ble_eq_true rfl) ⟨by decide, by decide⟩ ⟨by decide, by decide⟩ rfl (by decide) dX12_init_1661 ?_
  refine k0_dup dX12_init_1662 ?_
  refine k0_iconst dX12_init_1663 ?_
  refine k0_bipush dX12_init_1664 (by decide) ?_
  refine k0_cast (x := 278) (j := 1) jk_278 (Nat.le_of_ble_eq_true rfl) ⟨by decide, by decide⟩ ⟨by decide, by decide⟩ rfl (by decide) dX12_init_1666 ?_
  refine k0_dup dX12_init_1667 ?_
  refine k0_iconst dX12_init_1668 ?_
  refine k0_bipush dX12_init_1669 (by decide) ?_
  refine k0_cast (x := 278) (j := 2) jk_278 (Nat.le_of_ble_eq_true rfl) ⟨by decide, by decide⟩ ⟨by decide, by decide⟩ rfl (by decide) dX12_init_1671 ?_
  refine k0_putr (y := 278) (x := 206) (i := 95) jc_12 jk_206 (Nat.le_of_ble_eq_true rfl) (Nat.le_of_ble_eq_true rfl) (by decide +kernel) (Nat.le_of_ble_eq_true rfl) (fun _ => ⟨rfl, rfl⟩) jw_1300 ⟨rfl, rfl⟩ dX12_init_1672 ?_
  refine k0_aload dX12_init_1675 0 rfl ?_
  refine k0_iconst dX12_init_1676 ?_
  refine k0_nc (nx := 279) (ce := 72) (sl := 100658) (N := 4) jk_279 rfl (Nat.le_of_ble_eq_true rfl) ⟨Nat.le_of_ble_eq_true rfl, Nat.le_of_ble_eq_true rfl⟩ rfl dX12_init_1677 ?_
  refine k0_dup dX12_init_1679 ?_
  refine k0_iconst dX12_init_1680 ?_
  refine k0_bipush dX12_init_1681 (by decide) ?_
  refine k0_cast (x := 279) (j := 0) jk_279 (Nat.le_of_ble_eq_true rfl) ⟨by decide, by decide⟩ ⟨by decide, by decide⟩ rfl (by decide) dX12_init_1683 ?_
  refine k0_dup dX12_init_1684 ?_
  refine k0_iconst dX12_init_1685 ?_
  refine k0_bipush dX12_init_1686 (by decide) ?_
  refine k0_cast (x := 279) (j := 1) jk_279 (Nat.le_of_ble_eq_true rfl) ⟨by decide, by decide⟩ ⟨by decide, by decide⟩ rfl (by decide) dX12_init_1688 ?_
  refine k0_dup dX12_init_1689 ?_
  refine k0_iconst dX12_init_1690 ?_
  refine k0_bipush dX12_init_1691 (by decide) ?_
  refine k0_cast (x := 279) (j := 2) jk_279 (Nat.le_of_ble_eq_true rfl) ⟨by decide, by decide⟩ ⟨by decide, by decide⟩ rfl (by decide) dX12_init_1693 ?_
  refine k0_dup dX12_init_1694 ?_
  refine k0_iconst dX12_init_1695 ?_
  refine k0_bipush dX12_init_1696 (by decide) ?_
  refine k0_cast (x := 279) (j := 3) jk_279 (Nat.le_of_ble_eq_true rfl) ⟨by decide, by decide⟩ ⟨by decide, by decide⟩ rfl (by decide) dX12_init_1698 ?_
  refine k0_putr (y := 279) (x := 206) (i := 96) jc_12 jk_206 (Nat.le_of_ble_eq_true rfl) (Nat.le_of_ble_eq_true rfl) (by decide +kernel) (Nat.le_of_ble_eq_true rfl) (fun _ => ⟨rfl, rfl⟩) jw_1301 ⟨rfl, rfl⟩ dX12_init_1699 ?_
  refine k0_aload dX12_init_1702 0 rfl ?_
  refine k0_iconst dX12_init_1703 ?_
  refine k0_nc (nx := 280) (ce := 73) (sl := 100662) (N := 3) jk_280 rfl (Nat.le_of_ble_eq_true rfl) ⟨Nat.le_of_ble_eq_true rfl, Nat.le_of_ble_eq_true rfl⟩ rfl dX12_init_1704 ?_
  refine k0_dup dX12_init_1706 ?_
  refine k0_iconst dX12_init_1707 ?_
  refine k0_bipush dX12_init_1708 (by decide) ?_
  refine k0_cast (x := 280) (j := 0) jk_280 (Nat.le_of_ble_eq_true rfl) ⟨by decide, by decide⟩ ⟨by decide, by decide⟩ rfl (by decide) dX12_init_1710 ?_
  refine k0_dup dX12_init_1711 ?_
  refine k0_iconst dX12_init_1712 ?_
  refine k0_bipush dX12_init_1713 (by decide) ?_
  refine k0_cast (x := 280) (j := 1) jk_280 (Nat.le_of_ble_eq_true rfl) ⟨by decide, by decide⟩ ⟨by decide, by decide⟩ rfl (by decide) dX12_init_1715 ?_
  refine k0_dup dX12_init_1716 ?_
  refine k0_iconst dX12_init_1717 ?_
  refine k0_bipush dX12_init_1718 (by decide) ?_
  refine k0_cast (x := 280) (j := 2) jk_280 (Nat.le_of_ble_eq_true rfl) ⟨by decide, by decide⟩ ⟨by decide, by decide⟩ rfl (by decide) dX12_init_1720 ?_
  refine k0_putr (y := 280) (x := 206) (i := 97) jc_12 jk_206 (Nat.le_of_ble_eq_true rfl) (Nat.le_of_ble_eq_true rfl) (by decide +kernel) (Nat.le_of_ble_eq_true rfl) (fun _ => ⟨rfl, rfl⟩) jw_1302 ⟨rfl, rfl⟩ dX12_init_1721 ?_
  refine k0_aload dX12_init_1724 0 rfl ?_
  refine k0_iconst dX12_init_1725 ?_
  refine k0_nc (nx := 281) (ce := 74) (sl := 100665) (N := 4) jk_281 rfl (Nat.le_of_ble_eq_true rfl) ⟨Nat.le_of_ble_eq_true rfl, Nat.le_of_ble_eq_true rfl⟩ rfl dX12_init_1726 ?_
  refine k0_dup dX12_init_1728 ?_
  refine k0_iconst dX12_init_1729 ?_
  refine k0_bipush dX12_init_1730 (by decide) ?_
  refine k0_cast (x := 281) (j := 0) jk_281 (Nat.le_of_ble_eq_true rfl) ⟨by decide, by decide⟩ ⟨by decide, by decide⟩ rfl (by decide) dX12_init_1732 ?_
  refine k0_dup dX12_init_1733 ?_
  refine k0_iconst dX12_init_1734 ?_
  refine k0_bipush dX12_init_1735 (by decide) ?_
  refine k0_cast (x := 281) (j := 1) jk_281 (Nat.le_of_ble_eq_true rfl) ⟨by decide, by decide⟩ ⟨by decide, by decide⟩ rfl (by decide) dX12_init_1737 ?_
  refine k0_dup dX12_init_1738 ?_
  refine k0_iconst dX12_init_1739 ?_
  refine k0_bipush dX12_init_1740 (by decide) ?_
  refine k0_cast (x := 281) (j := 2) jk_281 (Nat.le_of_ble_eq_true rfl) ⟨by decide, by decide⟩ ⟨by decide, by decide⟩ rfl (by decide) dX12_init_1742 ?_
  refine k0_dup dX12_init_1743 ?_
  refine k0_iconst dX12_init_1744 ?_
  refine k0_bipush dX12_init_1745 (by decide) ?_
  refine k0_cast (x := 281) (j := 3) jk_281 (Nat.le_of_ble_eq_true rfl) ⟨by decide, by decide⟩ ⟨by decide, by decide⟩ rfl (by decide) dX12_init_1747 ?_
  refine k0_putr (y := 281) (x := 206) (i := 98) jc_12 jk_206 (Nat.le_of_ble_eq_true rfl) (Nat.le_of_ble_eq_true rfl) (by decide +kernel) (Nat.le_of_ble_eq_true rfl) (fun _ => ⟨rfl, rfl⟩) jw_1303 ⟨rfl, rfl⟩ dX12_init_1748 ?_
  refine k0_aload dX12_init_1751 0 rfl ?_
  refine k0_sipush dX12_init_1752 (by decide) ?_
  refine k0_ni (nx := 282) (ce := 75) (sl := 100669) (N := 1700) jk_282 rfl (Nat.le_of_ble_eq_true rfl) ⟨Nat.le_of_ble_eq_true rfl, Nat.le_of_ble_eq_true rfl⟩ rfl dX12_init_1755 ?_
  refine k0_putr (y := 282) (x := 206) (i := 99) jc_12 jk_206 (Nat.le_of_ble_eq_true rfl) (Nat.le_of_ble_eq_true rfl) (by decide +kernel) (Nat.le_of_ble_eq_true rfl) (fun _ => ⟨rfl, rfl⟩) jw_1304 ⟨rfl, rfl⟩ dX12_init_1757 ?_
  refine k0_aload dX12_init_1760 0 rfl ?_
  refine k0_sipush dX12_init_1761 (by decide) ?_
  refine k0_ni (nx := 283) (ce := 76) (sl := 102369) (N := 1700) jk_283 rfl (Nat.le_of_ble_eq_true rfl) ⟨Nat.le_of_ble_eq_true rfl, Nat.le_of_ble_eq_true rfl⟩ rfl dX12_init_1764 ?_
  refine k0_putr (y := 283) (x := 206) (i := 101) jc_12 jk_206 (Nat.le_of_ble_eq_true rfl) (Nat.le_of_ble_eq_true rfl) (by decide +kernel) (Nat.le_of_ble_eq_true rfl) (fun _ => ⟨rfl, rfl⟩) jw_1306 ⟨rfl, rfl⟩ dX12_init_1766 ?_
  refine k0_aload dX12_init_1769 0 rfl ?_
  refine k0_sipush dX12_init_1770 (by decide) ?_
  refine k0_nj (nx := 284) (ce := 77) (sl := 104069) (N := 1700) jk_284 rfl (Nat.le_of_ble_eq_true rfl) ⟨Nat.le_of_ble_eq_true rfl, Nat.le_of_ble_eq_true rfl⟩ rfl dX12_init_1773 ?_
  refine k0_putr (y := 284) (x := 206) (i := 105) jc_12 jk_206 (Nat.le_of_ble_eq_true rfl) (Nat.le_of_ble_eq_true rfl) (by decide +kernel) (Nat.le_of_ble_eq_true rfl) (fun _ => ⟨rfl, rfl⟩) jw_1310 ⟨rfl, rfl⟩ dX12_init_1775 ?_
  refine k0_aload dX12_init_1778 0 rfl ?_
  refine k0_bipush dX12_init_1779 (by decide) ?_
  refine k0_ni (nx := 285) (ce := 78) (sl := 105769) (N := 27) jk_285 rfl (Nat.le_of_ble_eq_true rfl) ⟨Nat.le_of_ble_eq_true rfl, Nat.le_of_ble_eq_true rfl⟩ rfl dX12_init_1781 ?_
  refine k0_putr (y := 285) (x := 206) (i := 109) jc_12 jk_206 (Nat.le_of_ble_eq_true rfl) (Nat.le_of_ble_eq_true rfl) (by decide +kernel) (Nat.le_of_ble_eq_true rfl) (fun _ => ⟨rfl, rfl⟩) jw_1314 ⟨rfl, rfl⟩ dX12_init_1783 ?_
  exact k
def k0_X12m (σ : jl_Mm) : jl_Mm := (k0_X12m10 (k0_X12m9 (k0_X12m8 (k0_X12m7 (k0_X12m6 (k0_X12m5 (k0_X12m4 (k0_X12m3 (k0_X12m2 (k0_X12m1 σ))))))))))
set_option maxRecDepth 20000 in
set_option maxHeartbeats 4000000 in
theorem k0_cX12 (G : jl_GC) (σ : jl_Mm) : k0_Ct G jM_X12_init [jl_vr G 206] 207 286 σ (k0_X12m σ) := by
  refine k0_met (ls := [(0, .inl 206)]) (plainFor_of_name rfl) (Nat.le_of_ble_eq_true rfl) rfl ?_
  refine k0_X12s1 ?_
  refine k0_X12s2 ?_
  refine k0_X12s3 ?_
  refine k0_X12s4 ?_
  refine k0_X12s5 ?_
  refine k0_X12s6 ?_
  refine k0_X12s7 ?_
  refine k0_X12s8 ?_
  refine k0_X12s9 ?_
  refine k0_X12s10 ?_
  exact k0_ret rfl dX12_init_1786
