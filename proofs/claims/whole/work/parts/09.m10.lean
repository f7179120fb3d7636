def jf_X12_change_B23 (s0 : jl_Mm) : jl_O :=
  some ((-1 : Int), s0)
set_option maxRecDepth 20000 in
set_option maxHeartbeats 2000000 in
theorem jj_X12_change_B23 (G : jl_GC) (s0 : jl_Mm) : j2 G jM_X12_change 23 [] [] s0 (jf_X12_change_B23 s0) := by
  refine jr_iconst dX12_change_23 ?_
  exact jr_ret_i rfl (jl_nlit rfl) dX12_change_24
def jf_X12_change_B190 (k0 : Int) (s0 : jl_Mm) : jl_O :=
  some (k0, s0)
set_option maxRecDepth 20000 in
set_option maxHeartbeats 2000000 in
theorem jj_X12_change_B190 (G : jl_GC) (k0 : Int) (hk0 : jl_n3 k0) (s0 : jl_Mm) : j2 G jM_X12_change 190 [] [jl_vi k0] s0 (jf_X12_change_B190 k0 s0) := by
  exact jr_ret_i rfl hk0 dX12_change_190
def jf_X12_change_B154 (R55 : Int → Int → Int → Int → Int → Int → jl_Mm → jl_O) (R70 : Int → Int → Int → Int → Int → Int → Int → jl_Mm → jl_O) (l1 : Int) (l2 : Int) (l3 : Int) (l4 : Int) (l5 : Int) (l6 : Int) (l7 : Int) (s0 : jl_Mm) : jl_O :=
  R70 l1 l2 l3 l4 l5 l6 (jl_add l7 1) s0
set_option maxRecDepth 20000 in
set_option maxHeartbeats 2000000 in
theorem jj_X12_change_B154 (G : jl_GC) (R55 : Int → Int → Int → Int → Int → Int → jl_Mm → jl_O) (R70 : Int → Int → Int → Int → Int → Int → Int → jl_Mm → jl_O) (hR55 : ∀ (l1 : Int) (l2 : Int) (l3 : Int) (l4 : Int) (l5 : Int) (l6 : Int) (_hl1 : jl_n3 l1) (_hl2 : jl_n3 l2) (_hl3 : jl_n3 l3) (_hl4 : jl_n3 l4) (_hl5 : jl_n3 l5) (_hl6 : jl_n3 l6) (s0 : jl_Mm), j2 G jM_X12_change 55 [(0, jl_vr G 206), (1, jl_vi l1), (2, jl_vi l2), (3, jl_vi l3), (4, jl_vi l4), (5, jl_vi l5), (6, jl_vi l6)] [] s0 (R55 l1 l2 l3 l4 l5 l6 s0)) (hR70 : ∀ (l1 : Int) (l2 : Int) (l3 : Int) (l4 : Int) (l5 : Int) (l6 : Int) (l7 : Int) (_hl1 : jl_n3 l1) (_hl2 : jl_n3 l2) (_hl3 : jl_n3 l3) (_hl4 : jl_n3 l4) (_hl5 : jl_n3 l5) (_hl6 : jl_n3 l6) (_hl7 : jl_n3 l7) (s0 : jl_Mm), j2 G jM_X12_change 70 [(0, jl_vr G 206), (1, jl_vi l1), (2, jl_vi l2), (3, jl_vi l3), (4, jl_vi l4), (5, jl_vi l5), (6, jl_vi l6), (7, jl_vi l7)] [] s0 (R70 l1 l2 l3 l4 l5 l6 l7 s0)) (l1 : Int) (l2 : Int) (l3 : Int) (l4 : Int) (l5 : Int) (l6 : Int) (l7 : Int) (hl1 : jl_n3 l1) (hl2 : jl_n3 l2) (hl3 : jl_n3 l3) (hl4 : jl_n3 l4) (hl5 : jl_n3 l5) (hl6 : jl_n3 l6) (hl7 : jl_n3 l7) (s0 : jl_Mm) : j2 G jM_X12_change 154 [(0, jl_vr G 206), (1, jl_vi l1), (2, jl_vi l2), (3, jl_vi l3), (4, jl_vi l4), (5, jl_vi l5), (6, jl_vi l6), (7, jl_vi l7)] [] s0 (jf_X12_change_B154 R55 R70 l1 l2 l3 l4 l5 l6 l7 s0) := by
  refine jr_iinc (j := 7) (lv := [(7, jl_vi (jl_add l7 1)), (0, jl_vr G 206), (1, jl_vi l1), (2, jl_vi l2), (3, jl_vi l3), (4, jl_vi l4), (5, jl_vi l5), (6, jl_vi l6)]) dX12_change_154 rfl (Nat.le_of_ble_eq_true rfl) rfl ?_
  refine jr_goto (t := 70) dX12_change_157 (by decide) ?_
  refine jr_sub [1, 2, 3, 4, 5, 6, 7, 0] rfl ?_
  exact hR70 l1 l2 l3 l4 l5 l6 (jl_add l7 1) hl1 hl2 hl3 hl4 hl5 hl6 (jl_n3_to _) s0
def jf_X12_change_L70 (R55 : Int → Int → Int → Int → Int → Int → jl_Mm → jl_O) : Nat → Int → Int → Int → Int → Int → Int → Int → jl_Mm → jl_O
  | 0, _, _, _, _, _, _, _, _ => none
  | n + 1, l1, l2, l3, l4, l5, l6, l7, s0 =>
    jl_bd (jf_X12_personMany s0) fun r25 s26 => if r25 ≤ l7 then (R55 l1 l2 l3 l4 l5 (jl_add l6 1) s26) else (if 0 ≤ jl_add (2 : Int) l7 ∧ jl_add (2 : Int) l7 < ((24 : Nat) : Int) then if 0 ≤ jl_add (2 : Int) l6 ∧ jl_add (2 : Int) l6 < ((105 : Nat) : Int) then jl_lm (jl_up s26 249 (jl_add (2 : Int) l6).toNat (jl_g s26 252 (jl_add (2 : Int) l7).toNat)) fun s30 => if 0 ≤ jl_add (2 : Int) l6 ∧ jl_add (2 : Int) l6 < ((24 : Nat) : Int) then if 0 ≤ jl_add (2 : Int) l7 ∧ jl_add (2 : Int) l7 < ((105 : Nat) : Int) then jl_lm (jl_up s30 249 (jl_add (2 : Int) l7).toNat (jl_g s30 252 (jl_add (2 : Int) l6).toNat)) fun s33 => jl_bd (jf_X12_hoursGo l1 s33) fun r34 s35 => jl_bd (jf_X12_laysHeld s35) fun r36 s37 => jl_bd (jf_X12_bits r36 s37) fun r38 s39 => jl_bd (jf_X12_triesAnew s39) fun r40 s41 => if l5 < r38 then (jf_X12_change_B154 (R55) (jf_X12_change_L70 R55 n) l1 l2 l6 l7 r38 l6 l7 s41) else (jf_X12_change_B154 (R55) (jf_X12_change_L70 R55 n) l1 l2 l3 l4 l5 l6 l7 s41) else none else none else none else none)
set_option maxRecDepth 20000 in
set_option maxHeartbeats 2000000 in
theorem jj_X12_change_L70 (G : jl_GC) (R55 : Int → Int → Int → Int → Int → Int → jl_Mm → jl_O) (hR55 : ∀ (l1 : Int) (l2 : Int) (l3 : Int) (l4 : Int) (l5 : Int) (l6 : Int) (_hl1 : jl_n3 l1) (_hl2 : jl_n3 l2) (_hl3 : jl_n3 l3) (_hl4 : jl_n3 l4) (_hl5 : jl_n3 l5) (_hl6 : jl_n3 l6) (s0 : jl_Mm), j2 G jM_X12_change 55 [(0, jl_vr G 206), (1, jl_vi l1), (2, jl_vi l2), (3, jl_vi l3), (4, jl_vi l4), (5, jl_vi l5), (6, jl_vi l6)] [] s0 (R55 l1 l2 l3 l4 l5 l6 s0)) : ∀ (n : Nat) (l1 : Int) (l2 : Int) (l3 : Int) (l4 : Int) (l5 : Int) (l6 : Int) (l7 : Int) (hl1 : jl_n3 l1) (hl2 : jl_n3 l2) (hl3 : jl_n3 l3) (hl4 : jl_n3 l4) (hl5 : jl_n3 l5) (hl6 : jl_n3 l6) (hl7 : jl_n3 l7) (s0 : jl_Mm), j2 G jM_X12_change 70 [(0, jl_vr G 206), (1, jl_vi l1), (2, jl_vi l2), (3, jl_vi l3), (4, jl_vi l4), (5, jl_vi l5), (6, jl_vi l6), (7, jl_vi l7)] [] s0 (jf_X12_change_L70 R55 n l1 l2 l3 l4 l5 l6 l7 s0) := by
  intro n
  induction n with
  | zero =>
    intros
    exact jr_none
  | succ n ih =>
    intro l1 l2 l3 l4 l5 l6 l7 hl1 hl2 hl3 hl4 hl5 hl6 hl7 s0
    refine jr_iload dX12_change_70 7 rfl ?_
    refine jr_aload_n dX12_change_72 0 rfl ?_
    refine j2_callVi (As := []) dX12_change_73 (jt_X12_personMany G s0) jv_X12_personMany ⟨rfl, rfl, rfl⟩ jw_1747 jk_206 (by decide) (by decide) rfl ⟨Nat.le_of_ble_eq_true rfl, Nat.le_of_ble_eq_true rfl⟩ rfl (Nat.le_of_ble_eq_true rfl) (fun r25 s26 hr25 => ?_)
    refine jr_icmp_ge (t := 160) dX12_change_76 (by decide) hl7 hr25 (fun c27 => ?_) (fun c27 => ?_)
    · refine jr_iinc (j := 6) (lv := [(6, jl_vi (jl_add l6 1)), (0, jl_vr G 206), (1, jl_vi l1), (2, jl_vi l2), (3, jl_vi l3), (4, jl_vi l4), (5, jl_vi l5), (7, jl_vi l7)]) dX12_change_160 rfl (Nat.le_of_ble_eq_true rfl) rfl ?_
      refine jr_goto (t := 55) dX12_change_163 (by decide) ?_
      refine jr_sub [1, 2, 3, 4, 5, 6, 0] rfl ?_
      exact hR55 l1 l2 l3 l4 l5 (jl_add l6 1) hl1 hl2 hl3 hl4 hl5 (jl_n3_to _) s26
    · refine jr_aload_n dX12_change_79 0 rfl ?_
      refine jr_getk (i := 56) jc_12 jk_206 (by decide) (Nat.le_of_ble_eq_true rfl) jlk_206_56 jw_1261 dX12_change_80 ?_
      refine jr_iconst dX12_change_83 ?_
      refine jr_iload dX12_change_84 6 rfl ?_
      refine jr_iadd dX12_change_86 ?_
      refine jr_aload_n dX12_change_87 0 rfl ?_
      refine jr_getk (i := 64) jc_12 jk_206 (by decide) (Nat.le_of_ble_eq_true rfl) jlk_206_64 jw_1269 dX12_change_88 ?_
      refine jr_iconst dX12_change_91 ?_
      refine jr_iload dX12_change_92 7 rfl ?_
      refine jr_iadd dX12_change_94 ?_
      refine jr_grd (fun g28 => ?_)
      refine jr_iaload jk_252 (by decide) (jl_n3_to _) g28 dX12_change_95 ?_
      refine jr_grd (fun g29 => ?_)
      refine jr_iastore jk_249 (by decide) (jl_n3_to _) g29 dX12_change_96 ?_
      refine jr_lm (fun s30 => ?_)
      refine jr_aload_n dX12_change_97 0 rfl ?_
      refine jr_getk (i := 56) jc_12 jk_206 (by decide) (Nat.le_of_ble_eq_true rfl) jlk_206_56 jw_1261 dX12_change_98 ?_
      refine jr_iconst dX12_change_101 ?_
      refine jr_iload dX12_change_102 7 rfl ?_
      refine jr_iadd dX12_change_104 ?_
      refine jr_aload_n dX12_change_105 0 rfl ?_
      refine jr_getk (i := 64) jc_12 jk_206 (by decide) (Nat.le_of_ble_eq_true rfl) jlk_206_64 jw_1269 dX12_change_106 ?_
      refine jr_iconst dX12_change_109 ?_
      refine jr_iload dX12_change_110 6 rfl ?_
      refine jr_iadd dX12_change_112 ?_
      refine jr_grd (fun g31 => ?_)
      refine jr_iaload jk_252 (by decide) (jl_n3_to _) g31 dX12_change_113 ?_
      refine jr_grd (fun g32 => ?_)
      refine jr_iastore jk_249 (by decide) (jl_n3_to _) g32 dX12_change_114 ?_
      refine jr_lm (fun s33 => ?_)
      refine jr_aload_n dX12_change_115 0 rfl ?_
      refine jr_iload_n dX12_change_116 1 rfl ?_
      refine j2_callVv (As := [jl_vi l1]) dX12_change_117 (jt_X12_hoursGo G l1 hl1 s33) jv_X12_hoursGo ⟨rfl, rfl, rfl⟩ jw_1890 jk_206 (by decide) (by decide) rfl ⟨Nat.le_of_ble_eq_true rfl, Nat.le_of_ble_eq_true rfl⟩ rfl (Nat.le_of_ble_eq_true rfl) (fun r34 s35 hr34 => ?_)
      refine jr_aload_n dX12_change_120 0 rfl ?_
      refine j2_callVi (As := []) dX12_change_121 (jt_X12_laysHeld G s35) jv_X12_laysHeld ⟨rfl, rfl, rfl⟩ jw_1767 jk_206 (by decide) (by decide) rfl ⟨Nat.le_of_ble_eq_true rfl, Nat.le_of_ble_eq_true rfl⟩ rfl (Nat.le_of_ble_eq_true rfl) (fun r36 s37 hr36 => ?_)
      refine j2_callSi (As := [jl_vi r36]) dX12_change_124 (jt_X12_bits G r36 hr36 s37) jv_X12_bits ⟨rfl, rfl, rfl⟩ jw_1827 ⟨Nat.le_of_ble_eq_true rfl, Nat.le_of_ble_eq_true rfl⟩ rfl (Nat.le_of_ble_eq_true rfl) (fun r38 s39 hr38 => ?_)
      refine jr_istore (lv := [(8, jl_vi r38), (0, jl_vr G 206), (1, jl_vi l1), (2, jl_vi l2), (3, jl_vi l3), (4, jl_vi l4), (5, jl_vi l5), (6, jl_vi l6), (7, jl_vi l7)]) dX12_change_127 (Nat.le_of_ble_eq_true rfl) rfl ?_
      refine jr_aload_n dX12_change_129 1 rfl ?_
      refine j2_callVv (As := []) dX12_change_130 (jt_X12_triesAnew G s39) jv_X12_triesAnew ⟨rfl, rfl, rfl⟩ jw_1922 jk_206 (by decide) (by decide) rfl ⟨Nat.le_of_ble_eq_true rfl, Nat.le_of_ble_eq_true rfl⟩ rfl (Nat.le_of_ble_eq_true rfl) (fun r40 s41 hr40 => ?_)
      refine jr_iload dX12_change_133 0 rfl ?_
      refine jr_iload dX12_change_135 6 rfl ?_
      refine jr_icmp_gt (t := 143) dX12_change_137 (by decide) hr38 hl5 (fun c42 => ?_) (fun c42 => ?_)
      · refine jr_iload dX12_change_143 7 rfl ?_
        refine jr_istore_n (lv := [(3, jl_vi l6), (8, jl_vi r38), (0, jl_vr G 206), (1, jl_vi l1), (2, jl_vi l2), (4, jl_vi l4), (5, jl_vi l5), (6, jl_vi l6), (7, jl_vi l7)]) dX12_change_145 rfl (Nat.le_of_ble_eq_true rfl) rfl ?_
        refine jr_iload dX12_change_146 8 rfl ?_
        refine jr_istore (lv := [(4, jl_vi l7), (3, jl_vi l6), (8, jl_vi r38), (0, jl_vr G 206), (1, jl_vi l1), (2, jl_vi l2), (5, jl_vi l5), (6, jl_vi l6), (7, jl_vi l7)]) dX12_change_148 (Nat.le_of_ble_eq_true rfl) rfl ?_
        refine jr_iload dX12_change_150 2 rfl ?_
        refine jr_istore (lv := [(5, jl_vi r38), (4, jl_vi l7), (3, jl_vi l6), (8, jl_vi r38), (0, jl_vr G 206), (1, jl_vi l1), (2, jl_vi l2), (6, jl_vi l6), (7, jl_vi l7)]) dX12_change_152 (Nat.le_of_ble_eq_true rfl) rfl ?_
        refine jr_sub [4, 5, 6, 2, 1, 0, 7, 8] rfl ?_
        exact jj_X12_change_B154 G (R55) (jf_X12_change_L70 R55 n) (hR55) (ih) l1 l2 l6 l7 r38 l6 l7 hl1 hl2 hl6 hl7 hr38 hl6 hl7 s41
      · refine jr_goto (t := 154) dX12_change_140 (by decide) ?_
        refine jr_sub [1, 2, 3, 4, 5, 6, 7, 8] rfl ?_
        exact jj_X12_change_B154 G (R55) (jf_X12_change_L70 R55 n) (hR55) (ih) l1 l2 l3 l4 l5 l6 l7 hl1 hl2 hl3 hl4 hl5 hl6 hl7 s41
def jf_X12_change_L55 : Nat → Int → Int → Int → Int → Int → Int → jl_Mm → jl_O
  | 0, _, _, _, _, _, _, _ => none
  | n + 1, l1, l2, l3, l4, l5, l6, s0 =>
    jl_bd (jf_X12_personMany s0) fun r17 s18 => if r17 ≤ l6 then (jl_bd (jf_X12_takesBack s18) fun r20 s21 => if l2 = (0 : Int) then (jf_X12_change_B190 l3 s21) else (if l2 = (1 : Int) then (jf_X12_change_B190 l4 s21) else (jf_X12_change_B190 l5 s21))) else (jl_let (jl_add l6 (1 : Int)) fun x24 => jf_X12_change_L70 (jf_X12_change_L55 n) jl_fu l1 l2 l3 l4 l5 l6 x24 s18)
set_option maxRecDepth 20000 in
set_option maxHeartbeats 2000000 in
theorem jj_X12_change_L55 (G : jl_GC) : ∀ (n : Nat) (l1 : Int) (l2 : Int) (l3 : Int) (l4 : Int) (l5 : Int) (l6 : Int) (hl1 : jl_n3 l1) (hl2 : jl_n3 l2) (hl3 : jl_n3 l3) (hl4 : jl_n3 l4) (hl5 : jl_n3 l5) (hl6 : jl_n3 l6) (s0 : jl_Mm), j2 G jM_X12_change 55 [(0, jl_vr G 206), (1, jl_vi l1), (2, jl_vi l2), (3, jl_vi l3), (4, jl_vi l4), (5, jl_vi l5), (6, jl_vi l6)] [] s0 (jf_X12_change_L55 n l1 l2 l3 l4 l5 l6 s0) := by
  intro n
  induction n with
  | zero =>
    intros
    exact jr_none
  | succ n ih =>
    intro l1 l2 l3 l4 l5 l6 hl1 hl2 hl3 hl4 hl5 hl6 s0
    refine jr_iload dX12_change_55 6 rfl ?_
    refine jr_aload_n dX12_change_57 0 rfl ?_
    refine j2_callVi (As := []) dX12_change_58 (jt_X12_personMany G s0) jv_X12_personMany ⟨rfl, rfl, rfl⟩ jw_1747 jk_206 (by decide) (by decide) rfl ⟨Nat.le_of_ble_eq_true rfl, Nat.le_of_ble_eq_true rfl⟩ rfl (Nat.le_of_ble_eq_true rfl) (fun r17 s18 hr17 => ?_)
    refine jr_icmp_ge (t := 166) dX12_change_61 (by decide) hl6 hr17 (fun c19 => ?_) (fun c19 => ?_)
    · refine jr_aload_n dX12_change_166 0 rfl ?_
      refine j2_callVv (As := []) dX12_change_167 (jt_X12_takesBack G s18) jv_X12_takesBack ⟨rfl, rfl, rfl⟩ jw_1918 jk_206 (by decide) (by decide) rfl ⟨Nat.le_of_ble_eq_true rfl, Nat.le_of_ble_eq_true rfl⟩ rfl (Nat.le_of_ble_eq_true rfl) (fun r20 s21 hr20 => ?_)
      refine jr_iload_n dX12_change_170 2 rfl ?_
      refine jr_if_ne (t := 178) dX12_change_171 (by decide) hl2 (fun c22 => ?_) (fun c22 => ?_)
      · refine jr_iload_n dX12_change_174 3 rfl ?_
        refine jr_goto (t := 190) dX12_change_175 (by decide) ?_
        refine jr_sub [] rfl ?_
        exact jj_X12_change_B190 G l3 hl3 s21
      · refine jr_iload_n dX12_change_178 2 rfl ?_
        refine jr_iconst dX12_change_179 ?_
        refine jr_icmp_ne (t := 188) dX12_change_180 (by decide) hl2 (jl_nlit rfl) (fun c23 => ?_) (fun c23 => ?_)
        · refine jr_iload dX12_change_183 4 rfl ?_
          refine jr_goto (t := 190) dX12_change_185 (by decide) ?_
          refine jr_sub [] rfl ?_
          exact jj_X12_change_B190 G l4 hl4 s21
        · refine jr_iload dX12_change_188 5 rfl ?_
          refine jr_sub [] rfl ?_
          exact jj_X12_change_B190 G l5 hl5 s21
    · refine jr_iload dX12_change_64 6 rfl ?_
      refine jr_iconst dX12_change_66 ?_
      refine jr_iadd dX12_change_67 ?_
      refine jr_let (jl_n3_to _) (fun x24 hx24 => ?_)
      refine jr_istore (lv := [(7, jl_vi x24), (0, jl_vr G 206), (1, jl_vi l1), (2, jl_vi l2), (3, jl_vi l3), (4, jl_vi l4), (5, jl_vi l5), (6, jl_vi l6)]) dX12_change_68 (Nat.le_of_ble_eq_true rfl) rfl ?_
      refine jr_sub [1, 2, 3, 4, 5, 6, 7, 0] rfl ?_
      exact jj_X12_change_L70 G (jf_X12_change_L55 n) (ih) jl_fu l1 l2 l3 l4 l5 l6 x24 hl1 hl2 hl3 hl4 hl5 hl6 hx24 s18
def jf_X12_change (v1 : Int) (v2 : Int) (s0 : jl_Mm) : jl_O :=
  jl_bd (jf_X12_isAhead v1 (1 : Int) (40 : Int) s0) fun r1 s2 => if r1 = (0 : Int) then (jf_X12_change_B23 s2) else (jl_bd (jf_X12_isIn v2 (0 : Int) (2 : Int) s2) fun r4 s5 => if r4 = (0 : Int) then (jf_X12_change_B23 s5) else (jl_bd (jf_X12_putsAside s5) fun r7 s8 => jl_bd (jf_X12_hoursGo v1 s8) fun r9 s10 => jl_bd (jf_X12_laysHeld s10) fun r11 s12 => jl_bd (jf_X12_bits r11 s12) fun r13 s14 => jl_bd (jf_X12_triesAnew s14) fun r15 s16 => jf_X12_change_L55 jl_fu v1 v2 (-1 : Int) (-1 : Int) r13 (0 : Int) s16))
set_option maxRecDepth 20000 in
set_option maxHeartbeats 2000000 in
theorem jt_X12_change (G : jl_GC) (v1 : Int) (v2 : Int) (h1 : jl_n3 v1) (h2 : jl_n3 v2) (s0 : jl_Mm) : jC2 G jM_X12_change [jl_vr G 206, jl_vi v1, jl_vi v2] s0 (jf_X12_change v1 v2 s0) := by
  refine jl_met (plainFor_of_name rfl) (Nat.le_of_ble_eq_true rfl) ?_
  show j2 G jM_X12_change 0 [(0, jl_vr G 206), (1, jl_vi v1), (2, jl_vi v2)] [] s0 _
  refine jr_aload_n dX12_change_0 0 rfl ?_
  refine jr_iload_n dX12_change_1 1 rfl ?_
  refine jr_iconst dX12_change_2 ?_
  refine jr_bipush dX12_change_3 (by decide) ?_
  refine j2_callVz (As := [jl_vi v1, jl_vi (1 : Int), jl_vi (40 : Int)]) dX12_change_5 (jt_X12_isAhead G v1 (1 : Int) (40 : Int) h1 (jl_nlit rfl) (jl_nlit rfl) s0) jv_X12_isAhead ⟨rfl, rfl, rfl⟩ jw_1870 jk_206 (by decide) (by decide) rfl ⟨Nat.le_of_ble_eq_true rfl, Nat.le_of_ble_eq_true rfl⟩ rfl (Nat.le_of_ble_eq_true rfl) (fun r1 s2 hr1 => ?_)
  refine jr_if_eq (t := 23) dX12_change_8 (by decide) (jl_nz hr1) (fun c3 => ?_) (fun c3 => ?_)
  · refine jr_sub [] rfl ?_
    exact jj_X12_change_B23 G s2
  · refine jr_iload_n dX12_change_11 2 rfl ?_
    refine jr_i2l dX12_change_12 h2 ?_
    refine jr_lconst (v := 0) dX12_change_13 (by decide) ?_
    refine jr_ldc2_w (v := 2) dX12_change_14 jw_1681 (by decide) ?_
    refine j2_callSz (As := [jl_vl v2, jl_vl (0 : Int), jl_vl (2 : Int)]) dX12_change_17 (jt_X12_isIn G v2 (0 : Int) (2 : Int) (jl_n36 h2) (jl_n6lit rfl) (jl_n6lit rfl) s2) jv_X12_isIn ⟨rfl, rfl, rfl⟩ jw_1588 ⟨Nat.le_of_ble_eq_true rfl, Nat.le_of_ble_eq_true rfl⟩ rfl (Nat.le_of_ble_eq_true rfl) (fun r4 s5 hr4 => ?_)
    refine jr_if_ne (t := 25) dX12_change_20 (by decide) (jl_nz hr4) (fun c6 => ?_) (fun c6 => ?_)
    · refine jr_sub [] rfl ?_
      exact jj_X12_change_B23 G s5
    · refine jr_iconst dX12_change_25 ?_
      refine jr_istore_n (lv := [(3, jl_vi (-1 : Int)), (0, jl_vr G 206), (1, jl_vi v1), (2, jl_vi v2)]) dX12_change_26 rfl (Nat.le_of_ble_eq_true rfl) rfl ?_
      refine jr_iconst dX12_change_27 ?_
      refine jr_istore (lv := [(4, jl_vi (-1 : Int)), (3, jl_vi (-1 : Int)), (0, jl_vr G 206), (1, jl_vi v1), (2, jl_vi v2)]) dX12_change_28 (Nat.le_of_ble_eq_true rfl) rfl ?_
      refine jr_aload_n dX12_change_30 2 rfl ?_
      refine j2_callVv (As := []) dX12_change_31 (jt_X12_putsAside G s5) jv_X12_putsAside ⟨rfl, rfl, rfl⟩ jw_1886 jk_206 (by decide) (by decide) rfl ⟨Nat.le_of_ble_eq_true rfl, Nat.le_of_ble_eq_true rfl⟩ rfl (Nat.le_of_ble_eq_true rfl) (fun r7 s8 hr7 => ?_)
      refine jr_aload_n dX12_change_34 2 rfl ?_
      refine jr_iload_n dX12_change_35 3 rfl ?_
      refine j2_callVv (As := [jl_vi v1]) dX12_change_36 (jt_X12_hoursGo G v1 h1 s8) jv_X12_hoursGo ⟨rfl, rfl, rfl⟩ jw_1890 jk_206 (by decide) (by decide) rfl ⟨Nat.le_of_ble_eq_true rfl, Nat.le_of_ble_eq_true rfl⟩ rfl (Nat.le_of_ble_eq_true rfl) (fun r9 s10 hr9 => ?_)
      refine jr_aload_n dX12_change_39 2 rfl ?_
      refine j2_callVi (As := []) dX12_change_40 (jt_X12_laysHeld G s10) jv_X12_laysHeld ⟨rfl, rfl, rfl⟩ jw_1767 jk_206 (by decide) (by decide) rfl ⟨Nat.le_of_ble_eq_true rfl, Nat.le_of_ble_eq_true rfl⟩ rfl (Nat.le_of_ble_eq_true rfl) (fun r11 s12 hr11 => ?_)
      refine j2_callSi (As := [jl_vi r11]) dX12_change_43 (jt_X12_bits G r11 hr11 s12) jv_X12_bits ⟨rfl, rfl, rfl⟩ jw_1827 ⟨Nat.le_of_ble_eq_true rfl, Nat.le_of_ble_eq_true rfl⟩ rfl (Nat.le_of_ble_eq_true rfl) (fun r13 s14 hr13 => ?_)
      refine jr_istore (lv := [(5, jl_vi r13), (4, jl_vi (-1 : Int)), (3, jl_vi (-1 : Int)), (0, jl_vr G 206), (1, jl_vi v1), (2, jl_vi v2)]) dX12_change_46 (Nat.le_of_ble_eq_true rfl) rfl ?_
      refine jr_aload_n dX12_change_48 3 rfl ?_
      refine j2_callVv (As := []) dX12_change_49 (jt_X12_triesAnew G s14) jv_X12_triesAnew ⟨rfl, rfl, rfl⟩ jw_1922 jk_206 (by decide) (by decide) rfl ⟨Nat.le_of_ble_eq_true rfl, Nat.le_of_ble_eq_true rfl⟩ rfl (Nat.le_of_ble_eq_true rfl) (fun r15 s16 hr15 => ?_)
      refine jr_iconst dX12_change_52 ?_
      refine jr_istore (lv := [(6, jl_vi (0 : Int)), (5, jl_vi r13), (4, jl_vi (-1 : Int)), (3, jl_vi (-1 : Int)), (0, jl_vr G 206), (1, jl_vi v1), (2, jl_vi v2)]) dX12_change_53 (Nat.le_of_ble_eq_true rfl) rfl ?_
      refine jr_sub [4, 5, 6, 3, 2, 1, 0] rfl ?_
      exact jj_X12_change_L55 G jl_fu v1 v2 (-1 : Int) (-1 : Int) r13 (0 : Int) h1 h2 (jl_nlit rfl) (jl_nlit rfl) hr13 (jl_nlit rfl) s16
def jf_X12_odds_B110 (R47 : Int → Int → Int → jl_Mm → jl_O) (l1 : Int) (l2 : Int) (l3 : Int) (s0 : jl_Mm) : jl_O :=
  jl_bd (jf_X12_triesAnew s0) fun r19 s20 => R47 l1 l2 (jl_add l3 1) s20
set_option maxRecDepth 20000 in
set_option maxHeartbeats 2000000 in
theorem jj_X12_odds_B110 (G : jl_GC) (R47 : Int → Int → Int → jl_Mm → jl_O) (hR47 : ∀ (l1 : Int) (l2 : Int) (l3 : Int) (_hl1 : jl_n3 l1) (_hl2 : jl_n3 l2) (_hl3 : jl_n3 l3) (s0 : jl_Mm), j2 G jM_X12_odds 47 [(0, jl_vr G 206), (1, jl_vi l1), (2, jl_vi l2), (3, jl_vi l3)] [] s0 (R47 l1 l2 l3 s0)) (l1 : Int) (l2 : Int) (l3 : Int) (hl1 : jl_n3 l1) (hl2 : jl_n3 l2) (hl3 : jl_n3 l3) (s0 : jl_Mm) : j2 G jM_X12_odds 110 [(0, jl_vr G 206), (1, jl_vi l1), (2, jl_vi l2), (3, jl_vi l3)] [] s0 (jf_X12_odds_B110 R47 l1 l2 l3 s0) := by
  refine jr_aload_n dX12_odds_110 0 rfl ?_
  refine j2_callVv (As := []) dX12_odds_111 (jt_X12_triesAnew G s0) jv_X12_triesAnew ⟨rfl, rfl, rfl⟩ jw_1922 jk_206 (by decide) (by decide) rfl ⟨Nat.le_of_ble_eq_true rfl, Nat.le_of_ble_eq_true rfl⟩ rfl (Nat.le_of_ble_eq_true rfl) (fun r19 s20 hr19 => ?_)
  refine jr_iinc (j := 3) (lv := [(3, jl_vi (jl_add l3 1)), (0, jl_vr G 206), (1, jl_vi l1), (2, jl_vi l2)]) dX12_odds_114 rfl (Nat.le_of_ble_eq_true rfl) rfl ?_
  refine jr_goto (t := 47) dX12_odds_117 (by decide) ?_
  refine jr_sub [1, 2, 3, 0] rfl ?_
  exact hR47 l1 l2 (jl_add l3 1) hl1 hl2 (jl_n3_to _) s20
def jf_X12_odds_B108 (R47 : Int → Int → Int → jl_Mm → jl_O) (l1 : Int) (l3 : Int) (k0 : Int) (k1 : Int) (s0 : jl_Mm) : jl_O :=
  jl_let (jl_add k0 k1) fun x22 => jf_X12_odds_B110 (R47) l1 x22 l3 s0
set_option maxRecDepth 20000 in
set_option maxHeartbeats 2000000 in
theorem jj_X12_odds_B108 (G : jl_GC) (R47 : Int → Int → Int → jl_Mm → jl_O) (hR47 : ∀ (l1 : Int) (l2 : Int) (l3 : Int) (_hl1 : jl_n3 l1) (_hl2 : jl_n3 l2) (_hl3 : jl_n3 l3) (s0 : jl_Mm), j2 G jM_X12_odds 47 [(0, jl_vr G 206), (1, jl_vi l1), (2, jl_vi l2), (3, jl_vi l3)] [] s0 (R47 l1 l2 l3 s0)) (l1 : Int) (l3 : Int) (k0 : Int) (k1 : Int) (hl1 : jl_n3 l1) (hl3 : jl_n3 l3) (hk0 : jl_n3 k0) (hk1 : jl_n3 k1) (s0 : jl_Mm) : j2 G jM_X12_odds 108 [(0, jl_vr G 206), (1, jl_vi l1), (3, jl_vi l3)] [jl_vi k1, jl_vi k0] s0 (jf_X12_odds_B108 R47 l1 l3 k0 k1 s0) := by
  refine jr_iadd dX12_odds_108 ?_
  refine jr_let (jl_n3_to _) (fun x22 hx22 => ?_)
  refine jr_istore_n (lv := [(2, jl_vi x22), (0, jl_vr G 206), (1, jl_vi l1), (3, jl_vi l3)]) dX12_odds_109 rfl (Nat.le_of_ble_eq_true rfl) rfl ?_
  refine jr_sub [1, 2, 0, 3] rfl ?_
  exact jj_X12_odds_B110 G (R47) (hR47) l1 x22 l3 hl1 hx22 hl3 s0
def jf_X12_odds_B65 (R47 : Int → Int → Int → jl_Mm → jl_O) (l1 : Int) (l2 : Int) (l3 : Int) (s0 : jl_Mm) : jl_O :=
  jl_bd (jf_X12_hourGoes s0) fun r14 s15 => jl_bd (jf_X12_isHeld l1 s15) fun r16 s17 => if r16 = (0 : Int) then (jf_X12_odds_B110 (R47) l1 l2 l3 s17) else (if l3 = (-1 : Int) then (jl_bd (jf_X12_windowMany s17) fun r23 s24 => jf_X12_odds_B108 (R47) l1 l3 l2 (jl_mul (jl_sub (100 : Int) (jl_g s17 241 (((11 : Int) : Int).toNat))) r23) s24) else (jf_X12_odds_B108 (R47) l1 l3 l2 (jl_g s17 241 (((11 : Int) : Int).toNat)) s17))
set_option maxRecDepth 20000 in
set_option maxHeartbeats 2000000 in
theorem jj_X12_odds_B65 (G : jl_GC) (R47 : Int → Int → Int → jl_Mm → jl_O) (hR47 : ∀ (l1 : Int) (l2 : Int) (l3 : Int) (_hl1 : jl_n3 l1) (_hl2 : jl_n3 l2) (_hl3 : jl_n3 l3) (s0 : jl_Mm), j2 G jM_X12_odds 47 [(0, jl_vr G 206), (1, jl_vi l1), (2, jl_vi l2), (3, jl_vi l3)] [] s0 (R47 l1 l2 l3 s0)) (l1 : Int) (l2 : Int) (l3 : Int) (hl1 : jl_n3 l1) (hl2 : jl_n3 l2) (hl3 : jl_n3 l3) (s0 : jl_Mm) : j2 G jM_X12_odds 65 [(0, jl_vr G 206), (1, jl_vi l1), (2, jl_vi l2), (3, jl_vi l3)] [] s0 (jf_X12_odds_B65 R47 l1 l2 l3 s0) := by
  refine jr_aload_n dX12_odds_65 0 rfl ?_
  refine j2_callVv (As := []) dX12_odds_66 (jt_X12_hourGoes G s0) jv_X12_hourGoes ⟨rfl, rfl, rfl⟩ jw_1894 jk_206 (by decide) (by decide) rfl ⟨Nat.le_of_ble_eq_true rfl, Nat.le_of_ble_eq_true rfl⟩ rfl (Nat.le_of_ble_eq_true rfl) (fun r14 s15 hr14 => ?_)
  refine jr_aload_n dX12_odds_69 0 rfl ?_
  refine jr_iload_n dX12_odds_70 1 rfl ?_
  refine j2_callVz (As := [jl_vi l1]) dX12_odds_71 (jt_X12_isHeld G l1 hl1 s15) jv_X12_isHeld ⟨rfl, rfl, rfl⟩ jw_1854 jk_206 (by decide) (by decide) rfl ⟨Nat.le_of_ble_eq_true rfl, Nat.le_of_ble_eq_true rfl⟩ rfl (Nat.le_of_ble_eq_true rfl) (fun r16 s17 hr16 => ?_)
  refine jr_if_eq (t := 110) dX12_odds_74 (by decide) (jl_nz hr16) (fun c18 => ?_) (fun c18 => ?_)
  · exact jj_X12_odds_B110 G (R47) (hR47) l1 l2 l3 hl1 hl2 hl3 s17
  · refine jr_iload_n dX12_odds_77 2 rfl ?_
    refine jr_iload_n dX12_odds_78 3 rfl ?_
    refine jr_iconst dX12_odds_79 ?_
    refine jr_icmp_ne (t := 101) dX12_odds_80 (by decide) hl3 (jl_nlit rfl) (fun c21 => ?_) (fun c21 => ?_)
    · refine jr_bipush dX12_odds_83 (by decide) ?_
      refine jr_aload_n dX12_odds_85 0 rfl ?_
      refine jr_getk (i := 44) jc_12 jk_206 (by decide) (Nat.le_of_ble_eq_true rfl) jlk_206_44 jw_1249 dX12_odds_86 ?_
      refine jr_bipush dX12_odds_89 (by decide) ?_
      refine jr_iaload jk_241 (by decide) (jl_nlit rfl) ⟨by decide, by decide⟩ dX12_odds_91 ?_
      refine jr_isub dX12_odds_92 ?_
      refine jr_aload_n dX12_odds_93 0 rfl ?_
      refine j2_callVi (As := []) dX12_odds_94 (jt_X12_windowMany G s17) jv_X12_windowMany ⟨rfl, rfl, rfl⟩ jw_1743 jk_206 (by decide) (by decide) rfl ⟨Nat.le_of_ble_eq_true rfl, Nat.le_of_ble_eq_true rfl⟩ rfl (Nat.le_of_ble_eq_true rfl) (fun r23 s24 hr23 => ?_)
      refine jr_imul dX12_odds_97 ?_
      refine jr_goto (t := 108) dX12_odds_98 (by decide) ?_
      refine jr_sub [0, 1, 3] rfl ?_
      exact jj_X12_odds_B108 G (R47) (hR47) l1 l3 l2 (jl_mul (jl_sub (100 : Int) (jl_g s17 241 (((11 : Int) : Int).toNat))) r23) hl1 hl3 hl2 (jl_n3_to _) s24
    · refine jr_aload_n dX12_odds_101 0 rfl ?_
      refine jr_getk (i := 44) jc_12 jk_206 (by decide) (Nat.le_of_ble_eq_true rfl) jlk_206_44 jw_1249 dX12_odds_102 ?_
      refine jr_bipush dX12_odds_105 (by decide) ?_
      refine jr_iaload jk_241 (by decide) (jl_nlit rfl) ⟨by decide, by decide⟩ dX12_odds_107 ?_
      refine jr_sub [0, 1, 3] rfl ?_
      exact jj_X12_odds_B108 G (R47) (hR47) l1 l3 l2 (jl_g s17 241 (((11 : Int) : Int).toNat)) hl1 hl3 hl2 (jl_n3_to _) s17
def jf_X12_odds_L47 : Nat → Int → Int → Int → jl_Mm → jl_O
  | 0, _, _, _, _ => none
  | n + 1, l1, l2, l3, s0 =>
    jl_bd (jf_X12_windowMany s0) fun r8 s9 => if r8 ≤ l3 then (jl_bd (jf_X12_takesBack s9) fun r11 s12 => some (l2, s12)) else (if l3 = (-1 : Int) then (jf_X12_odds_B65 (jf_X12_odds_L47 n) l1 l2 l3 s9) else (jl_bd (jf_X12_blows l3 s9) fun r25 s26 => jf_X12_odds_B65 (jf_X12_odds_L47 n) l1 l2 l3 s26))
set_option maxRecDepth 20000 in
set_option maxHeartbeats 2000000 in
theorem jj_X12_odds_L47 (G : jl_GC) : ∀ (n : Nat) (l1 : Int) (l2 : Int) (l3 : Int) (hl1 : jl_n3 l1) (hl2 : jl_n3 l2) (hl3 : jl_n3 l3) (s0 : jl_Mm), j2 G jM_X12_odds 47 [(0, jl_vr G 206), (1, jl_vi l1), (2, jl_vi l2), (3, jl_vi l3)] [] s0 (jf_X12_odds_L47 n l1 l2 l3 s0) := by
  intro n
  induction n with
  | zero =>
    intros
    exact jr_none
  | succ n ih =>
    intro l1 l2 l3 hl1 hl2 hl3 s0
    refine jr_iload_n dX12_odds_47 3 rfl ?_
    refine jr_aload_n dX12_odds_48 0 rfl ?_
    refine j2_callVi (As := []) dX12_odds_49 (jt_X12_windowMany G s0) jv_X12_windowMany ⟨rfl, rfl, rfl⟩ jw_1743 jk_206 (by decide) (by decide) rfl ⟨Nat.le_of_ble_eq_true rfl, Nat.le_of_ble_eq_true rfl⟩ rfl (Nat.le_of_ble_eq_true rfl) (fun r8 s9 hr8 => ?_)
    refine jr_icmp_ge (t := 120) dX12_odds_52 (by decide) hl3 hr8 (fun c10 => ?_) (fun c10 => ?_)
    · refine jr_aload_n dX12_odds_120 0 rfl ?_
      refine j2_callVv (As := []) dX12_odds_121 (jt_X12_takesBack G s9) jv_X12_takesBack ⟨rfl, rfl, rfl⟩ jw_1918 jk_206 (by decide) (by decide) rfl ⟨Nat.le_of_ble_eq_true rfl, Nat.le_of_ble_eq_true rfl⟩ rfl (Nat.le_of_ble_eq_true rfl) (fun r11 s12 hr11 => ?_)
      refine jr_iload_n dX12_odds_124 2 rfl ?_
      exact jr_ret_i rfl hl2 dX12_odds_125
    · refine jr_iload_n dX12_odds_55 3 rfl ?_
      refine jr_iconst dX12_odds_56 ?_
      refine jr_icmp_eq (t := 65) dX12_odds_57 (by decide) hl3 (jl_nlit rfl) (fun c13 => ?_) (fun c13 => ?_)
      · exact jj_X12_odds_B65 G (jf_X12_odds_L47 n) (ih) l1 l2 l3 hl1 hl2 hl3 s9
      · refine jr_aload_n dX12_odds_60 0 rfl ?_
        refine jr_iload_n dX12_odds_61 3 rfl ?_
        refine j2_callVv (As := [jl_vi l3]) dX12_odds_62 (jt_X12_blows G l3 hl3 s9) jv_X12_blows ⟨rfl, rfl, rfl⟩ jw_1970 jk_206 (by decide) (by decide) rfl ⟨Nat.le_of_ble_eq_true rfl, Nat.le_of_ble_eq_true rfl⟩ rfl (Nat.le_of_ble_eq_true rfl) (fun r25 s26 hr25 => ?_)
        exact jj_X12_odds_B65 G (jf_X12_odds_L47 n) (ih) l1 l2 l3 hl1 hl2 hl3 s26
def jf_X12_odds_B24 (s0 : jl_Mm) : jl_O :=
  some ((-1 : Int), s0)
set_option maxRecDepth 20000 in
set_option maxHeartbeats 2000000 in
theorem jj_X12_odds_B24 (G : jl_GC) (s0 : jl_Mm) : j2 G jM_X12_odds 24 [] [] s0 (jf_X12_odds_B24 s0) := by
  refine jr_iconst dX12_odds_24 ?_
  exact jr_ret_i rfl (jl_nlit rfl) dX12_odds_25
def jf_X12_odds_B14 (l1 : Int) (s0 : jl_Mm) : jl_O :=
  jl_bd (jf_X12_isAhead (1 : Int) (1 : Int) (1 : Int) s0) fun r2 s3 => if r2 = (0 : Int) then (jf_X12_odds_B24 s3) else (if l1 = (-1 : Int) then (jl_bd (jf_X12_windowMany s3) fun r27 s28 => some (jl_mul (100 : Int) r27, s28)) else (jl_bd (jf_X12_putsAside s3) fun r6 s7 => jf_X12_odds_L47 jl_fu l1 (0 : Int) (-1 : Int) s7))
set_option maxRecDepth 20000 in
set_option maxHeartbeats 2000000 in
theorem jj_X12_odds_B14 (G : jl_GC) (l1 : Int) (hl1 : jl_n3 l1) (s0 : jl_Mm) : j2 G jM_X12_odds 14 [(0, jl_vr G 206), (1, jl_vi l1)] [] s0 (jf_X12_odds_B14 l1 s0) := by
  refine jr_aload_n dX12_odds_14 0 rfl ?_
  refine jr_iconst dX12_odds_15 ?_
  refine jr_iconst dX12_odds_16 ?_
  refine jr_iconst dX12_odds_17 ?_
  refine j2_callVz (As := [jl_vi (1 : Int), jl_vi (1 : Int), jl_vi (1 : Int)]) dX12_odds_18 (jt_X12_isAhead G (1 : Int) (1 : Int) (1 : Int) (jl_nlit rfl) (jl_nlit rfl) (jl_nlit rfl) s0) jv_X12_isAhead ⟨rfl, rfl, rfl⟩ jw_1870 jk_206 (by decide) (by decide) rfl ⟨Nat.le_of_ble_eq_true rfl, Nat.le_of_ble_eq_true rfl⟩ rfl (Nat.le_of_ble_eq_true rfl) (fun r2 s3 hr2 => ?_)
  refine jr_if_ne (t := 26) dX12_odds_21 (by decide) (jl_nz hr2) (fun c4 => ?_) (fun c4 => ?_)
  · refine jr_sub [] rfl ?_
    exact jj_X12_odds_B24 G s3
  · refine jr_iload_n dX12_odds_26 1 rfl ?_
    refine jr_iconst dX12_odds_27 ?_
    refine jr_icmp_ne (t := 39) dX12_odds_28 (by decide) hl1 (jl_nlit rfl) (fun c5 => ?_) (fun c5 => ?_)
    · refine jr_bipush dX12_odds_31 (by decide) ?_
      refine jr_aload_n dX12_odds_33 0 rfl ?_
      refine j2_callVi (As := []) dX12_odds_34 (jt_X12_windowMany G s3) jv_X12_windowMany ⟨rfl, rfl, rfl⟩ jw_1743 jk_206 (by decide) (by decide) rfl ⟨Nat.le_of_ble_eq_true rfl, Nat.le_of_ble_eq_true rfl⟩ rfl (Nat.le_of_ble_eq_true rfl) (fun r27 s28 hr27 => ?_)
      refine jr_imul dX12_odds_37 ?_
      exact jr_ret_i rfl (jl_n3_to _) dX12_odds_38
    · refine jr_iconst dX12_odds_39 ?_
      refine jr_istore_n (lv := [(2, jl_vi (0 : Int)), (0, jl_vr G 206), (1, jl_vi l1)]) dX12_odds_40 rfl (Nat.le_of_ble_eq_true rfl) rfl ?_
      refine jr_aload_n dX12_odds_41 1 rfl ?_
      refine j2_callVv (As := []) dX12_odds_42 (jt_X12_putsAside G s3) jv_X12_putsAside ⟨rfl, rfl, rfl⟩ jw_1886 jk_206 (by decide) (by decide) rfl ⟨Nat.le_of_ble_eq_true rfl, Nat.le_of_ble_eq_true rfl⟩ rfl (Nat.le_of_ble_eq_true rfl) (fun r6 s7 hr6 => ?_)
      refine jr_iconst dX12_odds_45 ?_
      refine jr_istore_n (lv := [(3, jl_vi (-1 : Int)), (2, jl_vi (0 : Int)), (0, jl_vr G 206), (1, jl_vi l1)]) dX12_odds_46 rfl (Nat.le_of_ble_eq_true rfl) rfl ?_
      refine jr_sub [2, 3, 1, 0] rfl ?_
      exact jj_X12_odds_L47 G jl_fu l1 (0 : Int) (-1 : Int) hl1 (jl_nlit rfl) (jl_nlit rfl) s7
def jf_X12_odds (v1 : Int) (s0 : jl_Mm) : jl_O :=
  if v1 = (-1 : Int) then (jf_X12_odds_B14 v1 s0) else (jl_bd (jf_X12_isLie v1 s0) fun r29 s30 => if r29 = (0 : Int) then (jf_X12_odds_B24 s30) else (jf_X12_odds_B14 v1 s30))
set_option maxRecDepth 20000 in
set_option maxHeartbeats 2000000 in
theorem jt_X12_odds (G : jl_GC) (v1 : Int) (h1 : jl_n3 v1) (s0 : jl_Mm) : jC2 G jM_X12_odds [jl_vr G 206, jl_vi v1] s0 (jf_X12_odds v1 s0) := by
  refine jl_met (plainFor_of_name rfl) (Nat.le_of_ble_eq_true rfl) ?_
  show j2 G jM_X12_odds 0 [(0, jl_vr G 206), (1, jl_vi v1)] [] s0 _
  refine jr_iload_n dX12_odds_0 1 rfl ?_
  refine jr_iconst dX12_odds_1 ?_
  refine jr_icmp_eq (t := 14) dX12_odds_2 (by decide) h1 (jl_nlit rfl) (fun c1 => ?_) (fun c1 => ?_)
  · exact jj_X12_odds_B14 G v1 h1 s0
  · refine jr_aload_n dX12_odds_5 0 rfl ?_
    refine jr_iload_n dX12_odds_6 1 rfl ?_
    refine jr_i2l dX12_odds_7 h1 ?_
    refine j2_callVz (As := [jl_vl v1]) dX12_odds_8 (jt_X12_isLie G v1 (jl_n36 h1) s0) jv_X12_isLie ⟨rfl, rfl, rfl⟩ jw_1850 jk_206 (by decide) (by decide) rfl ⟨Nat.le_of_ble_eq_true rfl, Nat.le_of_ble_eq_true rfl⟩ rfl (Nat.le_of_ble_eq_true rfl) (fun r29 s30 hr29 => ?_)
    refine jr_if_eq (t := 24) dX12_odds_11 (by decide) (jl_nz hr29) (fun c31 => ?_) (fun c31 => ?_)
    · refine jr_sub [] rfl ?_
      exact jj_X12_odds_B24 G s30
    · exact jj_X12_odds_B14 G v1 h1 s30
def jf_X12_see_L109 : Nat → Int → Int → jl_Mm → jl_O
  | 0, _, _, _ => none
  | n + 1, l1, l3, s0 =>
    if l1 ≤ l3 then (jl_lm (jl_up s0 206 65 (jl_div l1 (3 : Int))) fun s7 => some (jl_g s7 206 65, s7)) else (if 0 ≤ l3 ∧ l3 < ((1600 : Nat) : Int) then if 0 ≤ l3 ∧ l3 < ((48 : Nat) : Int) then jl_lm (jl_up s0 253 (l3).toNat (jl_g s0 207 (l3).toNat)) fun s10 => jf_X12_see_L109 n l1 (jl_add l3 1) s10 else none else none)
set_option maxRecDepth 20000 in
set_option maxHeartbeats 2000000 in
theorem jj_X12_see_L109 (G : jl_GC) : ∀ (n : Nat) (l1 : Int) (l3 : Int) (hl1 : jl_n3 l1) (hl3 : jl_n3 l3) (s0 : jl_Mm), j2 G jM_X12_see 109 [(0, jl_vr G 206), (1, jl_vi l1), (3, jl_vi l3)] [] s0 (jf_X12_see_L109 n l1 l3 s0) := by
  intro n
  induction n with
  | zero =>
    intros
    exact jr_none
  | succ n ih =>
    intro l1 l3 hl1 hl3 s0
    refine jr_iload_n dX12_see_109 2 rfl ?_
    refine jr_iload_n dX12_see_110 1 rfl ?_
    refine jr_icmp_ge (t := 132) dX12_see_111 (by decide) hl3 hl1 (fun c6 => ?_) (fun c6 => ?_)
    · refine jr_aload_n dX12_see_132 0 rfl ?_
      refine jr_iload_n dX12_see_133 1 rfl ?_
      refine jr_iconst dX12_see_134 ?_
      refine jr_idiv dX12_see_135 (jl_nlit rfl) (by decide) ?_
      refine jr_puti (i := 65) jc_12 jk_206 (by decide) (Nat.le_of_ble_eq_true rfl) jlk_206_65 jft_12_65 rfl jw_1270 rfl dX12_see_136 ?_
      refine jr_lm (fun s7 => ?_)
      refine jr_aload_n dX12_see_139 0 rfl ?_
      refine jr_geti (i := 65) jc_12 jk_206 (by decide) (Nat.le_of_ble_eq_true rfl) jlk_206_65 jft_12_65 jw_1270 dX12_see_140 ?_
      exact jr_ret_i rfl (jl_n3_to _) dX12_see_143
    · refine jr_aload_n dX12_see_114 0 rfl ?_
      refine jr_getk (i := 66) jc_12 jk_206 (by decide) (Nat.le_of_ble_eq_true rfl) jlk_206_66 jw_1271 dX12_see_115 ?_
      refine jr_iload_n dX12_see_118 2 rfl ?_
      refine jr_aload_n dX12_see_119 0 rfl ?_
      refine jr_getk (i := 0) jc_12 jk_206 (by decide) (Nat.le_of_ble_eq_true rfl) jlk_206_0 jw_1205 dX12_see_120 ?_
      refine jr_iload_n dX12_see_123 2 rfl ?_
      refine jr_grd (fun g8 => ?_)
      refine jr_iaload jk_207 (by decide) hl3 g8 dX12_see_124 ?_
      refine jr_grd (fun g9 => ?_)
      refine jr_iastore jk_253 (by decide) hl3 g9 dX12_see_125 ?_
      refine jr_lm (fun s10 => ?_)
      refine jr_iinc (j := 2) (lv := [(3, jl_vi (jl_add l3 1)), (0, jl_vr G 206), (1, jl_vi l1)]) dX12_see_126 rfl (Nat.le_of_ble_eq_true rfl) rfl ?_
      refine jr_goto (t := 109) dX12_see_129 (by decide) ?_
      refine jr_sub [1, 2, 0] rfl ?_
      exact ih l1 (jl_add l3 1) hl1 (jl_n3_to _) s10
def jf_X12_see_B97 (l1 : Int) (l2 : Int) (s0 : jl_Mm) : jl_O :=
  if l2 = (0 : Int) then (jl_bd (jf_X12_refuses (1 : Int) s0) fun r11 s12 => some (r11, s12)) else (jf_X12_see_L109 jl_fu l1 (0 : Int) s0)
set_option maxRecDepth 20000 in
set_option maxHeartbeats 2000000 in
theorem jj_X12_see_B97 (G : jl_GC) (l1 : Int) (l2 : Int) (hl1 : jl_n3 l1) (hl2 : jl_n3 l2) (s0 : jl_Mm) : j2 G jM_X12_see 97 [(0, jl_vr G 206), (1, jl_vi l1), (2, jl_vi l2)] [] s0 (jf_X12_see_B97 l1 l2 s0) := by
  refine jr_iload_n dX12_see_97 2 rfl ?_
  refine jr_if_ne (t := 107) dX12_see_98 (by decide) hl2 (fun c5 => ?_) (fun c5 => ?_)
  · refine jr_aload_n dX12_see_101 0 rfl ?_
    refine jr_iconst dX12_see_102 ?_
    refine j2_callVi (As := [jl_vi (1 : Int)]) dX12_see_103 (jt_X12_refuses G (1 : Int) (jl_nlit rfl) s0) jv_X12_refuses ⟨rfl, rfl, rfl⟩ jw_1727 jk_206 (by decide) (by decide) rfl ⟨Nat.le_of_ble_eq_true rfl, Nat.le_of_ble_eq_true rfl⟩ rfl (Nat.le_of_ble_eq_true rfl) (fun r11 s12 hr11 => ?_)
    exact jr_ret_i rfl hr11 dX12_see_106
  · refine jr_iconst dX12_see_107 ?_
    refine jr_istore_n (lv := [(3, jl_vi (0 : Int)), (0, jl_vr G 206), (1, jl_vi l1), (2, jl_vi l2)]) dX12_see_108 rfl (Nat.le_of_ble_eq_true rfl) rfl ?_
    refine jr_sub [1, 2, 0] rfl ?_
    exact jj_X12_see_L109 G jl_fu l1 (0 : Int) hl1 (jl_nlit rfl) s0
def jf_X12_see_B90 (R36 : Int → Int → Int → jl_Mm → jl_O) (l1 : Int) (l3 : Int) (k0 : Int) (s0 : jl_Mm) : jl_O :=
  R36 l1 k0 (jl_add l3 3) s0
set_option maxRecDepth 20000 in
set_option maxHeartbeats 2000000 in
theorem jj_X12_see_B90 (G : jl_GC) (R36 : Int → Int → Int → jl_Mm → jl_O) (hR36 : ∀ (l1 : Int) (l2 : Int) (l3 : Int) (_hl1 : jl_n3 l1) (_hl2 : jl_n3 l2) (_hl3 : jl_n3 l3) (s0 : jl_Mm), j2 G jM_X12_see 36 [(0, jl_vr G 206), (1, jl_vi l1), (2, jl_vi l2), (3, jl_vi l3)] [] s0 (R36 l1 l2 l3 s0)) (l1 : Int) (l3 : Int) (k0 : Int) (hl1 : jl_n3 l1) (hl3 : jl_n3 l3) (hk0 : jl_n3 k0) (s0 : jl_Mm) : j2 G jM_X12_see 90 [(0, jl_vr G 206), (1, jl_vi l1), (3, jl_vi l3)] [jl_vi k0] s0 (jf_X12_see_B90 R36 l1 l3 k0 s0) := by
  refine jr_istore_n (lv := [(2, jl_vi k0), (0, jl_vr G 206), (1, jl_vi l1), (3, jl_vi l3)]) dX12_see_90 rfl (Nat.le_of_ble_eq_true rfl) rfl ?_
  refine jr_iinc (j := 3) (lv := [(3, jl_vi (jl_add l3 3)), (2, jl_vi k0), (0, jl_vr G 206), (1, jl_vi l1)]) dX12_see_91 rfl (Nat.le_of_ble_eq_true rfl) rfl ?_
  refine jr_goto (t := 36) dX12_see_94 (by decide) ?_
  refine jr_sub [2, 3, 1, 0] rfl ?_
  exact hR36 l1 k0 (jl_add l3 3) hl1 hk0 (jl_n3_to _) s0
def jf_X12_see_B89 (R36 : Int → Int → Int → jl_Mm → jl_O) (l1 : Int) (l3 : Int) (s0 : jl_Mm) : jl_O :=
  jf_X12_see_B90 (R36) l1 l3 (0 : Int) s0
set_option maxRecDepth 20000 in
set_option maxHeartbeats 2000000 in
theorem jj_X12_see_B89 (G : jl_GC) (R36 : Int → Int → Int → jl_Mm → jl_O) (hR36 : ∀ (l1 : Int) (l2 : Int) (l3 : Int) (_hl1 : jl_n3 l1) (_hl2 : jl_n3 l2) (_hl3 : jl_n3 l3) (s0 : jl_Mm), j2 G jM_X12_see 36 [(0, jl_vr G 206), (1, jl_vi l1), (2, jl_vi l2), (3, jl_vi l3)] [] s0 (R36 l1 l2 l3 s0)) (l1 : Int) (l3 : Int) (hl1 : jl_n3 l1) (hl3 : jl_n3 l3) (s0 : jl_Mm) : j2 G jM_X12_see 89 [(0, jl_vr G 206), (1, jl_vi l1), (3, jl_vi l3)] [] s0 (jf_X12_see_B89 R36 l1 l3 s0) := by
  refine jr_iconst dX12_see_89 ?_
  exact jj_X12_see_B90 G (R36) (hR36) l1 l3 (0 : Int) hl1 hl3 (jl_nlit rfl) s0
def jf_X12_see_L36 : Nat → Int → Int → Int → jl_Mm → jl_O
  | 0, _, _, _, _ => none
  | n + 1, l1, l2, l3, s0 =>
    if l1 ≤ l3 then (jf_X12_see_B97 l1 l2 s0) else (if l2 = (0 : Int) then (jf_X12_see_B97 l1 l2 s0) else (if 0 ≤ l3 ∧ l3 < ((1600 : Nat) : Int) then if (30 : Int) < jl_g s0 207 (l3).toNat then (jf_X12_see_B89 (jf_X12_see_L36 n) l1 l3 s0) else (if 0 ≤ jl_add l3 (1 : Int) ∧ jl_add l3 (1 : Int) < ((1600 : Nat) : Int) then jl_bd (jf_X12_isWindow (jl_g s0 207 (jl_add l3 (1 : Int)).toNat) s0) fun r17 s18 => if r17 = (0 : Int) then (jf_X12_see_B89 (jf_X12_see_L36 n) l1 l3 s18) else (if 0 ≤ jl_add l3 (2 : Int) ∧ jl_add l3 (2 : Int) < ((1600 : Nat) : Int) then if (8 : Int) < jl_g s18 207 (jl_add l3 (2 : Int)).toNat then (jf_X12_see_B89 (jf_X12_see_L36 n) l1 l3 s18) else (jf_X12_see_B90 (jf_X12_see_L36 n) l1 l3 (1 : Int) s18) else none) else none) else none))
set_option maxRecDepth 20000 in
set_option maxHeartbeats 2000000 in
theorem jj_X12_see_L36 (G : jl_GC) : ∀ (n : Nat) (l1 : Int) (l2 : Int) (l3 : Int) (hl1 : jl_n3 l1) (hl2 : jl_n3 l2) (hl3 : jl_n3 l3) (s0 : jl_Mm), j2 G jM_X12_see 36 [(0, jl_vr G 206), (1, jl_vi l1), (2, jl_vi l2), (3, jl_vi l3)] [] s0 (jf_X12_see_L36 n l1 l2 l3 s0) := by
  intro n
  induction n with
  | zero =>
    intros
    exact jr_none
  | succ n ih =>
    intro l1 l2 l3 hl1 hl2 hl3 s0
    refine jr_iload_n dX12_see_36 3 rfl ?_
    refine jr_iload_n dX12_see_37 1 rfl ?_
    refine jr_icmp_ge (t := 97) dX12_see_38 (by decide) hl3 hl1 (fun c4 => ?_) (fun c4 => ?_)
    · refine jr_sub [0, 1, 2] rfl ?_
      exact jj_X12_see_B97 G l1 l2 hl1 hl2 s0
    · refine jr_iload_n dX12_see_41 2 rfl ?_
      refine jr_if_eq (t := 97) dX12_see_42 (by decide) hl2 (fun c13 => ?_) (fun c13 => ?_)
      · refine jr_sub [0, 1, 2] rfl ?_
        exact jj_X12_see_B97 G l1 l2 hl1 hl2 s0
      · refine jr_aload_n dX12_see_45 0 rfl ?_
        refine jr_getk (i := 0) jc_12 jk_206 (by decide) (Nat.le_of_ble_eq_true rfl) jlk_206_0 jw_1205 dX12_see_46 ?_
        refine jr_iload_n dX12_see_49 3 rfl ?_
        refine jr_grd (fun g14 => ?_)
        refine jr_iaload jk_207 (by decide) hl3 g14 dX12_see_50 ?_
        refine jr_bipush dX12_see_51 (by decide) ?_
        refine jr_icmp_gt (t := 89) dX12_see_53 (by decide) (jl_n3_to _) (jl_nlit rfl) (fun c15 => ?_) (fun c15 => ?_)
        · refine jr_sub [0, 1, 3] rfl ?_
          exact jj_X12_see_B89 G (jf_X12_see_L36 n) (ih) l1 l3 hl1 hl3 s0
        · refine jr_aload_n dX12_see_56 0 rfl ?_
          refine jr_aload_n dX12_see_57 0 rfl ?_
          refine jr_getk (i := 0) jc_12 jk_206 (by decide) (Nat.le_of_ble_eq_true rfl) jlk_206_0 jw_1205 dX12_see_58 ?_
          refine jr_iload_n dX12_see_61 3 rfl ?_
          refine jr_iconst dX12_see_62 ?_
          refine jr_iadd dX12_see_63 ?_
          refine jr_grd (fun g16 => ?_)
          refine jr_iaload jk_207 (by decide) (jl_n3_to _) g16 dX12_see_64 ?_
          refine jr_i2l dX12_see_65 (jl_n3_to _) ?_
          refine j2_callVz (As := [jl_vl (jl_g s0 207 (jl_add l3 (1 : Int)).toNat)]) dX12_see_66 (jt_X12_isWindow G (jl_g s0 207 (jl_add l3 (1 : Int)).toNat) (jl_n36 (jl_n3_to _)) s0) jv_X12_isWindow ⟨rfl, rfl, rfl⟩ jw_1866 jk_206 (by decide) (by decide) rfl ⟨Nat.le_of_ble_eq_true rfl, Nat.le_of_ble_eq_true rfl⟩ rfl (Nat.le_of_ble_eq_true rfl) (fun r17 s18 hr17 => ?_)
          refine jr_if_eq (t := 89) dX12_see_69 (by decide) (jl_nz hr17) (fun c19 => ?_) (fun c19 => ?_)
          · refine jr_sub [0, 1, 3] rfl ?_
            exact jj_X12_see_B89 G (jf_X12_see_L36 n) (ih) l1 l3 hl1 hl3 s18
          · refine jr_aload_n dX12_see_72 0 rfl ?_
            refine jr_getk (i := 0) jc_12 jk_206 (by decide) (Nat.le_of_ble_eq_true rfl) jlk_206_0 jw_1205 dX12_see_73 ?_
            refine jr_iload_n dX12_see_76 3 rfl ?_
            refine jr_iconst dX12_see_77 ?_
            refine jr_iadd dX12_see_78 ?_
            refine jr_grd (fun g20 => ?_)
            refine jr_iaload jk_207 (by decide) (jl_n3_to _) g20 dX12_see_79 ?_
            refine jr_bipush dX12_see_80 (by decide) ?_
            refine jr_icmp_gt (t := 89) dX12_see_82 (by decide) (jl_n3_to _) (jl_nlit rfl) (fun c21 => ?_) (fun c21 => ?_)
            · refine jr_sub [0, 1, 3] rfl ?_
              exact jj_X12_see_B89 G (jf_X12_see_L36 n) (ih) l1 l3 hl1 hl3 s18
            · refine jr_iconst dX12_see_85 ?_
              refine jr_goto (t := 90) dX12_see_86 (by decide) ?_
              refine jr_sub [0, 1, 3] rfl ?_
              exact jj_X12_see_B90 G (jf_X12_see_L36 n) (ih) l1 l3 (1 : Int) hl1 hl3 (jl_nlit rfl) s18
def jf_X12_see_B33 (l1 : Int) (k0 : Int) (s0 : jl_Mm) : jl_O :=
  jf_X12_see_L36 jl_fu l1 k0 (0 : Int) s0
set_option maxRecDepth 20000 in
set_option maxHeartbeats 2000000 in
theorem jj_X12_see_B33 (G : jl_GC) (l1 : Int) (k0 : Int) (hl1 : jl_n3 l1) (hk0 : jl_n3 k0) (s0 : jl_Mm) : j2 G jM_X12_see 33 [(0, jl_vr G 206), (1, jl_vi l1)] [jl_vi k0] s0 (jf_X12_see_B33 l1 k0 s0) := by
  refine jr_istore_n (lv := [(2, jl_vi k0), (0, jl_vr G 206), (1, jl_vi l1)]) dX12_see_33 rfl (Nat.le_of_ble_eq_true rfl) rfl ?_
  refine jr_iconst dX12_see_34 ?_
  refine jr_istore_n (lv := [(3, jl_vi (0 : Int)), (2, jl_vi k0), (0, jl_vr G 206), (1, jl_vi l1)]) dX12_see_35 rfl (Nat.le_of_ble_eq_true rfl) rfl ?_
  refine jr_sub [2, 3, 1, 0] rfl ?_
  exact jj_X12_see_L36 G jl_fu l1 k0 (0 : Int) hl1 hk0 (jl_nlit rfl) s0
def jf_X12_see_B32 (l1 : Int) (s0 : jl_Mm) : jl_O :=
  jf_X12_see_B33 l1 (0 : Int) s0
set_option maxRecDepth 20000 in
set_option maxHeartbeats 2000000 in
theorem jj_X12_see_B32 (G : jl_GC) (l1 : Int) (hl1 : jl_n3 l1) (s0 : jl_Mm) : j2 G jM_X12_see 32 [(0, jl_vr G 206), (1, jl_vi l1)] [] s0 (jf_X12_see_B32 l1 s0) := by
  refine jr_iconst dX12_see_32 ?_
  exact jj_X12_see_B33 G l1 (0 : Int) hl1 (jl_nlit rfl) s0
def jf_X12_see (s0 : jl_Mm) : jl_O :=
  jl_let (jl_g s0 206 1) fun x1 => jl_lm (jl_up s0 206 1 (0 : Int)) fun s2 => if x1 ≤ (0 : Int) then (jf_X12_see_B32 x1 s2) else (if jl_rem x1 (3 : Int) = (0 : Int) then (if (16 : Int) < jl_div x1 (3 : Int) then (jf_X12_see_B32 x1 s2) else (jf_X12_see_B33 x1 (1 : Int) s2)) else (jf_X12_see_B32 x1 s2))
set_option maxRecDepth 20000 in
set_option maxHeartbeats 2000000 in
theorem jt_X12_see (G : jl_GC) (s0 : jl_Mm) : jC2 G jM_X12_see [jl_vr G 206] s0 (jf_X12_see s0) := by
  refine jl_met (plainFor_of_name rfl) (Nat.le_of_ble_eq_true rfl) ?_
  show j2 G jM_X12_see 0 [(0, jl_vr G 206)] [] s0 _
  refine jr_aload_n dX12_see_0 0 rfl ?_
  refine jr_geti (i := 1) jc_12 jk_206 (by decide) (Nat.le_of_ble_eq_true rfl) jlk_206_1 jft_12_1 jw_1206 dX12_see_1 ?_
  refine jr_let (jl_n3_to _) (fun x1 hx1 => ?_)
  refine jr_istore_n (lv := [(1, jl_vi x1), (0, jl_vr G 206)]) dX12_see_4 rfl (Nat.le_of_ble_eq_true rfl) rfl ?_
  refine jr_aload_n dX12_see_5 1 rfl ?_
  refine jr_iconst dX12_see_6 ?_
  refine jr_puti (i := 1) jc_12 jk_206 (by decide) (Nat.le_of_ble_eq_true rfl) jlk_206_1 jft_12_1 rfl jw_1206 rfl dX12_see_7 ?_
  refine jr_lm (fun s2 => ?_)
  refine jr_iload_n dX12_see_10 0 rfl ?_
  refine jr_if_le (t := 32) dX12_see_11 (by decide) hx1 (fun c3 => ?_) (fun c3 => ?_)
  · refine jr_sub [1, 0] rfl ?_
    exact jj_X12_see_B32 G x1 hx1 s2
  · refine jr_iload_n dX12_see_14 0 rfl ?_
    refine jr_iconst dX12_see_15 ?_
    refine jr_irem dX12_see_16 (jl_nlit rfl) (by decide) ?_
    refine jr_if_ne (t := 32) dX12_see_17 (by decide) (jl_n3_to _) (fun c22 => ?_) (fun c22 => ?_)
    · refine jr_iload_n dX12_see_20 0 rfl ?_
      refine jr_iconst dX12_see_21 ?_
      refine jr_idiv dX12_see_22 (jl_nlit rfl) (by decide) ?_
      refine jr_bipush dX12_see_23 (by decide) ?_
      refine jr_icmp_gt (t := 32) dX12_see_25 (by decide) (jl_n3_to _) (jl_nlit rfl) (fun c23 => ?_) (fun c23 => ?_)
      · refine jr_sub [1, 0] rfl ?_
        exact jj_X12_see_B32 G x1 hx1 s2
      · refine jr_iconst dX12_see_28 ?_
        refine jr_goto (t := 33) dX12_see_29 (by decide) ?_
        refine jr_sub [1, 0] rfl ?_
        exact jj_X12_see_B33 G x1 (1 : Int) hx1 (jl_nlit rfl) s2
    · refine jr_sub [1, 0] rfl ?_
      exact jj_X12_see_B32 G x1 hx1 s2
def jf_X12_isAsSeen_B63 (R2 : Int → Int → jl_Mm → jl_O) (l1 : Int) (l2 : Int) (s0 : jl_Mm) : jl_O :=
  R2 l1 (jl_add l2 1) s0
set_option maxRecDepth 20000 in
set_option maxHeartbeats 2000000 in
theorem jj_X12_isAsSeen_B63 (G : jl_GC) (R2 : Int → Int → jl_Mm → jl_O) (hR2 : ∀ (l1 : Int) (l2 : Int) (_hl1 : jl_n3 l1) (_hl2 : jl_n3 l2) (s0 : jl_Mm), j2 G jM_X12_isAsSeen 2 [(0, jl_vr G 206), (1, jl_vi l1), (2, jl_vi l2)] [] s0 (R2 l1 l2 s0)) (l1 : Int) (l2 : Int) (hl1 : jl_n3 l1) (hl2 : jl_n3 l2) (s0 : jl_Mm) : j2 G jM_X12_isAsSeen 63 [(0, jl_vr G 206), (1, jl_vi l1), (2, jl_vi l2)] [] s0 (jf_X12_isAsSeen_B63 R2 l1 l2 s0) := by
  refine jr_iinc (j := 2) (lv := [(2, jl_vi (jl_add l2 1)), (0, jl_vr G 206), (1, jl_vi l1)]) dX12_isAsSeen_63 rfl (Nat.le_of_ble_eq_true rfl) rfl ?_
  refine jr_goto (t := 2) dX12_isAsSeen_66 (by decide) ?_
  refine jr_sub [1, 2, 0] rfl ?_
  exact hR2 l1 (jl_add l2 1) hl1 (jl_n3_to _) s0
def jf_X12_isAsSeen_B61 (s0 : jl_Mm) : jl_O :=
  jl_zb (0 : Int) s0
set_option maxRecDepth 20000 in
set_option maxHeartbeats 2000000 in
theorem jj_X12_isAsSeen_B61 (G : jl_GC) (s0 : jl_Mm) : j2 G jM_X12_isAsSeen 61 [] [] s0 (jf_X12_isAsSeen_B61 s0) := by
  refine jr_iconst dX12_isAsSeen_61 ?_
  exact jr_ret_z rfl dX12_isAsSeen_62
def jf_X12_isAsSeen_L2 : Nat → Int → Int → jl_Mm → jl_O
  | 0, _, _, _ => none
  | n + 1, l1, l2, s0 =>
    if jl_g s0 206 65 ≤ l2 then (jl_zb (1 : Int) s0) else (if 0 ≤ jl_mul (3 : Int) l2 ∧ jl_mul (3 : Int) l2 < ((48 : Nat) : Int) then if jl_g s0 253 (jl_mul (3 : Int) l2).toNat = l1 then (if (999 : Int) < jl_g s0 249 (((0 : Int) : Int).toNat) then (jf_X12_isAsSeen_B61 s0) else (if 0 ≤ jl_add (jl_mul (3 : Int) l2) (1 : Int) ∧ jl_add (jl_mul (3 : Int) l2) (1 : Int) < ((48 : Nat) : Int) then jl_bd (jf_X12_litIn (jl_g s0 253 (jl_add (jl_mul (3 : Int) l2) (1 : Int)).toNat) s0) fun r6 s7 => if 0 ≤ jl_add (jl_mul (3 : Int) l2) (2 : Int) ∧ jl_add (jl_mul (3 : Int) l2) (2 : Int) < ((48 : Nat) : Int) then if r6 = jl_g s7 253 (jl_add (jl_mul (3 : Int) l2) (2 : Int)).toNat then (jf_X12_isAsSeen_B63 (jf_X12_isAsSeen_L2 n) l1 l2 s7) else (jf_X12_isAsSeen_B61 s7) else none else none)) else (jf_X12_isAsSeen_B63 (jf_X12_isAsSeen_L2 n) l1 l2 s0) else none)
set_option maxRecDepth 20000 in
set_option maxHeartbeats 2000000 in
theorem jj_X12_isAsSeen_L2 (G : jl_GC) : ∀ (n : Nat) (l1 : Int) (l2 : Int) (hl1 : jl_n3 l1) (hl2 : jl_n3 l2) (s0 : jl_Mm), j2 G jM_X12_isAsSeen 2 [(0, jl_vr G 206), (1, jl_vi l1), (2, jl_vi l2)] [] s0 (jf_X12_isAsSeen_L2 n l1 l2 s0) := by
  intro n
  induction n with
  | zero =>
    intros
    exact jr_none
  | succ n ih =>
    intro l1 l2 hl1 hl2 s0
    refine jr_iload_n dX12_isAsSeen_2 2 rfl ?_
    refine jr_aload_n dX12_isAsSeen_3 0 rfl ?_
    refine jr_geti (i := 65) jc_12 jk_206 (by decide) (Nat.le_of_ble_eq_true rfl) jlk_206_65 jft_12_65 jw_1270 dX12_isAsSeen_4 ?_
    refine jr_icmp_ge (t := 69) dX12_isAsSeen_7 (by decide) hl2 (jl_n3_to _) (fun c1 => ?_) (fun c1 => ?_)
    · refine jr_iconst dX12_isAsSeen_69 ?_
      exact jr_ret_z rfl dX12_isAsSeen_70
    · refine jr_aload_n dX12_isAsSeen_10 0 rfl ?_
      refine jr_getk (i := 66) jc_12 jk_206 (by decide) (Nat.le_of_ble_eq_true rfl) jlk_206_66 jw_1271 dX12_isAsSeen_11 ?_
      refine jr_iconst dX12_isAsSeen_14 ?_
      refine jr_iload_n dX12_isAsSeen_15 2 rfl ?_
      refine jr_imul dX12_isAsSeen_16 ?_
      refine jr_grd (fun g2 => ?_)
      refine jr_iaload jk_253 (by decide) (jl_n3_to _) g2 dX12_isAsSeen_17 ?_
      refine jr_iload_n dX12_isAsSeen_18 1 rfl ?_
      refine jr_icmp_ne (t := 63) dX12_isAsSeen_19 (by decide) (jl_n3_to _) hl1 (fun c3 => ?_) (fun c3 => ?_)
      · refine jr_aload_n dX12_isAsSeen_22 0 rfl ?_
        refine jr_getk (i := 56) jc_12 jk_206 (by decide) (Nat.le_of_ble_eq_true rfl) jlk_206_56 jw_1261 dX12_isAsSeen_23 ?_
        refine jr_iconst dX12_isAsSeen_26 ?_
        refine jr_iaload jk_249 (by decide) (jl_nlit rfl) ⟨by decide, by decide⟩ dX12_isAsSeen_27 ?_
        refine jr_sipush dX12_isAsSeen_28 (by decide) ?_
        refine jr_icmp_gt (t := 61) dX12_isAsSeen_31 (by decide) (jl_n3_to _) (jl_nlit rfl) (fun c4 => ?_) (fun c4 => ?_)
        · refine jr_sub [] rfl ?_
          exact jj_X12_isAsSeen_B61 G s0
        · refine jr_aload_n dX12_isAsSeen_34 0 rfl ?_
          refine jr_aload_n dX12_isAsSeen_35 0 rfl ?_
          refine jr_getk (i := 66) jc_12 jk_206 (by decide) (Nat.le_of_ble_eq_true rfl) jlk_206_66 jw_1271 dX12_isAsSeen_36 ?_
          refine jr_iconst dX12_isAsSeen_39 ?_
          refine jr_iload_n dX12_isAsSeen_40 2 rfl ?_
          refine jr_imul dX12_isAsSeen_41 ?_
          refine jr_iconst dX12_isAsSeen_42 ?_
          refine jr_iadd dX12_isAsSeen_43 ?_
          refine jr_grd (fun g5 => ?_)
          refine jr_iaload jk_253 (by decide) (jl_n3_to _) g5 dX12_isAsSeen_44 ?_
          refine j2_callVi (As := [jl_vi (jl_g s0 253 (jl_add (jl_mul (3 : Int) l2) (1 : Int)).toNat)]) dX12_isAsSeen_45 (jt_X12_litIn G (jl_g s0 253 (jl_add (jl_mul (3 : Int) l2) (1 : Int)).toNat) (jl_n3_to _) s0) jv_X12_litIn ⟨rfl, rfl, rfl⟩ jw_1990 jk_206 (by decide) (by decide) rfl ⟨Nat.le_of_ble_eq_true rfl, Nat.le_of_ble_eq_true rfl⟩ rfl (Nat.le_of_ble_eq_true rfl) (fun r6 s7 hr6 => ?_)
          refine jr_aload_n dX12_isAsSeen_48 0 rfl ?_
          refine jr_getk (i := 66) jc_12 jk_206 (by decide) (Nat.le_of_ble_eq_true rfl) jlk_206_66 jw_1271 dX12_isAsSeen_49 ?_
          refine jr_iconst dX12_isAsSeen_52 ?_
          refine jr_iload_n dX12_isAsSeen_53 2 rfl ?_
          refine jr_imul dX12_isAsSeen_54 ?_
          refine jr_iconst dX12_isAsSeen_55 ?_
          refine jr_iadd dX12_isAsSeen_56 ?_
          refine jr_grd (fun g8 => ?_)
          refine jr_iaload jk_253 (by decide) (jl_n3_to _) g8 dX12_isAsSeen_57 ?_
          refine jr_icmp_eq (t := 63) dX12_isAsSeen_58 (by decide) hr6 (jl_n3_to _) (fun c9 => ?_) (fun c9 => ?_)
          · exact jj_X12_isAsSeen_B63 G (jf_X12_isAsSeen_L2 n) (ih) l1 l2 hl1 hl2 s7
          · refine jr_sub [] rfl ?_
            exact jj_X12_isAsSeen_B61 G s7
      · exact jj_X12_isAsSeen_B63 G (jf_X12_isAsSeen_L2 n) (ih) l1 l2 hl1 hl2 s0
def jf_X12_isAsSeen (v1 : Int) (s0 : jl_Mm) : jl_O :=
  jf_X12_isAsSeen_L2 jl_fu v1 (0 : Int) s0
set_option maxRecDepth 20000 in
set_option maxHeartbeats 2000000 in
theorem jt_X12_isAsSeen (G : jl_GC) (v1 : Int) (h1 : jl_n3 v1) (s0 : jl_Mm) : jC2 G jM_X12_isAsSeen [jl_vr G 206, jl_vi v1] s0 (jf_X12_isAsSeen v1 s0) := by
  refine jl_met (plainFor_of_name rfl) (Nat.le_of_ble_eq_true rfl) ?_
  show j2 G jM_X12_isAsSeen 0 [(0, jl_vr G 206), (1, jl_vi v1)] [] s0 _
  refine jr_iconst dX12_isAsSeen_0 ?_
  refine jr_istore_n (lv := [(2, jl_vi (0 : Int)), (0, jl_vr G 206), (1, jl_vi v1)]) dX12_isAsSeen_1 rfl (Nat.le_of_ble_eq_true rfl) rfl ?_
  refine jr_sub [1, 2, 0] rfl ?_
  exact jj_X12_isAsSeen_L2 G jl_fu v1 (0 : Int) h1 (jl_nlit rfl) s0
def jf_X12_laysInches_B145 (R11 : Int → Int → jl_Mm → jl_O) (l1 : Int) (l2 : Int) (s0 : jl_Mm) : jl_O :=
  R11 l1 (jl_add l2 1) s0
set_option maxRecDepth 20000 in
set_option maxHeartbeats 2000000 in
theorem jj_X12_laysInches_B145 (G : jl_GC) (R11 : Int → Int → jl_Mm → jl_O) (hR11 : ∀ (l1 : Int) (l2 : Int) (_hl1 : jl_n3 l1) (_hl2 : jl_n3 l2) (s0 : jl_Mm), j2 G jM_X12_laysInches 11 [(0, jl_vr G 206), (1, jl_vi l1), (2, jl_vi l2)] [] s0 (R11 l1 l2 s0)) (l1 : Int) (l2 : Int) (hl1 : jl_n3 l1) (hl2 : jl_n3 l2) (s0 : jl_Mm) : j2 G jM_X12_laysInches 145 [(0, jl_vr G 206), (1, jl_vi l1), (2, jl_vi l2)] [] s0 (jf_X12_laysInches_B145 R11 l1 l2 s0) := by
  refine jr_iinc (j := 2) (lv := [(2, jl_vi (jl_add l2 1)), (0, jl_vr G 206), (1, jl_vi l1)]) dX12_laysInches_145 rfl (Nat.le_of_ble_eq_true rfl) rfl ?_
  refine jr_goto (t := 11) dX12_laysInches_148 (by decide) ?_
  refine jr_sub [1, 2, 0] rfl ?_
  exact hR11 l1 (jl_add l2 1) hl1 (jl_n3_to _) s0
def jf_X12_laysInches_L73 (R11 : Int → Int → jl_Mm → jl_O) (R36 : Int → Int → Int → jl_Mm → jl_O) : Nat → Int → Int → Int → Int → jl_Mm → jl_O
  | 0, _, _, _, _, _ => none
  | n + 1, l1, l2, l3, l4, s0 =>
    jl_bd (jf_X12_windowMany s0) fun r22 s23 => if r22 ≤ l4 then (jl_bd (jf_X12_hourGoes s23) fun r25 s26 => R36 l1 l2 (jl_add l3 1) s26) else (jl_bd (jf_X12_litIn l4 s23) fun r27 s28 => if 0 ≤ jl_add (jl_add (jl_mul (930 : Int) l2) (jl_mul (30 : Int) l3)) l4 ∧ jl_add (jl_add (jl_mul (930 : Int) l2) (jl_mul (30 : Int) l3)) l4 < ((93000 : Nat) : Int) then jl_lm (jl_up s28 255 (jl_add (jl_add (jl_mul (930 : Int) l2) (jl_mul (30 : Int) l3)) l4).toNat r27) fun s30 => jf_X12_laysInches_L73 R11 R36 n l1 l2 l3 (jl_add l4 1) s30 else none)
set_option maxRecDepth 20000 in
set_option maxHeartbeats 2000000 in
theorem jj_X12_laysInches_L73 (G : jl_GC) (R11 : Int → Int → jl_Mm → jl_O) (R36 : Int → Int → Int → jl_Mm → jl_O) (hR11 : ∀ (l1 : Int) (l2 : Int) (_hl1 : jl_n3 l1) (_hl2 : jl_n3 l2) (s0 : jl_Mm), j2 G jM_X12_laysInches 11 [(0, jl_vr G 206), (1, jl_vi l1), (2, jl_vi l2)] [] s0 (R11 l1 l2 s0)) (hR36 : ∀ (l1 : Int) (l2 : Int) (l3 : Int) (_hl1 : jl_n3 l1) (_hl2 : jl_n3 l2) (_hl3 : jl_n3 l3) (s0 : jl_Mm), j2 G jM_X12_laysInches 36 [(0, jl_vr G 206), (1, jl_vi l1), (2, jl_vi l2), (3, jl_vi l3)] [] s0 (R36 l1 l2 l3 s0)) : ∀ (n : Nat) (l1 : Int) (l2 : Int) (l3 : Int) (l4 : Int) (hl1 : jl_n3 l1) (hl2 : jl_n3 l2) (hl3 : jl_n3 l3) (hl4 : jl_n3 l4) (s0 : jl_Mm), j2 G jM_X12_laysInches 73 [(0, jl_vr G 206), (1, jl_vi l1), (2, jl_vi l2), (3, jl_vi l3), (4, jl_vi l4)] [] s0 (jf_X12_laysInches_L73 R11 R36 n l1 l2 l3 l4 s0) := by
  intro n
  induction n with
  | zero =>
    intros
    exact jr_none
  | succ n ih =>
    intro l1 l2 l3 l4 hl1 hl2 hl3 hl4 s0
    refine jr_iload dX12_laysInches_73 4 rfl ?_
    refine jr_aload_n dX12_laysInches_75 0 rfl ?_
    refine j2_callVi (As := []) dX12_laysInches_76 (jt_X12_windowMany G s0) jv_X12_windowMany ⟨rfl, rfl, rfl⟩ jw_1743 jk_206 (by decide) (by decide) rfl ⟨Nat.le_of_ble_eq_true rfl, Nat.le_of_ble_eq_true rfl⟩ rfl (Nat.le_of_ble_eq_true rfl) (fun r22 s23 hr22 => ?_)
    refine jr_icmp_ge (t := 112) dX12_laysInches_79 (by decide) hl4 hr22 (fun c24 => ?_) (fun c24 => ?_)
    · refine jr_aload_n dX12_laysInches_112 0 rfl ?_
      refine j2_callVv (As := []) dX12_laysInches_113 (jt_X12_hourGoes G s23) jv_X12_hourGoes ⟨rfl, rfl, rfl⟩ jw_1894 jk_206 (by decide) (by decide) rfl ⟨Nat.le_of_ble_eq_true rfl, Nat.le_of_ble_eq_true rfl⟩ rfl (Nat.le_of_ble_eq_true rfl) (fun r25 s26 hr25 => ?_)
      refine jr_iinc (j := 3) (lv := [(3, jl_vi (jl_add l3 1)), (0, jl_vr G 206), (1, jl_vi l1), (2, jl_vi l2), (4, jl_vi l4)]) dX12_laysInches_116 rfl (Nat.le_of_ble_eq_true rfl) rfl ?_
      refine jr_goto (t := 36) dX12_laysInches_119 (by decide) ?_
      refine jr_sub [1, 2, 3, 0] rfl ?_
      exact hR36 l1 l2 (jl_add l3 1) hl1 hl2 (jl_n3_to _) s26
    · refine jr_aload_n dX12_laysInches_82 0 rfl ?_
      refine jr_getk (i := 69) jc_12 jk_206 (by decide) (Nat.le_of_ble_eq_true rfl) jlk_206_69 jw_1274 dX12_laysInches_83 ?_
      refine jr_sipush dX12_laysInches_86 (by decide) ?_
      refine jr_iload_n dX12_laysInches_89 2 rfl ?_
      refine jr_imul dX12_laysInches_90 ?_
      refine jr_bipush dX12_laysInches_91 (by decide) ?_
      refine jr_iload_n dX12_laysInches_93 3 rfl ?_
      refine jr_imul dX12_laysInches_94 ?_
      refine jr_iadd dX12_laysInches_95 ?_
      refine jr_iload dX12_laysInches_96 4 rfl ?_
      refine jr_iadd dX12_laysInches_98 ?_
      refine jr_aload_n dX12_laysInches_99 0 rfl ?_
      refine jr_iload dX12_laysInches_100 4 rfl ?_
      refine j2_callVi (As := [jl_vi l4]) dX12_laysInches_102 (jt_X12_litIn G l4 hl4 s23) jv_X12_litIn ⟨rfl, rfl, rfl⟩ jw_1990 jk_206 (by decide) (by decide) rfl ⟨Nat.le_of_ble_eq_true rfl, Nat.le_of_ble_eq_true rfl⟩ rfl (Nat.le_of_ble_eq_true rfl) (fun r27 s28 hr27 => ?_)
      refine jr_grd (fun g29 => ?_)
      refine jr_iastore jk_255 (by decide) (jl_n3_to _) g29 dX12_laysInches_105 ?_
      refine jr_lm (fun s30 => ?_)
      refine jr_iinc (j := 4) (lv := [(4, jl_vi (jl_add l4 1)), (0, jl_vr G 206), (1, jl_vi l1), (2, jl_vi l2), (3, jl_vi l3)]) dX12_laysInches_106 rfl (Nat.le_of_ble_eq_true rfl) rfl ?_
      refine jr_goto (t := 73) dX12_laysInches_109 (by decide) ?_
      refine jr_sub [1, 2, 3, 4, 0] rfl ?_
      exact ih l1 l2 l3 (jl_add l4 1) hl1 hl2 hl3 (jl_n3_to _) s30
def jf_X12_laysInches_B69 (R11 : Int → Int → jl_Mm → jl_O) (R36 : Int → Int → Int → jl_Mm → jl_O) (l1 : Int) (l2 : Int) (l3 : Int) (k1 : Int) (k2 : Int) (s0 : jl_Mm) : jl_O :=
  if 0 ≤ k1 ∧ k1 < ((100 : Nat) : Int) then if k2 = 0 ∨ k2 = 1 then jl_lm (jl_up s0 254 (k1).toNat k2) fun s21 => jf_X12_laysInches_L73 (R11) (R36) jl_fu l1 l2 l3 (0 : Int) s21 else none else none
set_option maxRecDepth 20000 in
set_option maxHeartbeats 2000000 in
theorem jj_X12_laysInches_B69 (G : jl_GC) (R11 : Int → Int → jl_Mm → jl_O) (R36 : Int → Int → Int → jl_Mm → jl_O) (hR11 : ∀ (l1 : Int) (l2 : Int) (_hl1 : jl_n3 l1) (_hl2 : jl_n3 l2) (s0 : jl_Mm), j2 G jM_X12_laysInches 11 [(0, jl_vr G 206), (1, jl_vi l1), (2, jl_vi l2)] [] s0 (R11 l1 l2 s0)) (hR36 : ∀ (l1 : Int) (l2 : Int) (l3 : Int) (_hl1 : jl_n3 l1) (_hl2 : jl_n3 l2) (_hl3 : jl_n3 l3) (s0 : jl_Mm), j2 G jM_X12_laysInches 36 [(0, jl_vr G 206), (1, jl_vi l1), (2, jl_vi l2), (3, jl_vi l3)] [] s0 (R36 l1 l2 l3 s0)) (l1 : Int) (l2 : Int) (l3 : Int) (k1 : Int) (k2 : Int) (hl1 : jl_n3 l1) (hl2 : jl_n3 l2) (hl3 : jl_n3 l3) (hk1 : jl_n3 k1) (hk2 : jl_n3 k2) (s0 : jl_Mm) : j2 G jM_X12_laysInches 69 [(0, jl_vr G 206), (1, jl_vi l1), (2, jl_vi l2), (3, jl_vi l3)] [jl_vi k2, jl_vi k1, jl_vr G 254] s0 (jf_X12_laysInches_B69 R11 R36 l1 l2 l3 k1 k2 s0) := by
  refine jr_grd (fun g19 => ?_)
  refine jr_grd (fun g20 => ?_)
  refine jr_zastore jk_254 (by decide) hk1 g19 g20 dX12_laysInches_69 ?_
  refine jr_lm (fun s21 => ?_)
  refine jr_iconst dX12_laysInches_70 ?_
  refine jr_istore (lv := [(4, jl_vi (0 : Int)), (0, jl_vr G 206), (1, jl_vi l1), (2, jl_vi l2), (3, jl_vi l3)]) dX12_laysInches_71 (Nat.le_of_ble_eq_true rfl) rfl ?_
  refine jr_sub [1, 2, 3, 4, 0] rfl ?_
  exact jj_X12_laysInches_L73 G (R11) (R36) (hR11) (hR36) jl_fu l1 l2 l3 (0 : Int) hl1 hl2 hl3 (jl_nlit rfl) s21
def jf_X12_laysInches_B68 (R11 : Int → Int → jl_Mm → jl_O) (R36 : Int → Int → Int → jl_Mm → jl_O) (l1 : Int) (l2 : Int) (l3 : Int) (k1 : Int) (s0 : jl_Mm) : jl_O :=
  jf_X12_laysInches_B69 (R11) (R36) l1 l2 l3 k1 (0 : Int) s0
set_option maxRecDepth 20000 in
set_option maxHeartbeats 2000000 in
theorem jj_X12_laysInches_B68 (G : jl_GC) (R11 : Int → Int → jl_Mm → jl_O) (R36 : Int → Int → Int → jl_Mm → jl_O) (hR11 : ∀ (l1 : Int) (l2 : Int) (_hl1 : jl_n3 l1) (_hl2 : jl_n3 l2) (s0 : jl_Mm), j2 G jM_X12_laysInches 11 [(0, jl_vr G 206), (1, jl_vi l1), (2, jl_vi l2)] [] s0 (R11 l1 l2 s0)) (hR36 : ∀ (l1 : Int) (l2 : Int) (l3 : Int) (_hl1 : jl_n3 l1) (_hl2 : jl_n3 l2) (_hl3 : jl_n3 l3) (s0 : jl_Mm), j2 G jM_X12_laysInches 36 [(0, jl_vr G 206), (1, jl_vi l1), (2, jl_vi l2), (3, jl_vi l3)] [] s0 (R36 l1 l2 l3 s0)) (l1 : Int) (l2 : Int) (l3 : Int) (k1 : Int) (hl1 : jl_n3 l1) (hl2 : jl_n3 l2) (hl3 : jl_n3 l3) (hk1 : jl_n3 k1) (s0 : jl_Mm) : j2 G jM_X12_laysInches 68 [(0, jl_vr G 206), (1, jl_vi l1), (2, jl_vi l2), (3, jl_vi l3)] [jl_vi k1, jl_vr G 254] s0 (jf_X12_laysInches_B68 R11 R36 l1 l2 l3 k1 s0) := by
  refine jr_iconst dX12_laysInches_68 ?_
  exact jj_X12_laysInches_B69 G (R11) (R36) (hR11) (hR36) l1 l2 l3 k1 (0 : Int) hl1 hl2 hl3 hk1 (jl_nlit rfl) s0
def jf_X12_laysInches_L36 (R11 : Int → Int → jl_Mm → jl_O) : Nat → Int → Int → Int → jl_Mm → jl_O
  | 0, _, _, _, _ => none
  | n + 1, l1, l2, l3, s0 =>
    if (30 : Int) < l3 then (jl_bd (jf_X12_triesAnew s0) fun r12 s13 => if 0 ≤ l2 ∧ l2 < ((100 : Nat) : Int) then if jl_g s13 254 (l2).toNat = (0 : Int) then (jf_X12_laysInches_B145 (R11) l1 l2 s13) else (jl_lm (jl_up s13 206 68 (jl_add (jl_g s13 206 68) (1 : Int))) fun s16 => jf_X12_laysInches_B145 (R11) l1 l2 s16) else none) else (if 0 ≤ l2 ∧ l2 < ((100 : Nat) : Int) then if jl_g s0 254 (l2).toNat = (0 : Int) then (jf_X12_laysInches_B68 (R11) (jf_X12_laysInches_L36 R11 n) l1 l2 l3 l2 s0) else (jl_bd (jf_X12_isAsSeen l3 s0) fun r31 s32 => if r31 = (0 : Int) then (jf_X12_laysInches_B68 (R11) (jf_X12_laysInches_L36 R11 n) l1 l2 l3 l2 s32) else (jf_X12_laysInches_B69 (R11) (jf_X12_laysInches_L36 R11 n) l1 l2 l3 l2 (1 : Int) s32)) else none)
set_option maxRecDepth 20000 in
set_option maxHeartbeats 2000000 in
theorem jj_X12_laysInches_L36 (G : jl_GC) (R11 : Int → Int → jl_Mm → jl_O) (hR11 : ∀ (l1 : Int) (l2 : Int) (_hl1 : jl_n3 l1) (_hl2 : jl_n3 l2) (s0 : jl_Mm), j2 G jM_X12_laysInches 11 [(0, jl_vr G 206), (1, jl_vi l1), (2, jl_vi l2)] [] s0 (R11 l1 l2 s0)) : ∀ (n : Nat) (l1 : Int) (l2 : Int) (l3 : Int) (hl1 : jl_n3 l1) (hl2 : jl_n3 l2) (hl3 : jl_n3 l3) (s0 : jl_Mm), j2 G jM_X12_laysInches 36 [(0, jl_vr G 206), (1, jl_vi l1), (2, jl_vi l2), (3, jl_vi l3)] [] s0 (jf_X12_laysInches_L36 R11 n l1 l2 l3 s0) := by
  intro n
  induction n with
  | zero =>
    intros
    exact jr_none
  | succ n ih =>
    intro l1 l2 l3 hl1 hl2 hl3 s0
    refine jr_iload_n dX12_laysInches_36 3 rfl ?_
    refine jr_bipush dX12_laysInches_37 (by decide) ?_
    refine jr_icmp_gt (t := 122) dX12_laysInches_39 (by decide) hl3 (jl_nlit rfl) (fun c11 => ?_) (fun c11 => ?_)
    · refine jr_aload_n dX12_laysInches_122 0 rfl ?_
      refine j2_callVv (As := []) dX12_laysInches_123 (jt_X12_triesAnew G s0) jv_X12_triesAnew ⟨rfl, rfl, rfl⟩ jw_1922 jk_206 (by decide) (by decide) rfl ⟨Nat.le_of_ble_eq_true rfl, Nat.le_of_ble_eq_true rfl⟩ rfl (Nat.le_of_ble_eq_true rfl) (fun r12 s13 hr12 => ?_)
      refine jr_aload_n dX12_laysInches_126 0 rfl ?_
      refine jr_getk (i := 67) jc_12 jk_206 (by decide) (Nat.le_of_ble_eq_true rfl) jlk_206_67 jw_1272 dX12_laysInches_127 ?_
      refine jr_iload_n dX12_laysInches_130 2 rfl ?_
      refine jr_grd (fun g14 => ?_)
      refine jr_zaload jk_254 (by decide) hl2 g14 dX12_laysInches_131 ?_
      refine jr_if_eq (t := 145) dX12_laysInches_132 (by decide) (jl_n3_to _) (fun c15 => ?_) (fun c15 => ?_)
      · refine jr_sub [0, 1, 2] rfl ?_
        exact jj_X12_laysInches_B145 G (R11) (hR11) l1 l2 hl1 hl2 s13
      · refine jr_aload_n dX12_laysInches_135 0 rfl ?_
        refine jr_dup dX12_laysInches_136 rfl ?_
        refine jr_geti (i := 68) jc_12 jk_206 (by decide) (Nat.le_of_ble_eq_true rfl) jlk_206_68 jft_12_68 jw_1273 dX12_laysInches_137 ?_
        refine jr_iconst dX12_laysInches_140 ?_
        refine jr_iadd dX12_laysInches_141 ?_
        refine jr_puti (i := 68) jc_12 jk_206 (by decide) (Nat.le_of_ble_eq_true rfl) jlk_206_68 jft_12_68 rfl jw_1273 rfl dX12_laysInches_142 ?_
        refine jr_lm (fun s16 => ?_)
        refine jr_sub [0, 1, 2] rfl ?_
        exact jj_X12_laysInches_B145 G (R11) (hR11) l1 l2 hl1 hl2 s16
    · refine jr_aload_n dX12_laysInches_42 0 rfl ?_
      refine jr_getk (i := 67) jc_12 jk_206 (by decide) (Nat.le_of_ble_eq_true rfl) jlk_206_67 jw_1272 dX12_laysInches_43 ?_
      refine jr_iload_n dX12_laysInches_46 2 rfl ?_
      refine jr_aload_n dX12_laysInches_47 0 rfl ?_
      refine jr_getk (i := 67) jc_12 jk_206 (by decide) (Nat.le_of_ble_eq_true rfl) jlk_206_67 jw_1272 dX12_laysInches_48 ?_
      refine jr_iload_n dX12_laysInches_51 2 rfl ?_
      refine jr_grd (fun g17 => ?_)
      refine jr_zaload jk_254 (by decide) hl2 g17 dX12_laysInches_52 ?_
      refine jr_if_eq (t := 68) dX12_laysInches_53 (by decide) (jl_n3_to _) (fun c18 => ?_) (fun c18 => ?_)
      · exact jj_X12_laysInches_B68 G (R11) (jf_X12_laysInches_L36 R11 n) (hR11) (ih) l1 l2 l3 l2 hl1 hl2 hl3 hl2 s0
      · refine jr_aload_n dX12_laysInches_56 0 rfl ?_
        refine jr_iload_n dX12_laysInches_57 3 rfl ?_
        refine j2_callVz (As := [jl_vi l3]) dX12_laysInches_58 (jt_X12_isAsSeen G l3 hl3 s0) jv_X12_isAsSeen ⟨rfl, rfl, rfl⟩ jw_1986 jk_206 (by decide) (by decide) rfl ⟨Nat.le_of_ble_eq_true rfl, Nat.le_of_ble_eq_true rfl⟩ rfl (Nat.le_of_ble_eq_true rfl) (fun r31 s32 hr31 => ?_)
        refine jr_if_eq (t := 68) dX12_laysInches_61 (by decide) (jl_nz hr31) (fun c33 => ?_) (fun c33 => ?_)
        · exact jj_X12_laysInches_B68 G (R11) (jf_X12_laysInches_L36 R11 n) (hR11) (ih) l1 l2 l3 l2 hl1 hl2 hl3 hl2 s32
        · refine jr_iconst dX12_laysInches_64 ?_
          refine jr_goto (t := 69) dX12_laysInches_65 (by decide) ?_
          exact jj_X12_laysInches_B69 G (R11) (jf_X12_laysInches_L36 R11 n) (hR11) (ih) l1 l2 l3 l2 (1 : Int) hl1 hl2 hl3 hl2 (jl_nlit rfl) s32
def jf_X12_laysInches_L11 : Nat → Int → Int → jl_Mm → jl_O
  | 0, _, _, _ => none
  | n + 1, l1, l2, s0 =>
    if (99 : Int) < l2 then (jl_bd (jf_X12_takesBack s0) fun r5 s6 => some (0, s6)) else (if 0 ≤ jl_add (8 : Int) l1 ∧ jl_add (8 : Int) l1 < ((105 : Nat) : Int) then jl_lm (jl_up s0 249 (jl_add (8 : Int) l1).toNat l2) fun s8 => if 0 ≤ l2 ∧ l2 < ((100 : Nat) : Int) then jl_lm (jl_up s8 254 (l2).toNat (1 : Int)) fun s10 => jf_X12_laysInches_L36 (jf_X12_laysInches_L11 n) jl_fu l1 l2 (0 : Int) s10 else none else none)
set_option maxRecDepth 20000 in
set_option maxHeartbeats 2000000 in
theorem jj_X12_laysInches_L11 (G : jl_GC) : ∀ (n : Nat) (l1 : Int) (l2 : Int) (hl1 : jl_n3 l1) (hl2 : jl_n3 l2) (s0 : jl_Mm), j2 G jM_X12_laysInches 11 [(0, jl_vr G 206), (1, jl_vi l1), (2, jl_vi l2)] [] s0 (jf_X12_laysInches_L11 n l1 l2 s0) := by
  intro n
  induction n with
  | zero =>
    intros
    exact jr_none
  | succ n ih =>
    intro l1 l2 hl1 hl2 s0
    refine jr_iload_n dX12_laysInches_11 2 rfl ?_
    refine jr_bipush dX12_laysInches_12 (by decide) ?_
    refine jr_icmp_gt (t := 151) dX12_laysInches_14 (by decide) hl2 (jl_nlit rfl) (fun c4 => ?_) (fun c4 => ?_)
    · refine jr_aload_n dX12_laysInches_151 0 rfl ?_
      refine j2_callVv (As := []) dX12_laysInches_152 (jt_X12_takesBack G s0) jv_X12_takesBack ⟨rfl, rfl, rfl⟩ jw_1918 jk_206 (by decide) (by decide) rfl ⟨Nat.le_of_ble_eq_true rfl, Nat.le_of_ble_eq_true rfl⟩ rfl (Nat.le_of_ble_eq_true rfl) (fun r5 s6 hr5 => ?_)
      exact jr_ret_v rfl dX12_laysInches_155
    · refine jr_aload_n dX12_laysInches_17 0 rfl ?_
      refine jr_getk (i := 56) jc_12 jk_206 (by decide) (Nat.le_of_ble_eq_true rfl) jlk_206_56 jw_1261 dX12_laysInches_18 ?_
      refine jr_bipush dX12_laysInches_21 (by decide) ?_
      refine jr_iload_n dX12_laysInches_23 1 rfl ?_
      refine jr_iadd dX12_laysInches_24 ?_
      refine jr_iload_n dX12_laysInches_25 2 rfl ?_
      refine jr_grd (fun g7 => ?_)
      refine jr_iastore jk_249 (by decide) (jl_n3_to _) g7 dX12_laysInches_26 ?_
      refine jr_lm (fun s8 => ?_)
      refine jr_aload_n dX12_laysInches_27 0 rfl ?_
      refine jr_getk (i := 67) jc_12 jk_206 (by decide) (Nat.le_of_ble_eq_true rfl) jlk_206_67 jw_1272 dX12_laysInches_28 ?_
      refine jr_iload_n dX12_laysInches_31 2 rfl ?_
      refine jr_iconst dX12_laysInches_32 ?_
      refine jr_grd (fun g9 => ?_)
      refine jr_zastore jk_254 (by decide) hl2 g9 (by decide) dX12_laysInches_33 ?_
      refine jr_lm (fun s10 => ?_)
      refine jr_iconst dX12_laysInches_34 ?_
      refine jr_istore_n (lv := [(3, jl_vi (0 : Int)), (0, jl_vr G 206), (1, jl_vi l1), (2, jl_vi l2)]) dX12_laysInches_35 rfl (Nat.le_of_ble_eq_true rfl) rfl ?_
      refine jr_sub [1, 2, 3, 0] rfl ?_
      exact jj_X12_laysInches_L36 G (jf_X12_laysInches_L11 n) (ih) jl_fu l1 l2 (0 : Int) hl1 hl2 (jl_nlit rfl) s10
def jf_X12_laysInches (v1 : Int) (s0 : jl_Mm) : jl_O :=
  jl_lm (jl_up s0 206 68 (0 : Int)) fun s1 => jl_bd (jf_X12_putsAside s1) fun r2 s3 => jf_X12_laysInches_L11 jl_fu v1 (1 : Int) s3
set_option maxRecDepth 20000 in
set_option maxHeartbeats 2000000 in
theorem jt_X12_laysInches (G : jl_GC) (v1 : Int) (h1 : jl_n3 v1) (s0 : jl_Mm) : jC2 G jM_X12_laysInches [jl_vr G 206, jl_vi v1] s0 (jf_X12_laysInches v1 s0) := by
  refine jl_met (plainFor_of_name rfl) (Nat.le_of_ble_eq_true rfl) ?_
  show j2 G jM_X12_laysInches 0 [(0, jl_vr G 206), (1, jl_vi v1)] [] s0 _
  refine jr_aload_n dX12_laysInches_0 0 rfl ?_
  refine jr_iconst dX12_laysInches_1 ?_
  refine jr_puti (i := 68) jc_12 jk_206 (by decide) (Nat.le_of_ble_eq_true rfl) jlk_206_68 jft_12_68 rfl jw_1273 rfl dX12_laysInches_2 ?_
  refine jr_lm (fun s1 => ?_)
  refine jr_aload_n dX12_laysInches_5 0 rfl ?_
  refine j2_callVv (As := []) dX12_laysInches_6 (jt_X12_putsAside G s1) jv_X12_putsAside ⟨rfl, rfl, rfl⟩ jw_1886 jk_206 (by decide) (by decide) rfl ⟨Nat.le_of_ble_eq_true rfl, Nat.le_of_ble_eq_true rfl⟩ rfl (Nat.le_of_ble_eq_true rfl) (fun r2 s3 hr2 => ?_)
  refine jr_iconst dX12_laysInches_9 ?_
  refine jr_istore_n (lv := [(2, jl_vi (1 : Int)), (0, jl_vr G 206), (1, jl_vi v1)]) dX12_laysInches_10 rfl (Nat.le_of_ble_eq_true rfl) rfl ?_
  refine jr_sub [1, 2, 0] rfl ?_
  exact jj_X12_laysInches_L11 G jl_fu v1 (1 : Int) h1 (jl_nlit rfl) s3
def jf_X12_inches_B22 (s0 : jl_Mm) : jl_O :=
  some ((-1 : Int), s0)
set_option maxRecDepth 20000 in
set_option maxHeartbeats 2000000 in
theorem jj_X12_inches_B22 (G : jl_GC) (s0 : jl_Mm) : j2 G jM_X12_inches 22 [] [] s0 (jf_X12_inches_B22 s0) := by
  refine jr_iconst dX12_inches_22 ?_
  exact jr_ret_i rfl (jl_nlit rfl) dX12_inches_23
def jf_X12_inches_B75 (R44 : Int → Int → Int → jl_Mm → jl_O) (l2 : Int) (l3 : Int) (l4 : Int) (s0 : jl_Mm) : jl_O :=
  R44 l2 l3 (jl_add l4 1) s0
set_option maxRecDepth 20000 in
set_option maxHeartbeats 2000000 in
theorem jj_X12_inches_B75 (G : jl_GC) (R44 : Int → Int → Int → jl_Mm → jl_O) (hR44 : ∀ (l2 : Int) (l3 : Int) (l4 : Int) (_hl2 : jl_n3 l2) (_hl3 : jl_n3 l3) (_hl4 : jl_n3 l4) (s0 : jl_Mm), j2 G jM_X12_inches 44 [(0, jl_vr G 206), (2, jl_vi l2), (3, jl_vi l3), (4, jl_vi l4)] [] s0 (R44 l2 l3 l4 s0)) (l2 : Int) (l3 : Int) (l4 : Int) (hl2 : jl_n3 l2) (hl3 : jl_n3 l3) (hl4 : jl_n3 l4) (s0 : jl_Mm) : j2 G jM_X12_inches 75 [(0, jl_vr G 206), (2, jl_vi l2), (3, jl_vi l3), (4, jl_vi l4)] [] s0 (jf_X12_inches_B75 R44 l2 l3 l4 s0) := by
  refine jr_iinc (j := 3) (lv := [(4, jl_vi (jl_add l4 1)), (0, jl_vr G 206), (2, jl_vi l2), (3, jl_vi l3)]) dX12_inches_75 rfl (Nat.le_of_ble_eq_true rfl) rfl ?_
  refine jr_goto (t := 44) dX12_inches_78 (by decide) ?_
  refine jr_sub [1, 2, 3, 0] rfl ?_
  exact hR44 l2 l3 (jl_add l4 1) hl2 hl3 (jl_n3_to _) s0
def jf_X12_inches_L44 : Nat → Int → Int → Int → jl_Mm → jl_O
  | 0, _, _, _, _ => none
  | n + 1, l2, l3, l4, s0 =>
    if (99 : Int) < l4 then (some ((-1 : Int), s0)) else (if 0 ≤ l4 ∧ l4 < ((100 : Nat) : Int) then if jl_g s0 254 (l4).toNat = (0 : Int) then (jf_X12_inches_B75 (jf_X12_inches_L44 n) l2 l3 l4 s0) else (if l3 = l2 then (some (l4, s0)) else (jf_X12_inches_B75 (jf_X12_inches_L44 n) l2 (jl_add l3 1) l4 s0)) else none)
set_option maxRecDepth 20000 in
set_option maxHeartbeats 2000000 in
theorem jj_X12_inches_L44 (G : jl_GC) : ∀ (n : Nat) (l2 : Int) (l3 : Int) (l4 : Int) (hl2 : jl_n3 l2) (hl3 : jl_n3 l3) (hl4 : jl_n3 l4) (s0 : jl_Mm), j2 G jM_X12_inches 44 [(0, jl_vr G 206), (2, jl_vi l2), (3, jl_vi l3), (4, jl_vi l4)] [] s0 (jf_X12_inches_L44 n l2 l3 l4 s0) := by
  intro n
  induction n with
  | zero =>
    intros
    exact jr_none
  | succ n ih =>
    intro l2 l3 l4 hl2 hl3 hl4 s0
    refine jr_iload dX12_inches_44 3 rfl ?_
    refine jr_bipush dX12_inches_46 (by decide) ?_
    refine jr_icmp_gt (t := 81) dX12_inches_48 (by decide) hl4 (jl_nlit rfl) (fun c11 => ?_) (fun c11 => ?_)
    · refine jr_iconst dX12_inches_81 ?_
      exact jr_ret_i rfl (jl_nlit rfl) dX12_inches_82
    · refine jr_aload_n dX12_inches_51 0 rfl ?_
      refine jr_getk (i := 67) jc_12 jk_206 (by decide) (Nat.le_of_ble_eq_true rfl) jlk_206_67 jw_1272 dX12_inches_52 ?_
      refine jr_iload dX12_inches_55 3 rfl ?_
      refine jr_grd (fun g12 => ?_)
      refine jr_zaload jk_254 (by decide) hl4 g12 dX12_inches_57 ?_
      refine jr_if_ne (t := 64) dX12_inches_58 (by decide) (jl_n3_to _) (fun c13 => ?_) (fun c13 => ?_)
      · refine jr_goto (t := 75) dX12_inches_61 (by decide) ?_
        exact jj_X12_inches_B75 G (jf_X12_inches_L44 n) (ih) l2 l3 l4 hl2 hl3 hl4 s0
      · refine jr_iload_n dX12_inches_64 2 rfl ?_
        refine jr_iload_n dX12_inches_65 1 rfl ?_
        refine jr_icmp_ne (t := 72) dX12_inches_66 (by decide) hl3 hl2 (fun c14 => ?_) (fun c14 => ?_)
        · refine jr_iload dX12_inches_69 3 rfl ?_
          exact jr_ret_i rfl hl4 dX12_inches_71
        · refine jr_iinc (j := 2) (lv := [(3, jl_vi (jl_add l3 1)), (0, jl_vr G 206), (2, jl_vi l2), (4, jl_vi l4)]) dX12_inches_72 rfl (Nat.le_of_ble_eq_true rfl) rfl ?_
          refine jr_sub [1, 2, 0, 3] rfl ?_
          exact jj_X12_inches_B75 G (jf_X12_inches_L44 n) (ih) l2 (jl_add l3 1) l4 hl2 (jl_n3_to _) hl4 s0
def jf_X12_inches (v1 : Int) (v2 : Int) (s0 : jl_Mm) : jl_O :=
  jl_bd (jf_X12_isLie v1 s0) fun r1 s2 => if r1 = (0 : Int) then (jf_X12_inches_B22 s2) else (jl_bd (jf_X12_isLit v1 s2) fun r4 s5 => if r4 = (0 : Int) then (jf_X12_inches_B22 s5) else (if (-1 : Int) ≤ v2 then (jl_bd (jf_X12_laysInches v1 s5) fun r8 s9 => if v2 = (-1 : Int) then (some (jl_g s9 206 68, s9)) else (jf_X12_inches_L44 jl_fu v2 (0 : Int) (1 : Int) s9)) else (jf_X12_inches_B22 s5)))
set_option maxRecDepth 20000 in
set_option maxHeartbeats 2000000 in
theorem jt_X12_inches (G : jl_GC) (v1 : Int) (v2 : Int) (h1 : jl_n3 v1) (h2 : jl_n3 v2) (s0 : jl_Mm) : jC2 G jM_X12_inches [jl_vr G 206, jl_vi v1, jl_vi v2] s0 (jf_X12_inches v1 v2 s0) := by
  refine jl_met (plainFor_of_name rfl) (Nat.le_of_ble_eq_true rfl) ?_
  show j2 G jM_X12_inches 0 [(0, jl_vr G 206), (1, jl_vi v1), (2, jl_vi v2)] [] s0 _
  refine jr_aload_n dX12_inches_0 0 rfl ?_
  refine jr_iload_n dX12_inches_1 1 rfl ?_
  refine jr_i2l dX12_inches_2 h1 ?_
  refine j2_callVz (As := [jl_vl v1]) dX12_inches_3 (jt_X12_isLie G v1 (jl_n36 h1) s0) jv_X12_isLie ⟨rfl, rfl, rfl⟩ jw_1850 jk_206 (by decide) (by decide) rfl ⟨Nat.le_of_ble_eq_true rfl, Nat.le_of_ble_eq_true rfl⟩ rfl (Nat.le_of_ble_eq_true rfl) (fun r1 s2 hr1 => ?_)
  refine jr_if_eq (t := 22) dX12_inches_6 (by decide) (jl_nz hr1) (fun c3 => ?_) (fun c3 => ?_)
  · refine jr_sub [] rfl ?_
    exact jj_X12_inches_B22 G s2
  · refine jr_aload_n dX12_inches_9 0 rfl ?_
    refine jr_iload_n dX12_inches_10 1 rfl ?_
    refine j2_callVz (As := [jl_vi v1]) dX12_inches_11 (jt_X12_isLit G v1 h1 s2) jv_X12_isLit ⟨rfl, rfl, rfl⟩ jw_1763 jk_206 (by decide) (by decide) rfl ⟨Nat.le_of_ble_eq_true rfl, Nat.le_of_ble_eq_true rfl⟩ rfl (Nat.le_of_ble_eq_true rfl) (fun r4 s5 hr4 => ?_)
    refine jr_if_eq (t := 22) dX12_inches_14 (by decide) (jl_nz hr4) (fun c6 => ?_) (fun c6 => ?_)
    · refine jr_sub [] rfl ?_
      exact jj_X12_inches_B22 G s5
    · refine jr_iload_n dX12_inches_17 2 rfl ?_
      refine jr_iconst dX12_inches_18 ?_
      refine jr_icmp_ge (t := 24) dX12_inches_19 (by decide) h2 (jl_nlit rfl) (fun c7 => ?_) (fun c7 => ?_)
      · refine jr_aload_n dX12_inches_24 0 rfl ?_
        refine jr_iload_n dX12_inches_25 1 rfl ?_
        refine j2_callVv (As := [jl_vi v1]) dX12_inches_26 (jt_X12_laysInches G v1 h1 s5) jv_X12_laysInches ⟨rfl, rfl, rfl⟩ jw_1982 jk_206 (by decide) (by decide) rfl ⟨Nat.le_of_ble_eq_true rfl, Nat.le_of_ble_eq_true rfl⟩ rfl (Nat.le_of_ble_eq_true rfl) (fun r8 s9 hr8 => ?_)
        refine jr_iload_n dX12_inches_29 2 rfl ?_
        refine jr_iconst dX12_inches_30 ?_
        refine jr_icmp_ne (t := 39) dX12_inches_31 (by decide) h2 (jl_nlit rfl) (fun c10 => ?_) (fun c10 => ?_)
        · refine jr_aload_n dX12_inches_34 0 rfl ?_
          refine jr_geti (i := 68) jc_12 jk_206 (by decide) (Nat.le_of_ble_eq_true rfl) jlk_206_68 jft_12_68 jw_1273 dX12_inches_35 ?_
          exact jr_ret_i rfl (jl_n3_to _) dX12_inches_38
        · refine jr_iconst dX12_inches_39 ?_
          refine jr_istore_n (lv := [(3, jl_vi (0 : Int)), (0, jl_vr G 206), (1, jl_vi v1), (2, jl_vi v2)]) dX12_inches_40 rfl (Nat.le_of_ble_eq_true rfl) rfl ?_
          refine jr_iconst dX12_inches_41 ?_
          refine jr_istore (lv := [(4, jl_vi (1 : Int)), (3, jl_vi (0 : Int)), (0, jl_vr G 206), (1, jl_vi v1), (2, jl_vi v2)]) dX12_inches_42 (Nat.le_of_ble_eq_true rfl) rfl ?_
          refine jr_sub [2, 4, 1, 0] rfl ?_
          exact jj_X12_inches_L44 G jl_fu v2 (0 : Int) (1 : Int) h2 (jl_nlit rfl) (jl_nlit rfl) s9
      · refine jr_sub [] rfl ?_
        exact jj_X12_inches_B22 G s5
def jf_X12_mostAlike_B87 (R25 : Int → Int → Int → jl_Mm → jl_O) (l1 : Int) (l2 : Int) (l3 : Int) (s0 : jl_Mm) : jl_O :=
  R25 l1 l2 (jl_add l3 1) s0
set_option maxRecDepth 20000 in
set_option maxHeartbeats 2000000 in
theorem jj_X12_mostAlike_B87 (G : jl_GC) (R25 : Int → Int → Int → jl_Mm → jl_O) (hR25 : ∀ (l1 : Int) (l2 : Int) (l3 : Int) (_hl1 : jl_n3 l1) (_hl2 : jl_n3 l2) (_hl3 : jl_n3 l3) (s0 : jl_Mm), j2 G jM_X12_mostAlike 25 [(0, jl_vr G 206), (1, jl_vi l1), (2, jl_vi l2), (3, jl_vi l3)] [] s0 (R25 l1 l2 l3 s0)) (l1 : Int) (l2 : Int) (l3 : Int) (hl1 : jl_n3 l1) (hl2 : jl_n3 l2) (hl3 : jl_n3 l3) (s0 : jl_Mm) : j2 G jM_X12_mostAlike 87 [(0, jl_vr G 206), (1, jl_vi l1), (2, jl_vi l2), (3, jl_vi l3)] [] s0 (jf_X12_mostAlike_B87 R25 l1 l2 l3 s0) := by
  refine jr_iinc (j := 3) (lv := [(3, jl_vi (jl_add l3 1)), (0, jl_vr G 206), (1, jl_vi l1), (2, jl_vi l2)]) dX12_mostAlike_87 rfl (Nat.le_of_ble_eq_true rfl) rfl ?_
  refine jr_goto (t := 25) dX12_mostAlike_90 (by decide) ?_
  refine jr_sub [1, 2, 3, 0] rfl ?_
  exact hR25 l1 l2 (jl_add l3 1) hl1 hl2 (jl_n3_to _) s0
def jf_X12_mostAlike_L25 : Nat → Int → Int → Int → jl_Mm → jl_O
  | 0, _, _, _, _ => none
  | n + 1, l1, l2, l3, s0 =>
    if (99 : Int) < l3 then (some (l2, s0)) else (if 0 ≤ l3 ∧ l3 < ((100 : Nat) : Int) then if jl_g s0 254 (l3).toNat = (0 : Int) then (jf_X12_mostAlike_B87 (jf_X12_mostAlike_L25 n) l1 l2 l3 s0) else (if 0 ≤ jl_add (jl_mul (930 : Int) l3) l1 ∧ jl_add (jl_mul (930 : Int) l3) l1 < ((93000 : Nat) : Int) then jl_let (jl_g s0 255 (jl_add (jl_mul (930 : Int) l3) l1).toNat) fun x6 => if 0 ≤ x6 ∧ x6 < ((9 : Nat) : Int) then if 0 ≤ x6 ∧ x6 < ((9 : Nat) : Int) then jl_lm (jl_up s0 256 (x6).toNat (jl_add (jl_g s0 256 (x6).toNat) (1 : Int))) fun s9 => if 0 ≤ x6 ∧ x6 < ((9 : Nat) : Int) then if jl_g s9 256 (x6).toNat ≤ l2 then (jf_X12_mostAlike_B87 (jf_X12_mostAlike_L25 n) l1 l2 l3 s9) else (if 0 ≤ x6 ∧ x6 < ((9 : Nat) : Int) then jl_let (jl_g s9 256 (x6).toNat) fun x13 => jf_X12_mostAlike_B87 (jf_X12_mostAlike_L25 n) l1 x13 l3 s9 else none) else none else none else none else none) else none)
set_option maxRecDepth 20000 in
set_option maxHeartbeats 2000000 in
theorem jj_X12_mostAlike_L25 (G : jl_GC) : ∀ (n : Nat) (l1 : Int) (l2 : Int) (l3 : Int) (hl1 : jl_n3 l1) (hl2 : jl_n3 l2) (hl3 : jl_n3 l3) (s0 : jl_Mm), j2 G jM_X12_mostAlike 25 [(0, jl_vr G 206), (1, jl_vi l1), (2, jl_vi l2), (3, jl_vi l3)] [] s0 (jf_X12_mostAlike_L25 n l1 l2 l3 s0) := by
  intro n
  induction n with
  | zero =>
    intros
    exact jr_none
  | succ n ih =>
    intro l1 l2 l3 hl1 hl2 hl3 s0
    refine jr_iload_n dX12_mostAlike_25 3 rfl ?_
    refine jr_bipush dX12_mostAlike_26 (by decide) ?_
    refine jr_icmp_gt (t := 93) dX12_mostAlike_28 (by decide) hl3 (jl_nlit rfl) (fun c2 => ?_) (fun c2 => ?_)
    · refine jr_iload_n dX12_mostAlike_93 2 rfl ?_
      exact jr_ret_i rfl hl2 dX12_mostAlike_94
    · refine jr_aload_n dX12_mostAlike_31 0 rfl ?_
      refine jr_getk (i := 67) jc_12 jk_206 (by decide) (Nat.le_of_ble_eq_true rfl) jlk_206_67 jw_1272 dX12_mostAlike_32 ?_
      refine jr_iload_n dX12_mostAlike_35 3 rfl ?_
      refine jr_grd (fun g3 => ?_)
      refine jr_zaload jk_254 (by decide) hl3 g3 dX12_mostAlike_36 ?_
      refine jr_if_ne (t := 43) dX12_mostAlike_37 (by decide) (jl_n3_to _) (fun c4 => ?_) (fun c4 => ?_)
      · refine jr_goto (t := 87) dX12_mostAlike_40 (by decide) ?_
        exact jj_X12_mostAlike_B87 G (jf_X12_mostAlike_L25 n) (ih) l1 l2 l3 hl1 hl2 hl3 s0
      · refine jr_aload_n dX12_mostAlike_43 0 rfl ?_
        refine jr_getk (i := 69) jc_12 jk_206 (by decide) (Nat.le_of_ble_eq_true rfl) jlk_206_69 jw_1274 dX12_mostAlike_44 ?_
        refine jr_sipush dX12_mostAlike_47 (by decide) ?_
        refine jr_iload_n dX12_mostAlike_50 3 rfl ?_
        refine jr_imul dX12_mostAlike_51 ?_
        refine jr_iload_n dX12_mostAlike_52 1 rfl ?_
        refine jr_iadd dX12_mostAlike_53 ?_
        refine jr_grd (fun g5 => ?_)
        refine jr_iaload jk_255 (by decide) (jl_n3_to _) g5 dX12_mostAlike_54 ?_
        refine jr_let (jl_n3_to _) (fun x6 hx6 => ?_)
        refine jr_istore (lv := [(4, jl_vi x6), (0, jl_vr G 206), (1, jl_vi l1), (2, jl_vi l2), (3, jl_vi l3)]) dX12_mostAlike_55 (Nat.le_of_ble_eq_true rfl) rfl ?_
        refine jr_aload_n dX12_mostAlike_57 1 rfl ?_
        refine jr_getk (i := 70) jc_12 jk_206 (by decide) (Nat.le_of_ble_eq_true rfl) jlk_206_70 jw_1275 dX12_mostAlike_58 ?_
        refine jr_iload dX12_mostAlike_61 0 rfl ?_
        refine jr_dup2_11 dX12_mostAlike_63 rfl rfl ?_
        refine jr_grd (fun g7 => ?_)
        refine jr_iaload jk_256 (by decide) hx6 g7 dX12_mostAlike_64 ?_
        refine jr_iconst dX12_mostAlike_65 ?_
        refine jr_iadd dX12_mostAlike_66 ?_
        refine jr_grd (fun g8 => ?_)
        refine jr_iastore jk_256 (by decide) hx6 g8 dX12_mostAlike_67 ?_
        refine jr_lm (fun s9 => ?_)
        refine jr_aload_n dX12_mostAlike_68 1 rfl ?_
        refine jr_getk (i := 70) jc_12 jk_206 (by decide) (Nat.le_of_ble_eq_true rfl) jlk_206_70 jw_1275 dX12_mostAlike_69 ?_
        refine jr_iload dX12_mostAlike_72 0 rfl ?_
        refine jr_grd (fun g10 => ?_)
        refine jr_iaload jk_256 (by decide) hx6 g10 dX12_mostAlike_74 ?_
        refine jr_iload_n dX12_mostAlike_75 3 rfl ?_
        refine jr_icmp_le (t := 87) dX12_mostAlike_76 (by decide) (jl_n3_to _) hl2 (fun c11 => ?_) (fun c11 => ?_)
        · refine jr_sub [1, 2, 3, 4] rfl ?_
          exact jj_X12_mostAlike_B87 G (jf_X12_mostAlike_L25 n) (ih) l1 l2 l3 hl1 hl2 hl3 s9
        · refine jr_aload_n dX12_mostAlike_79 1 rfl ?_
          refine jr_getk (i := 70) jc_12 jk_206 (by decide) (Nat.le_of_ble_eq_true rfl) jlk_206_70 jw_1275 dX12_mostAlike_80 ?_
          refine jr_iload dX12_mostAlike_83 0 rfl ?_
          refine jr_grd (fun g12 => ?_)
          refine jr_iaload jk_256 (by decide) hx6 g12 dX12_mostAlike_85 ?_
          refine jr_let (jl_n3_to _) (fun x13 hx13 => ?_)
          refine jr_istore_n (lv := [(2, jl_vi x13), (4, jl_vi x6), (0, jl_vr G 206), (1, jl_vi l1), (3, jl_vi l3)]) dX12_mostAlike_86 rfl (Nat.le_of_ble_eq_true rfl) rfl ?_
          refine jr_sub [2, 3, 0, 4] rfl ?_
          exact jj_X12_mostAlike_B87 G (jf_X12_mostAlike_L25 n) (ih) l1 x13 l3 hl1 hx13 hl3 s9
def jf_X12_mostAlike_L4 : Nat → Int → Int → Int → jl_Mm → jl_O
  | 0, _, _, _, _ => none
  | n + 1, l1, l2, l3, s0 =>
    if (8 : Int) < l3 then (jf_X12_mostAlike_L25 jl_fu l1 l2 (1 : Int) s0) else (if 0 ≤ l3 ∧ l3 < ((9 : Nat) : Int) then jl_lm (jl_up s0 256 (l3).toNat (0 : Int)) fun s15 => jf_X12_mostAlike_L4 n l1 l2 (jl_add l3 1) s15 else none)
set_option maxRecDepth 20000 in
set_option maxHeartbeats 2000000 in
theorem jj_X12_mostAlike_L4 (G : jl_GC) : ∀ (n : Nat) (l1 : Int) (l2 : Int) (l3 : Int) (hl1 : jl_n3 l1) (hl2 : jl_n3 l2) (hl3 : jl_n3 l3) (s0 : jl_Mm), j2 G jM_X12_mostAlike 4 [(0, jl_vr G 206), (1, jl_vi l1), (2, jl_vi l2), (3, jl_vi l3)] [] s0 (jf_X12_mostAlike_L4 n l1 l2 l3 s0) := by
  intro n
  induction n with
  | zero =>
    intros
    exact jr_none
  | succ n ih =>
    intro l1 l2 l3 hl1 hl2 hl3 s0
    refine jr_iload_n dX12_mostAlike_4 3 rfl ?_
    refine jr_bipush dX12_mostAlike_5 (by decide) ?_
    refine jr_icmp_gt (t := 23) dX12_mostAlike_7 (by decide) hl3 (jl_nlit rfl) (fun c1 => ?_) (fun c1 => ?_)
    · refine jr_iconst dX12_mostAlike_23 ?_
      refine jr_istore_n (lv := [(3, jl_vi (1 : Int)), (0, jl_vr G 206), (1, jl_vi l1), (2, jl_vi l2)]) dX12_mostAlike_24 rfl (Nat.le_of_ble_eq_true rfl) rfl ?_
      refine jr_sub [1, 2, 3, 0] rfl ?_
      exact jj_X12_mostAlike_L25 G jl_fu l1 l2 (1 : Int) hl1 hl2 (jl_nlit rfl) s0
    · refine jr_aload_n dX12_mostAlike_10 0 rfl ?_
      refine jr_getk (i := 70) jc_12 jk_206 (by decide) (Nat.le_of_ble_eq_true rfl) jlk_206_70 jw_1275 dX12_mostAlike_11 ?_
      refine jr_iload_n dX12_mostAlike_14 3 rfl ?_
      refine jr_iconst dX12_mostAlike_15 ?_
      refine jr_grd (fun g14 => ?_)
      refine jr_iastore jk_256 (by decide) hl3 g14 dX12_mostAlike_16 ?_
      refine jr_lm (fun s15 => ?_)
      refine jr_iinc (j := 3) (lv := [(3, jl_vi (jl_add l3 1)), (0, jl_vr G 206), (1, jl_vi l1), (2, jl_vi l2)]) dX12_mostAlike_17 rfl (Nat.le_of_ble_eq_true rfl) rfl ?_
      refine jr_goto (t := 4) dX12_mostAlike_20 (by decide) ?_
      refine jr_sub [1, 2, 3, 0] rfl ?_
      exact ih l1 l2 (jl_add l3 1) hl1 hl2 (jl_n3_to _) s15
def jf_X12_mostAlike (v1 : Int) (s0 : jl_Mm) : jl_O :=
  jf_X12_mostAlike_L4 jl_fu v1 (0 : Int) (0 : Int) s0
set_option maxRecDepth 20000 in
set_option maxHeartbeats 2000000 in
theorem jt_X12_mostAlike (G : jl_GC) (v1 : Int) (h1 : jl_n3 v1) (s0 : jl_Mm) : jC2 G jM_X12_mostAlike [jl_vr G 206, jl_vi v1] s0 (jf_X12_mostAlike v1 s0) := by
  refine jl_met (plainFor_of_name rfl) (Nat.le_of_ble_eq_true rfl) ?_
  show j2 G jM_X12_mostAlike 0 [(0, jl_vr G 206), (1, jl_vi v1)] [] s0 _
  refine jr_iconst dX12_mostAlike_0 ?_
  refine jr_istore_n (lv := [(2, jl_vi (0 : Int)), (0, jl_vr G 206), (1, jl_vi v1)]) dX12_mostAlike_1 rfl (Nat.le_of_ble_eq_true rfl) rfl ?_
  refine jr_iconst dX12_mostAlike_2 ?_
  refine jr_istore_n (lv := [(3, jl_vi (0 : Int)), (2, jl_vi (0 : Int)), (0, jl_vr G 206), (1, jl_vi v1)]) dX12_mostAlike_3 rfl (Nat.le_of_ble_eq_true rfl) rfl ?_
  refine jr_sub [2, 3, 1, 0] rfl ?_
  exact jj_X12_mostAlike_L4 G jl_fu v1 (0 : Int) (0 : Int) h1 (jl_nlit rfl) (jl_nlit rfl) s0
def jf_X12_tells_B29 (s0 : jl_Mm) : jl_O :=
  some ((-1 : Int), s0)
set_option maxRecDepth 20000 in
set_option maxHeartbeats 2000000 in
theorem jj_X12_tells_B29 (G : jl_GC) (s0 : jl_Mm) : j2 G jM_X12_tells 29 [] [] s0 (jf_X12_tells_B29 s0) := by
  refine jr_iconst dX12_tells_29 ?_
  exact jr_ret_i rfl (jl_nlit rfl) dX12_tells_30
def jf_X12_tells_B159 (k0 : Int) (s0 : jl_Mm) : jl_O :=
  some (k0, s0)
set_option maxRecDepth 20000 in
set_option maxHeartbeats 2000000 in
theorem jj_X12_tells_B159 (G : jl_GC) (k0 : Int) (hk0 : jl_n3 k0) (s0 : jl_Mm) : j2 G jM_X12_tells 159 [] [jl_vi k0] s0 (jf_X12_tells_B159 k0 s0) := by
  exact jr_ret_i rfl hk0 dX12_tells_159
def jf_X12_tells_B130 (l2 : Int) (l3 : Int) (l4 : Int) (l5 : Int) (s0 : jl_Mm) : jl_O :=
  if l3 = (-1 : Int) then (jf_X12_tells_B159 (-1 : Int) s0) else (if l2 = (0 : Int) then (jf_X12_tells_B159 l3 s0) else (if l2 = (1 : Int) then (jf_X12_tells_B159 l4 s0) else (jf_X12_tells_B159 l5 s0)))
set_option maxRecDepth 20000 in
set_option maxHeartbeats 2000000 in
theorem jj_X12_tells_B130 (G : jl_GC) (l2 : Int) (l3 : Int) (l4 : Int) (l5 : Int) (hl2 : jl_n3 l2) (hl3 : jl_n3 l3) (hl4 : jl_n3 l4) (hl5 : jl_n3 l5) (s0 : jl_Mm) : j2 G jM_X12_tells 130 [(2, jl_vi l2), (3, jl_vi l3), (4, jl_vi l4), (5, jl_vi l5)] [] s0 (jf_X12_tells_B130 l2 l3 l4 l5 s0) := by
  refine jr_iload_n dX12_tells_130 1 rfl ?_
  refine jr_iconst dX12_tells_131 ?_
  refine jr_icmp_ne (t := 139) dX12_tells_132 (by decide) hl3 (jl_nlit rfl) (fun c13 => ?_) (fun c13 => ?_)
  · refine jr_iconst dX12_tells_135 ?_
    refine jr_goto (t := 159) dX12_tells_136 (by decide) ?_
    refine jr_sub [] rfl ?_
    exact jj_X12_tells_B159 G (-1 : Int) (jl_nlit rfl) s0
  · refine jr_iload_n dX12_tells_139 0 rfl ?_
    refine jr_if_ne (t := 147) dX12_tells_140 (by decide) hl2 (fun c14 => ?_) (fun c14 => ?_)
    · refine jr_iload_n dX12_tells_143 1 rfl ?_
      refine jr_goto (t := 159) dX12_tells_144 (by decide) ?_
      refine jr_sub [] rfl ?_
      exact jj_X12_tells_B159 G l3 hl3 s0
    · refine jr_iload_n dX12_tells_147 0 rfl ?_
      refine jr_iconst dX12_tells_148 ?_
      refine jr_icmp_ne (t := 157) dX12_tells_149 (by decide) hl2 (jl_nlit rfl) (fun c15 => ?_) (fun c15 => ?_)
      · refine jr_iload dX12_tells_152 2 rfl ?_
        refine jr_goto (t := 159) dX12_tells_154 (by decide) ?_
        refine jr_sub [] rfl ?_
        exact jj_X12_tells_B159 G l4 hl4 s0
      · refine jr_iload dX12_tells_157 3 rfl ?_
        refine jr_sub [] rfl ?_
        exact jj_X12_tells_B159 G l5 hl5 s0
def jf_X12_tells_B118 (R47 : Int → Int → Int → Int → Int → jl_Mm → jl_O) (R69 : Int → Int → Int → Int → Int → Int → jl_Mm → jl_O) (l2 : Int) (l3 : Int) (l4 : Int) (l5 : Int) (l6 : Int) (l7 : Int) (s0 : jl_Mm) : jl_O :=
  R69 l2 l3 l4 l5 l6 (jl_add l7 1) s0
set_option maxRecDepth 20000 in
set_option maxHeartbeats 2000000 in
theorem jj_X12_tells_B118 (G : jl_GC) (R47 : Int → Int → Int → Int → Int → jl_Mm → jl_O) (R69 : Int → Int → Int → Int → Int → Int → jl_Mm → jl_O) (hR47 : ∀ (l2 : Int) (l3 : Int) (l4 : Int) (l5 : Int) (l6 : Int) (_hl2 : jl_n3 l2) (_hl3 : jl_n3 l3) (_hl4 : jl_n3 l4) (_hl5 : jl_n3 l5) (_hl6 : jl_n3 l6) (s0 : jl_Mm), j2 G jM_X12_tells 47 [(0, jl_vr G 206), (2, jl_vi l2), (3, jl_vi l3), (4, jl_vi l4), (5, jl_vi l5), (6, jl_vi l6)] [] s0 (R47 l2 l3 l4 l5 l6 s0)) (hR69 : ∀ (l2 : Int) (l3 : Int) (l4 : Int) (l5 : Int) (l6 : Int) (l7 : Int) (_hl2 : jl_n3 l2) (_hl3 : jl_n3 l3) (_hl4 : jl_n3 l4) (_hl5 : jl_n3 l5) (_hl6 : jl_n3 l6) (_hl7 : jl_n3 l7) (s0 : jl_Mm), j2 G jM_X12_tells 69 [(0, jl_vr G 206), (2, jl_vi l2), (3, jl_vi l3), (4, jl_vi l4), (5, jl_vi l5), (6, jl_vi l6), (7, jl_vi l7)] [] s0 (R69 l2 l3 l4 l5 l6 l7 s0)) (l2 : Int) (l3 : Int) (l4 : Int) (l5 : Int) (l6 : Int) (l7 : Int) (hl2 : jl_n3 l2) (hl3 : jl_n3 l3) (hl4 : jl_n3 l4) (hl5 : jl_n3 l5) (hl6 : jl_n3 l6) (hl7 : jl_n3 l7) (s0 : jl_Mm) : j2 G jM_X12_tells 118 [(0, jl_vr G 206), (2, jl_vi l2), (3, jl_vi l3), (4, jl_vi l4), (5, jl_vi l5), (6, jl_vi l6), (7, jl_vi l7)] [] s0 (jf_X12_tells_B118 R47 R69 l2 l3 l4 l5 l6 l7 s0) := by
  refine jr_iinc (j := 6) (lv := [(7, jl_vi (jl_add l7 1)), (0, jl_vr G 206), (2, jl_vi l2), (3, jl_vi l3), (4, jl_vi l4), (5, jl_vi l5), (6, jl_vi l6)]) dX12_tells_118 rfl (Nat.le_of_ble_eq_true rfl) rfl ?_
  refine jr_goto (t := 69) dX12_tells_121 (by decide) ?_
  refine jr_sub [1, 2, 3, 4, 5, 6, 0] rfl ?_
  exact hR69 l2 l3 l4 l5 l6 (jl_add l7 1) hl2 hl3 hl4 hl5 hl6 (jl_n3_to _) s0
def jf_X12_tells_B107 (R47 : Int → Int → Int → Int → Int → jl_Mm → jl_O) (R69 : Int → Int → Int → Int → Int → Int → jl_Mm → jl_O) (l2 : Int) (l6 : Int) (l7 : Int) (l8 : Int) (s0 : jl_Mm) : jl_O :=
  jf_X12_tells_B118 (R47) (R69) l2 l6 l7 l8 l6 l7 s0
set_option maxRecDepth 20000 in
set_option maxHeartbeats 2000000 in
theorem jj_X12_tells_B107 (G : jl_GC) (R47 : Int → Int → Int → Int → Int → jl_Mm → jl_O) (R69 : Int → Int → Int → Int → Int → Int → jl_Mm → jl_O) (hR47 : ∀ (l2 : Int) (l3 : Int) (l4 : Int) (l5 : Int) (l6 : Int) (_hl2 : jl_n3 l2) (_hl3 : jl_n3 l3) (_hl4 : jl_n3 l4) (_hl5 : jl_n3 l5) (_hl6 : jl_n3 l6) (s0 : jl_Mm), j2 G jM_X12_tells 47 [(0, jl_vr G 206), (2, jl_vi l2), (3, jl_vi l3), (4, jl_vi l4), (5, jl_vi l5), (6, jl_vi l6)] [] s0 (R47 l2 l3 l4 l5 l6 s0)) (hR69 : ∀ (l2 : Int) (l3 : Int) (l4 : Int) (l5 : Int) (l6 : Int) (l7 : Int) (_hl2 : jl_n3 l2) (_hl3 : jl_n3 l3) (_hl4 : jl_n3 l4) (_hl5 : jl_n3 l5) (_hl6 : jl_n3 l6) (_hl7 : jl_n3 l7) (s0 : jl_Mm), j2 G jM_X12_tells 69 [(0, jl_vr G 206), (2, jl_vi l2), (3, jl_vi l3), (4, jl_vi l4), (5, jl_vi l5), (6, jl_vi l6), (7, jl_vi l7)] [] s0 (R69 l2 l3 l4 l5 l6 l7 s0)) (l2 : Int) (l6 : Int) (l7 : Int) (l8 : Int) (hl2 : jl_n3 l2) (hl6 : jl_n3 l6) (hl7 : jl_n3 l7) (hl8 : jl_n3 l8) (s0 : jl_Mm) : j2 G jM_X12_tells 107 [(0, jl_vr G 206), (2, jl_vi l2), (6, jl_vi l6), (7, jl_vi l7), (8, jl_vi l8)] [] s0 (jf_X12_tells_B107 R47 R69 l2 l6 l7 l8 s0) := by
  refine jr_iload dX12_tells_107 2 rfl ?_
  refine jr_istore_n (lv := [(3, jl_vi l6), (0, jl_vr G 206), (2, jl_vi l2), (6, jl_vi l6), (7, jl_vi l7), (8, jl_vi l8)]) dX12_tells_109 rfl (Nat.le_of_ble_eq_true rfl) rfl ?_
  refine jr_iload dX12_tells_110 4 rfl ?_
  refine jr_istore (lv := [(4, jl_vi l7), (3, jl_vi l6), (0, jl_vr G 206), (2, jl_vi l2), (6, jl_vi l6), (7, jl_vi l7), (8, jl_vi l8)]) dX12_tells_112 (Nat.le_of_ble_eq_true rfl) rfl ?_
  refine jr_iload dX12_tells_114 6 rfl ?_
  refine jr_istore (lv := [(5, jl_vi l8), (4, jl_vi l7), (3, jl_vi l6), (0, jl_vr G 206), (2, jl_vi l2), (6, jl_vi l6), (7, jl_vi l7), (8, jl_vi l8)]) dX12_tells_116 (Nat.le_of_ble_eq_true rfl) rfl ?_
  refine jr_sub [3, 4, 2, 1, 0, 5, 6] rfl ?_
  exact jj_X12_tells_B118 G (R47) (R69) (hR47) (hR69) l2 l6 l7 l8 l6 l7 hl2 hl6 hl7 hl8 hl6 hl7 s0
def jf_X12_tells_L69 (R47 : Int → Int → Int → Int → Int → jl_Mm → jl_O) : Nat → Int → Int → Int → Int → Int → Int → jl_Mm → jl_O
  | 0, _, _, _, _, _, _, _ => none
  | n + 1, l2, l3, l4, l5, l6, l7, s0 =>
    jl_bd (jf_X12_windowMany s0) fun r19 s20 => if r19 ≤ l7 then (R47 l2 l3 l4 l5 (jl_add l6 1) s20) else (jl_bd (jf_X12_mostAlike (jl_add (jl_mul (30 : Int) l6) l7) s20) fun r22 s23 => if l3 = (-1 : Int) then (jf_X12_tells_B107 (R47) (jf_X12_tells_L69 R47 n) l2 l6 l7 r22 s23) else (if r22 < l5 then (jf_X12_tells_B107 (R47) (jf_X12_tells_L69 R47 n) l2 l6 l7 r22 s23) else (jf_X12_tells_B118 (R47) (jf_X12_tells_L69 R47 n) l2 l3 l4 l5 l6 l7 s23)))
set_option maxRecDepth 20000 in
set_option maxHeartbeats 2000000 in
theorem jj_X12_tells_L69 (G : jl_GC) (R47 : Int → Int → Int → Int → Int → jl_Mm → jl_O) (hR47 : ∀ (l2 : Int) (l3 : Int) (l4 : Int) (l5 : Int) (l6 : Int) (_hl2 : jl_n3 l2) (_hl3 : jl_n3 l3) (_hl4 : jl_n3 l4) (_hl5 : jl_n3 l5) (_hl6 : jl_n3 l6) (s0 : jl_Mm), j2 G jM_X12_tells 47 [(0, jl_vr G 206), (2, jl_vi l2), (3, jl_vi l3), (4, jl_vi l4), (5, jl_vi l5), (6, jl_vi l6)] [] s0 (R47 l2 l3 l4 l5 l6 s0)) : ∀ (n : Nat) (l2 : Int) (l3 : Int) (l4 : Int) (l5 : Int) (l6 : Int) (l7 : Int) (hl2 : jl_n3 l2) (hl3 : jl_n3 l3) (hl4 : jl_n3 l4) (hl5 : jl_n3 l5) (hl6 : jl_n3 l6) (hl7 : jl_n3 l7) (s0 : jl_Mm), j2 G jM_X12_tells 69 [(0, jl_vr G 206), (2, jl_vi l2), (3, jl_vi l3), (4, jl_vi l4), (5, jl_vi l5), (6, jl_vi l6), (7, jl_vi l7)] [] s0 (jf_X12_tells_L69 R47 n l2 l3 l4 l5 l6 l7 s0) := by
  intro n
  induction n with
  | zero =>
    intros
    exact jr_none
  | succ n ih =>
    intro l2 l3 l4 l5 l6 l7 hl2 hl3 hl4 hl5 hl6 hl7 s0
    refine jr_iload dX12_tells_69 6 rfl ?_
    refine jr_aload_n dX12_tells_71 0 rfl ?_
    refine j2_callVi (As := []) dX12_tells_72 (jt_X12_windowMany G s0) jv_X12_windowMany ⟨rfl, rfl, rfl⟩ jw_1743 jk_206 (by decide) (by decide) rfl ⟨Nat.le_of_ble_eq_true rfl, Nat.le_of_ble_eq_true rfl⟩ rfl (Nat.le_of_ble_eq_true rfl) (fun r19 s20 hr19 => ?_)
    refine jr_icmp_ge (t := 124) dX12_tells_75 (by decide) hl7 hr19 (fun c21 => ?_) (fun c21 => ?_)
    · refine jr_iinc (j := 5) (lv := [(6, jl_vi (jl_add l6 1)), (0, jl_vr G 206), (2, jl_vi l2), (3, jl_vi l3), (4, jl_vi l4), (5, jl_vi l5), (7, jl_vi l7)]) dX12_tells_124 rfl (Nat.le_of_ble_eq_true rfl) rfl ?_
      refine jr_goto (t := 47) dX12_tells_127 (by decide) ?_
      refine jr_sub [1, 2, 3, 4, 5, 0] rfl ?_
      exact hR47 l2 l3 l4 l5 (jl_add l6 1) hl2 hl3 hl4 hl5 (jl_n3_to _) s20
    · refine jr_aload_n dX12_tells_78 0 rfl ?_
      refine jr_bipush dX12_tells_79 (by decide) ?_
      refine jr_iload dX12_tells_81 5 rfl ?_
      refine jr_imul dX12_tells_83 ?_
      refine jr_iload dX12_tells_84 6 rfl ?_
      refine jr_iadd dX12_tells_86 ?_
      refine j2_callVi (As := [jl_vi (jl_add (jl_mul (30 : Int) l6) l7)]) dX12_tells_87 (jt_X12_mostAlike G (jl_add (jl_mul (30 : Int) l6) l7) (jl_n3_to _) s20) jv_X12_mostAlike ⟨rfl, rfl, rfl⟩ jw_1998 jk_206 (by decide) (by decide) rfl ⟨Nat.le_of_ble_eq_true rfl, Nat.le_of_ble_eq_true rfl⟩ rfl (Nat.le_of_ble_eq_true rfl) (fun r22 s23 hr22 => ?_)
      refine jr_istore (lv := [(8, jl_vi r22), (0, jl_vr G 206), (2, jl_vi l2), (3, jl_vi l3), (4, jl_vi l4), (5, jl_vi l5), (6, jl_vi l6), (7, jl_vi l7)]) dX12_tells_90 (Nat.le_of_ble_eq_true rfl) rfl ?_
      refine jr_iload_n dX12_tells_92 3 rfl ?_
      refine jr_iconst dX12_tells_93 ?_
      refine jr_icmp_eq (t := 107) dX12_tells_94 (by decide) hl3 (jl_nlit rfl) (fun c24 => ?_) (fun c24 => ?_)
      · refine jr_sub [1, 2, 6, 7, 0] rfl ?_
        exact jj_X12_tells_B107 G (R47) (jf_X12_tells_L69 R47 n) (hR47) (ih) l2 l6 l7 r22 hl2 hl6 hl7 hr22 s23
      · refine jr_iload dX12_tells_97 0 rfl ?_
        refine jr_iload dX12_tells_99 5 rfl ?_
        refine jr_icmp_lt (t := 107) dX12_tells_101 (by decide) hr22 hl5 (fun c25 => ?_) (fun c25 => ?_)
        · refine jr_sub [1, 2, 6, 7, 0] rfl ?_
          exact jj_X12_tells_B107 G (R47) (jf_X12_tells_L69 R47 n) (hR47) (ih) l2 l6 l7 r22 hl2 hl6 hl7 hr22 s23
        · refine jr_goto (t := 118) dX12_tells_104 (by decide) ?_
          refine jr_sub [1, 2, 3, 4, 5, 6, 7] rfl ?_
          exact jj_X12_tells_B118 G (R47) (jf_X12_tells_L69 R47 n) (hR47) (ih) l2 l3 l4 l5 l6 l7 hl2 hl3 hl4 hl5 hl6 hl7 s23
def jf_X12_tells_L47 : Nat → Int → Int → Int → Int → Int → jl_Mm → jl_O
  | 0, _, _, _, _, _, _ => none
  | n + 1, l2, l3, l4, l5, l6, s0 =>
    if jl_g s0 206 68 ≤ (0 : Int) then (jf_X12_tells_B130 l2 l3 l4 l5 s0) else (jl_bd (jf_X12_isAhead l6 (1 : Int) (30 : Int) s0) fun r16 s17 => if r16 = (0 : Int) then (jf_X12_tells_B130 l2 l3 l4 l5 s17) else (jf_X12_tells_L69 (jf_X12_tells_L47 n) jl_fu l2 l3 l4 l5 l6 (0 : Int) s17))
set_option maxRecDepth 20000 in
set_option maxHeartbeats 2000000 in
theorem jj_X12_tells_L47 (G : jl_GC) : ∀ (n : Nat) (l2 : Int) (l3 : Int) (l4 : Int) (l5 : Int) (l6 : Int) (hl2 : jl_n3 l2) (hl3 : jl_n3 l3) (hl4 : jl_n3 l4) (hl5 : jl_n3 l5) (hl6 : jl_n3 l6) (s0 : jl_Mm), j2 G jM_X12_tells 47 [(0, jl_vr G 206), (2, jl_vi l2), (3, jl_vi l3), (4, jl_vi l4), (5, jl_vi l5), (6, jl_vi l6)] [] s0 (jf_X12_tells_L47 n l2 l3 l4 l5 l6 s0) := by
  intro n
  induction n with
  | zero =>
    intros
    exact jr_none
  | succ n ih =>
    intro l2 l3 l4 l5 l6 hl2 hl3 hl4 hl5 hl6 s0
    refine jr_aload_n dX12_tells_47 0 rfl ?_
    refine jr_geti (i := 68) jc_12 jk_206 (by decide) (Nat.le_of_ble_eq_true rfl) jlk_206_68 jft_12_68 jw_1273 dX12_tells_48 ?_
    refine jr_if_le (t := 130) dX12_tells_51 (by decide) (jl_n3_to _) (fun c12 => ?_) (fun c12 => ?_)
    · refine jr_sub [1, 2, 3, 4] rfl ?_
      exact jj_X12_tells_B130 G l2 l3 l4 l5 hl2 hl3 hl4 hl5 s0
    · refine jr_aload_n dX12_tells_54 0 rfl ?_
      refine jr_iload dX12_tells_55 5 rfl ?_
      refine jr_iconst dX12_tells_57 ?_
      refine jr_bipush dX12_tells_58 (by decide) ?_
      refine j2_callVz (As := [jl_vi l6, jl_vi (1 : Int), jl_vi (30 : Int)]) dX12_tells_60 (jt_X12_isAhead G l6 (1 : Int) (30 : Int) hl6 (jl_nlit rfl) (jl_nlit rfl) s0) jv_X12_isAhead ⟨rfl, rfl, rfl⟩ jw_1870 jk_206 (by decide) (by decide) rfl ⟨Nat.le_of_ble_eq_true rfl, Nat.le_of_ble_eq_true rfl⟩ rfl (Nat.le_of_ble_eq_true rfl) (fun r16 s17 hr16 => ?_)
      refine jr_if_eq (t := 130) dX12_tells_63 (by decide) (jl_nz hr16) (fun c18 => ?_) (fun c18 => ?_)
      · refine jr_sub [1, 2, 3, 4] rfl ?_
        exact jj_X12_tells_B130 G l2 l3 l4 l5 hl2 hl3 hl4 hl5 s17
      · refine jr_iconst dX12_tells_66 ?_
        refine jr_istore (lv := [(7, jl_vi (0 : Int)), (0, jl_vr G 206), (2, jl_vi l2), (3, jl_vi l3), (4, jl_vi l4), (5, jl_vi l5), (6, jl_vi l6)]) dX12_tells_67 (Nat.le_of_ble_eq_true rfl) rfl ?_
        refine jr_sub [1, 2, 3, 4, 5, 6, 0] rfl ?_
        exact jj_X12_tells_L69 G (jf_X12_tells_L47 n) (ih) jl_fu l2 l3 l4 l5 l6 (0 : Int) hl2 hl3 hl4 hl5 hl6 (jl_nlit rfl) s17
def jf_X12_tells (v1 : Int) (v2 : Int) (s0 : jl_Mm) : jl_O :=
  jl_bd (jf_X12_isLie v1 s0) fun r1 s2 => if r1 = (0 : Int) then (jf_X12_tells_B29 s2) else (jl_bd (jf_X12_isLit v1 s2) fun r4 s5 => if r4 = (0 : Int) then (jf_X12_tells_B29 s5) else (jl_bd (jf_X12_isIn v2 (0 : Int) (2 : Int) s5) fun r7 s8 => if r7 = (0 : Int) then (jf_X12_tells_B29 s8) else (jl_bd (jf_X12_laysInches v1 s8) fun r10 s11 => jf_X12_tells_L47 jl_fu v2 (-1 : Int) (-1 : Int) (0 : Int) (1 : Int) s11)))
set_option maxRecDepth 20000 in
set_option maxHeartbeats 2000000 in
theorem jt_X12_tells (G : jl_GC) (v1 : Int) (v2 : Int) (h1 : jl_n3 v1) (h2 : jl_n3 v2) (s0 : jl_Mm) : jC2 G jM_X12_tells [jl_vr G 206, jl_vi v1, jl_vi v2] s0 (jf_X12_tells v1 v2 s0) := by
  refine jl_met (plainFor_of_name rfl) (Nat.le_of_ble_eq_true rfl) ?_
  show j2 G jM_X12_tells 0 [(0, jl_vr G 206), (1, jl_vi v1), (2, jl_vi v2)] [] s0 _
  refine jr_aload_n dX12_tells_0 0 rfl ?_
  refine jr_iload_n dX12_tells_1 1 rfl ?_
  refine jr_i2l dX12_tells_2 h1 ?_
  refine j2_callVz (As := [jl_vl v1]) dX12_tells_3 (jt_X12_isLie G v1 (jl_n36 h1) s0) jv_X12_isLie ⟨rfl, rfl, rfl⟩ jw_1850 jk_206 (by decide) (by decide) rfl ⟨Nat.le_of_ble_eq_true rfl, Nat.le_of_ble_eq_true rfl⟩ rfl (Nat.le_of_ble_eq_true rfl) (fun r1 s2 hr1 => ?_)
  refine jr_if_eq (t := 29) dX12_tells_6 (by decide) (jl_nz hr1) (fun c3 => ?_) (fun c3 => ?_)
  · refine jr_sub [] rfl ?_
    exact jj_X12_tells_B29 G s2
  · refine jr_aload_n dX12_tells_9 0 rfl ?_
    refine jr_iload_n dX12_tells_10 1 rfl ?_
    refine j2_callVz (As := [jl_vi v1]) dX12_tells_11 (jt_X12_isLit G v1 h1 s2) jv_X12_isLit ⟨rfl, rfl, rfl⟩ jw_1763 jk_206 (by decide) (by decide) rfl ⟨Nat.le_of_ble_eq_true rfl, Nat.le_of_ble_eq_true rfl⟩ rfl (Nat.le_of_ble_eq_true rfl) (fun r4 s5 hr4 => ?_)
    refine jr_if_eq (t := 29) dX12_tells_14 (by decide) (jl_nz hr4) (fun c6 => ?_) (fun c6 => ?_)
    · refine jr_sub [] rfl ?_
      exact jj_X12_tells_B29 G s5
    · refine jr_iload_n dX12_tells_17 2 rfl ?_
      refine jr_i2l dX12_tells_18 h2 ?_
      refine jr_lconst (v := 0) dX12_tells_19 (by decide) ?_
      refine jr_ldc2_w (v := 2) dX12_tells_20 jw_1681 (by decide) ?_
      refine j2_callSz (As := [jl_vl v2, jl_vl (0 : Int), jl_vl (2 : Int)]) dX12_tells_23 (jt_X12_isIn G v2 (0 : Int) (2 : Int) (jl_n36 h2) (jl_n6lit rfl) (jl_n6lit rfl) s5) jv_X12_isIn ⟨rfl, rfl, rfl⟩ jw_1588 ⟨Nat.le_of_ble_eq_true rfl, Nat.le_of_ble_eq_true rfl⟩ rfl (Nat.le_of_ble_eq_true rfl) (fun r7 s8 hr7 => ?_)
      refine jr_if_ne (t := 31) dX12_tells_26 (by decide) (jl_nz hr7) (fun c9 => ?_) (fun c9 => ?_)
      · refine jr_sub [] rfl ?_
        exact jj_X12_tells_B29 G s8
      · refine jr_aload_n dX12_tells_31 0 rfl ?_
        refine jr_iload_n dX12_tells_32 1 rfl ?_
        refine j2_callVv (As := [jl_vi v1]) dX12_tells_33 (jt_X12_laysInches G v1 h1 s8) jv_X12_laysInches ⟨rfl, rfl, rfl⟩ jw_1982 jk_206 (by decide) (by decide) rfl ⟨Nat.le_of_ble_eq_true rfl, Nat.le_of_ble_eq_true rfl⟩ rfl (Nat.le_of_ble_eq_true rfl) (fun r10 s11 hr10 => ?_)
        refine jr_iconst dX12_tells_36 ?_
        refine jr_istore_n (lv := [(3, jl_vi (-1 : Int)), (0, jl_vr G 206), (1, jl_vi v1), (2, jl_vi v2)]) dX12_tells_37 rfl (Nat.le_of_ble_eq_true rfl) rfl ?_
        refine jr_iconst dX12_tells_38 ?_
        refine jr_istore (lv := [(4, jl_vi (-1 : Int)), (3, jl_vi (-1 : Int)), (0, jl_vr G 206), (1, jl_vi v1), (2, jl_vi v2)]) dX12_tells_39 (Nat.le_of_ble_eq_true rfl) rfl ?_
        refine jr_iconst dX12_tells_41 ?_
        refine jr_istore (lv := [(5, jl_vi (0 : Int)), (4, jl_vi (-1 : Int)), (3, jl_vi (-1 : Int)), (0, jl_vr G 206), (1, jl_vi v1), (2, jl_vi v2)]) dX12_tells_42 (Nat.le_of_ble_eq_true rfl) rfl ?_
        refine jr_iconst dX12_tells_44 ?_
        refine jr_istore (lv := [(6, jl_vi (1 : Int)), (5, jl_vi (0 : Int)), (4, jl_vi (-1 : Int)), (3, jl_vi (-1 : Int)), (0, jl_vr G 206), (1, jl_vi v1), (2, jl_vi v2)]) dX12_tells_45 (Nat.le_of_ble_eq_true rfl) rfl ?_
        refine jr_sub [4, 6, 3, 2, 1, 0] rfl ?_
        exact jj_X12_tells_L47 G jl_fu v2 (-1 : Int) (-1 : Int) (0 : Int) (1 : Int) h2 (jl_nlit rfl) (jl_nlit rfl) (jl_nlit rfl) (jl_nlit rfl) s11
def jf_X12_keeps_B66 (s0 : jl_Mm) : jl_O :=
  some (0, s0)
set_option maxRecDepth 20000 in
set_option maxHeartbeats 2000000 in
theorem jj_X12_keeps_B66 (G : jl_GC) (s0 : jl_Mm) : j2 G jM_X12_keeps 66 [] [] s0 (jf_X12_keeps_B66 s0) := by
  exact jr_ret_v rfl dX12_keeps_66
def jf_X12_keeps_L15 : Nat → Int → jl_Mm → jl_O
  | 0, _, _ => none
  | n + 1, l1, s0 =>
    if (105 : Int) ≤ l1 then (if (20 : Int) ≤ jl_g s0 206 72 then (jf_X12_keeps_B66 s0) else (jl_lm (jl_up s0 206 72 (jl_add (jl_g s0 206 72) (1 : Int))) fun s4 => jf_X12_keeps_B66 s4)) else (if 0 ≤ l1 ∧ l1 < ((105 : Nat) : Int) then if 0 ≤ jl_add (jl_mul (105 : Int) (jl_g s0 206 73)) l1 ∧ jl_add (jl_mul (105 : Int) (jl_g s0 206 73)) l1 < ((2100 : Nat) : Int) then jl_lm (jl_up s0 257 (jl_add (jl_mul (105 : Int) (jl_g s0 206 73)) l1).toNat (jl_g s0 249 (l1).toNat)) fun s7 => jf_X12_keeps_L15 n (jl_add l1 1) s7 else none else none)
set_option maxRecDepth 20000 in
set_option maxHeartbeats 2000000 in
theorem jj_X12_keeps_L15 (G : jl_GC) : ∀ (n : Nat) (l1 : Int) (hl1 : jl_n3 l1) (s0 : jl_Mm), j2 G jM_X12_keeps 15 [(0, jl_vr G 206), (1, jl_vi l1)] [] s0 (jf_X12_keeps_L15 n l1 s0) := by
  intro n
  induction n with
  | zero =>
    intros
    exact jr_none
  | succ n ih =>
    intro l1 hl1 s0
    refine jr_iload_n dX12_keeps_15 1 rfl ?_
    refine jr_bipush dX12_keeps_16 (by decide) ?_
    refine jr_icmp_ge (t := 47) dX12_keeps_18 (by decide) hl1 (jl_nlit rfl) (fun c2 => ?_) (fun c2 => ?_)
    · refine jr_aload_n dX12_keeps_47 0 rfl ?_
      refine jr_geti (i := 72) jc_12 jk_206 (by decide) (Nat.le_of_ble_eq_true rfl) jlk_206_72 jft_12_72 jw_1277 dX12_keeps_48 ?_
      refine jr_bipush dX12_keeps_51 (by decide) ?_
      refine jr_icmp_ge (t := 66) dX12_keeps_53 (by decide) (jl_n3_to _) (jl_nlit rfl) (fun c3 => ?_) (fun c3 => ?_)
      · refine jr_sub [] rfl ?_
        exact jj_X12_keeps_B66 G s0
      · refine jr_aload_n dX12_keeps_56 0 rfl ?_
        refine jr_dup dX12_keeps_57 rfl ?_
        refine jr_geti (i := 72) jc_12 jk_206 (by decide) (Nat.le_of_ble_eq_true rfl) jlk_206_72 jft_12_72 jw_1277 dX12_keeps_58 ?_
        refine jr_iconst dX12_keeps_61 ?_
        refine jr_iadd dX12_keeps_62 ?_
        refine jr_puti (i := 72) jc_12 jk_206 (by decide) (Nat.le_of_ble_eq_true rfl) jlk_206_72 jft_12_72 rfl jw_1277 rfl dX12_keeps_63 ?_
        refine jr_lm (fun s4 => ?_)
        refine jr_sub [] rfl ?_
        exact jj_X12_keeps_B66 G s4
    · refine jr_aload_n dX12_keeps_21 0 rfl ?_
      refine jr_getk (i := 71) jc_12 jk_206 (by decide) (Nat.le_of_ble_eq_true rfl) jlk_206_71 jw_1276 dX12_keeps_22 ?_
      refine jr_bipush dX12_keeps_25 (by decide) ?_
      refine jr_aload_n dX12_keeps_27 0 rfl ?_
      refine jr_geti (i := 73) jc_12 jk_206 (by decide) (Nat.le_of_ble_eq_true rfl) jlk_206_73 jft_12_73 jw_1278 dX12_keeps_28 ?_
      refine jr_imul dX12_keeps_31 ?_
      refine jr_iload_n dX12_keeps_32 1 rfl ?_
      refine jr_iadd dX12_keeps_33 ?_
      refine jr_aload_n dX12_keeps_34 0 rfl ?_
      refine jr_getk (i := 56) jc_12 jk_206 (by decide) (Nat.le_of_ble_eq_true rfl) jlk_206_56 jw_1261 dX12_keeps_35 ?_
      refine jr_iload_n dX12_keeps_38 1 rfl ?_
      refine jr_grd (fun g5 => ?_)
      refine jr_iaload jk_249 (by decide) hl1 g5 dX12_keeps_39 ?_
      refine jr_grd (fun g6 => ?_)
      refine jr_iastore jk_257 (by decide) (jl_n3_to _) g6 dX12_keeps_40 ?_
      refine jr_lm (fun s7 => ?_)
      refine jr_iinc (j := 1) (lv := [(1, jl_vi (jl_add l1 1)), (0, jl_vr G 206)]) dX12_keeps_41 rfl (Nat.le_of_ble_eq_true rfl) rfl ?_
      refine jr_goto (t := 15) dX12_keeps_44 (by decide) ?_
      refine jr_sub [1, 0] rfl ?_
      exact ih (jl_add l1 1) (jl_n3_to _) s7
def jf_X12_keeps (s0 : jl_Mm) : jl_O :=
  jl_lm (jl_up s0 206 73 (jl_rem (jl_add (jl_g s0 206 73) (1 : Int)) (20 : Int))) fun s1 => jf_X12_keeps_L15 jl_fu (0 : Int) s1
set_option maxRecDepth 20000 in
set_option maxHeartbeats 2000000 in
theorem jt_X12_keeps (G : jl_GC) (s0 : jl_Mm) : jC2 G jM_X12_keeps [jl_vr G 206] s0 (jf_X12_keeps s0) := by
  refine jl_met (plainFor_of_name rfl) (Nat.le_of_ble_eq_true rfl) ?_
  show j2 G jM_X12_keeps 0 [(0, jl_vr G 206)] [] s0 _
  refine jr_aload_n dX12_keeps_0 0 rfl ?_
  refine jr_aload_n dX12_keeps_1 0 rfl ?_
  refine jr_geti (i := 73) jc_12 jk_206 (by decide) (Nat.le_of_ble_eq_true rfl) jlk_206_73 jft_12_73 jw_1278 dX12_keeps_2 ?_
  refine jr_iconst dX12_keeps_5 ?_
  refine jr_iadd dX12_keeps_6 ?_
  refine jr_bipush dX12_keeps_7 (by decide) ?_
  refine jr_irem dX12_keeps_9 (jl_nlit rfl) (by decide) ?_
  refine jr_puti (i := 73) jc_12 jk_206 (by decide) (Nat.le_of_ble_eq_true rfl) jlk_206_73 jft_12_73 rfl jw_1278 rfl dX12_keeps_10 ?_
  refine jr_lm (fun s1 => ?_)
  refine jr_iconst dX12_keeps_13 ?_
  refine jr_istore_n (lv := [(1, jl_vi (0 : Int)), (0, jl_vr G 206)]) dX12_keeps_14 rfl (Nat.le_of_ble_eq_true rfl) rfl ?_
  refine jr_sub [1, 0] rfl ?_
  exact jj_X12_keeps_L15 G jl_fu (0 : Int) (jl_nlit rfl) s1
def jf_X12_undo_L21 : Nat → Int → jl_Mm → jl_O
  | 0, _, _ => none
  | n + 1, l1, s0 =>
    if (105 : Int) ≤ l1 then (jl_lm (jl_up s0 206 73 (jl_rem (jl_sub (jl_add (jl_g s0 206 73) (20 : Int)) (1 : Int)) (20 : Int))) fun s3 => jl_lm (jl_up s3 206 72 (jl_sub (jl_g s3 206 72) (1 : Int))) fun s4 => jl_zb (1 : Int) s4) else (if 0 ≤ jl_add (jl_mul (105 : Int) (jl_g s0 206 73)) l1 ∧ jl_add (jl_mul (105 : Int) (jl_g s0 206 73)) l1 < ((2100 : Nat) : Int) then if 0 ≤ l1 ∧ l1 < ((105 : Nat) : Int) then jl_lm (jl_up s0 249 (l1).toNat (jl_g s0 257 (jl_add (jl_mul (105 : Int) (jl_g s0 206 73)) l1).toNat)) fun s7 => jf_X12_undo_L21 n (jl_add l1 1) s7 else none else none)
set_option maxRecDepth 20000 in
set_option maxHeartbeats 2000000 in
theorem jj_X12_undo_L21 (G : jl_GC) : ∀ (n : Nat) (l1 : Int) (hl1 : jl_n3 l1) (s0 : jl_Mm), j2 G jM_X12_undo 21 [(0, jl_vr G 206), (1, jl_vi l1)] [] s0 (jf_X12_undo_L21 n l1 s0) := by
  intro n
  induction n with
  | zero =>
    intros
    exact jr_none
  | succ n ih =>
    intro l1 hl1 s0
    refine jr_iload_n dX12_undo_21 1 rfl ?_
    refine jr_bipush dX12_undo_22 (by decide) ?_
    refine jr_icmp_ge (t := 53) dX12_undo_24 (by decide) hl1 (jl_nlit rfl) (fun c2 => ?_) (fun c2 => ?_)
    · refine jr_aload_n dX12_undo_53 0 rfl ?_
      refine jr_aload_n dX12_undo_54 0 rfl ?_
      refine jr_geti (i := 73) jc_12 jk_206 (by decide) (Nat.le_of_ble_eq_true rfl) jlk_206_73 jft_12_73 jw_1278 dX12_undo_55 ?_
      refine jr_bipush dX12_undo_58 (by decide) ?_
      refine jr_iadd dX12_undo_60 ?_
      refine jr_iconst dX12_undo_61 ?_
      refine jr_isub dX12_undo_62 ?_
      refine jr_bipush dX12_undo_63 (by decide) ?_
      refine jr_irem dX12_undo_65 (jl_nlit rfl) (by decide) ?_
      refine jr_puti (i := 73) jc_12 jk_206 (by decide) (Nat.le_of_ble_eq_true rfl) jlk_206_73 jft_12_73 rfl jw_1278 rfl dX12_undo_66 ?_
      refine jr_lm (fun s3 => ?_)
      refine jr_aload_n dX12_undo_69 0 rfl ?_
      refine jr_dup dX12_undo_70 rfl ?_
      refine jr_geti (i := 72) jc_12 jk_206 (by decide) (Nat.le_of_ble_eq_true rfl) jlk_206_72 jft_12_72 jw_1277 dX12_undo_71 ?_
      refine jr_iconst dX12_undo_74 ?_
      refine jr_isub dX12_undo_75 ?_
      refine jr_puti (i := 72) jc_12 jk_206 (by decide) (Nat.le_of_ble_eq_true rfl) jlk_206_72 jft_12_72 rfl jw_1277 rfl dX12_undo_76 ?_
      refine jr_lm (fun s4 => ?_)
      refine jr_iconst dX12_undo_79 ?_
      exact jr_ret_z rfl dX12_undo_80
    · refine jr_aload_n dX12_undo_27 0 rfl ?_
      refine jr_getk (i := 56) jc_12 jk_206 (by decide) (Nat.le_of_ble_eq_true rfl) jlk_206_56 jw_1261 dX12_undo_28 ?_
      refine jr_iload_n dX12_undo_31 1 rfl ?_
      refine jr_aload_n dX12_undo_32 0 rfl ?_
      refine jr_getk (i := 71) jc_12 jk_206 (by decide) (Nat.le_of_ble_eq_true rfl) jlk_206_71 jw_1276 dX12_undo_33 ?_
      refine jr_bipush dX12_undo_36 (by decide) ?_
      refine jr_aload_n dX12_undo_38 0 rfl ?_
      refine jr_geti (i := 73) jc_12 jk_206 (by decide) (Nat.le_of_ble_eq_true rfl) jlk_206_73 jft_12_73 jw_1278 dX12_undo_39 ?_
      refine jr_imul dX12_undo_42 ?_
      refine jr_iload_n dX12_undo_43 1 rfl ?_
      refine jr_iadd dX12_undo_44 ?_
      refine jr_grd (fun g5 => ?_)
      refine jr_iaload jk_257 (by decide) (jl_n3_to _) g5 dX12_undo_45 ?_
      refine jr_grd (fun g6 => ?_)
      refine jr_iastore jk_249 (by decide) hl1 g6 dX12_undo_46 ?_
      refine jr_lm (fun s7 => ?_)
      refine jr_iinc (j := 1) (lv := [(1, jl_vi (jl_add l1 1)), (0, jl_vr G 206)]) dX12_undo_47 rfl (Nat.le_of_ble_eq_true rfl) rfl ?_
      refine jr_goto (t := 21) dX12_undo_50 (by decide) ?_
      refine jr_sub [1, 0] rfl ?_
      exact ih (jl_add l1 1) (jl_n3_to _) s7
def jf_X12_undo (s0 : jl_Mm) : jl_O :=
  if jl_g s0 206 72 = (0 : Int) then (jl_lm (jl_up s0 208 (((4 : Int) : Int).toNat) (jl_add (jl_g s0 208 (((4 : Int) : Int).toNat)) (1 : Int))) fun s8 => jl_zb (0 : Int) s8) else (jf_X12_undo_L21 jl_fu (0 : Int) s0)
set_option maxRecDepth 20000 in
set_option maxHeartbeats 2000000 in
theorem jt_X12_undo (G : jl_GC) (s0 : jl_Mm) : jC2 G jM_X12_undo [jl_vr G 206] s0 (jf_X12_undo s0) := by
  refine jl_met (plainFor_of_name rfl) (Nat.le_of_ble_eq_true rfl) ?_
  show j2 G jM_X12_undo 0 [(0, jl_vr G 206)] [] s0 _
  refine jr_aload_n dX12_undo_0 0 rfl ?_
  refine jr_geti (i := 72) jc_12 jk_206 (by decide) (Nat.le_of_ble_eq_true rfl) jlk_206_72 jft_12_72 jw_1277 dX12_undo_1 ?_
  refine jr_if_ne (t := 19) dX12_undo_4 (by decide) (jl_n3_to _) (fun c1 => ?_) (fun c1 => ?_)
  · refine jr_aload_n dX12_undo_7 0 rfl ?_
    refine jr_getk (i := 9) jc_12 jk_206 (by decide) (Nat.le_of_ble_eq_true rfl) jlk_206_9 jw_1214 dX12_undo_8 ?_
    refine jr_iconst dX12_undo_11 ?_
    refine jr_dup2_11 dX12_undo_12 rfl rfl ?_
    refine jr_iaload jk_208 (by decide) (jl_nlit rfl) ⟨by decide, by decide⟩ dX12_undo_13 ?_
    refine jr_iconst dX12_undo_14 ?_
    refine jr_iadd dX12_undo_15 ?_
    refine jr_iastore jk_208 (by decide) (jl_nlit rfl) ⟨by decide, by decide⟩ dX12_undo_16 ?_
    refine jr_lm (fun s8 => ?_)
    refine jr_iconst dX12_undo_17 ?_
    exact jr_ret_z rfl dX12_undo_18
  · refine jr_iconst dX12_undo_19 ?_
    refine jr_istore_n (lv := [(1, jl_vi (0 : Int)), (0, jl_vr G 206)]) dX12_undo_20 rfl (Nat.le_of_ble_eq_true rfl) rfl ?_
    refine jr_sub [1, 0] rfl ?_
    exact jj_X12_undo_L21 G jl_fu (0 : Int) (jl_nlit rfl) s0
def jf_X12_isRefused (v1 : Int) (s0 : jl_Mm) : jl_O :=
  if 0 ≤ v1 ∧ v1 < ((6 : Nat) : Int) then if 0 ≤ v1 ∧ v1 < ((6 : Nat) : Int) then jl_lm (jl_up s0 208 (v1).toNat (jl_add (jl_g s0 208 (v1).toNat) (1 : Int))) fun s3 => jl_zb (0 : Int) s3 else none else none
set_option maxRecDepth 20000 in
set_option maxHeartbeats 2000000 in
theorem jt_X12_isRefused (G : jl_GC) (v1 : Int) (h1 : jl_n3 v1) (s0 : jl_Mm) : jC2 G jM_X12_isRefused [jl_vr G 206, jl_vi v1] s0 (jf_X12_isRefused v1 s0) := by
  refine jl_met (plainFor_of_name rfl) (Nat.le_of_ble_eq_true rfl) ?_
  show j2 G jM_X12_isRefused 0 [(0, jl_vr G 206), (1, jl_vi v1)] [] s0 _
  refine jr_aload_n dX12_isRefused_0 0 rfl ?_
  refine jr_getk (i := 9) jc_12 jk_206 (by decide) (Nat.le_of_ble_eq_true rfl) jlk_206_9 jw_1214 dX12_isRefused_1 ?_
  refine jr_iload_n dX12_isRefused_4 1 rfl ?_
  refine jr_dup2_11 dX12_isRefused_5 rfl rfl ?_
  refine jr_grd (fun g1 => ?_)
  refine jr_iaload jk_208 (by decide) h1 g1 dX12_isRefused_6 ?_
  refine jr_iconst dX12_isRefused_7 ?_
  refine jr_iadd dX12_isRefused_8 ?_
  refine jr_grd (fun g2 => ?_)
  refine jr_iastore jk_208 (by decide) h1 g2 dX12_isRefused_9 ?_
  refine jr_lm (fun s3 => ?_)
  refine jr_iconst dX12_isRefused_10 ?_
  exact jr_ret_z rfl dX12_isRefused_11
def jf_X12_light_B39 (s0 : jl_Mm) : jl_O :=
  jl_bd (jf_X12_isRefused (2 : Int) s0) fun r4 s5 => jl_zb r4 s5
set_option maxRecDepth 20000 in
set_option maxHeartbeats 2000000 in
theorem jj_X12_light_B39 (G : jl_GC) (s0 : jl_Mm) : j2 G jM_X12_light 39 [(0, jl_vr G 206)] [] s0 (jf_X12_light_B39 s0) := by
  refine jr_aload_n dX12_light_39 0 rfl ?_
  refine jr_iconst dX12_light_40 ?_
  refine j2_callVz (As := [jl_vi (2 : Int)]) dX12_light_41 (jt_X12_isRefused G (2 : Int) (jl_nlit rfl) s0) jv_X12_isRefused ⟨rfl, rfl, rfl⟩ jw_2011 jk_206 (by decide) (by decide) rfl ⟨Nat.le_of_ble_eq_true rfl, Nat.le_of_ble_eq_true rfl⟩ rfl (Nat.le_of_ble_eq_true rfl) (fun r4 s5 hr4 => ?_)
  exact jr_ret_z rfl dX12_light_44
def jf_X12_light (v1 : Int) (v2 : Int) (s0 : jl_Mm) : jl_O :=
  jl_bd (jf_X12_isLie v1 s0) fun r1 s2 => if r1 = (0 : Int) then (jf_X12_light_B39 s2) else (jl_bd (jf_X12_isLit v1 s2) fun r6 s7 => if r6 = (0 : Int) then (jl_bd (jf_X12_isIn v2 (1 : Int) (99 : Int) s7) fun r9 s10 => if r9 = (0 : Int) then (jf_X12_light_B39 s10) else (if v2 ≤ jl_g s10 249 (((1 : Int) : Int).toNat) then (jl_bd (jf_X12_keeps s10) fun r13 s14 => if 0 ≤ jl_add (8 : Int) v1 ∧ jl_add (8 : Int) v1 < ((105 : Nat) : Int) then jl_lm (jl_up s14 249 (jl_add (8 : Int) v1).toNat v2) fun s16 => if 0 ≤ jl_add (16 : Int) v1 ∧ jl_add (16 : Int) v1 < ((105 : Nat) : Int) then jl_lm (jl_up s16 249 (jl_add (16 : Int) v1).toNat (0 : Int)) fun s18 => jl_lm (jl_up s18 249 (((1 : Int) : Int).toNat) (jl_sub (jl_g s18 249 (((1 : Int) : Int).toNat)) v2)) fun s19 => jl_zb (1 : Int) s19 else none else none) else (jf_X12_light_B39 s10))) else (jf_X12_light_B39 s7))
set_option maxRecDepth 20000 in
set_option maxHeartbeats 2000000 in
theorem jt_X12_light (G : jl_GC) (v1 : Int) (v2 : Int) (h1 : jl_n3 v1) (h2 : jl_n3 v2) (s0 : jl_Mm) : jC2 G jM_X12_light [jl_vr G 206, jl_vi v1, jl_vi v2] s0 (jf_X12_light v1 v2 s0) := by
  refine jl_met (plainFor_of_name rfl) (Nat.le_of_ble_eq_true rfl) ?_
  show j2 G jM_X12_light 0 [(0, jl_vr G 206), (1, jl_vi v1), (2, jl_vi v2)] [] s0 _
  refine jr_aload_n dX12_light_0 0 rfl ?_
  refine jr_iload_n dX12_light_1 1 rfl ?_
  refine jr_i2l dX12_light_2 h1 ?_
  refine j2_callVz (As := [jl_vl v1]) dX12_light_3 (jt_X12_isLie G v1 (jl_n36 h1) s0) jv_X12_isLie ⟨rfl, rfl, rfl⟩ jw_1850 jk_206 (by decide) (by decide) rfl ⟨Nat.le_of_ble_eq_true rfl, Nat.le_of_ble_eq_true rfl⟩ rfl (Nat.le_of_ble_eq_true rfl) (fun r1 s2 hr1 => ?_)
  refine jr_if_eq (t := 39) dX12_light_6 (by decide) (jl_nz hr1) (fun c3 => ?_) (fun c3 => ?_)
  · refine jr_sub [0] rfl ?_
    exact jj_X12_light_B39 G s2
  · refine jr_aload_n dX12_light_9 0 rfl ?_
    refine jr_iload_n dX12_light_10 1 rfl ?_
    refine j2_callVz (As := [jl_vi v1]) dX12_light_11 (jt_X12_isLit G v1 h1 s2) jv_X12_isLit ⟨rfl, rfl, rfl⟩ jw_1763 jk_206 (by decide) (by decide) rfl ⟨Nat.le_of_ble_eq_true rfl, Nat.le_of_ble_eq_true rfl⟩ rfl (Nat.le_of_ble_eq_true rfl) (fun r6 s7 hr6 => ?_)
    refine jr_if_ne (t := 39) dX12_light_14 (by decide) (jl_nz hr6) (fun c8 => ?_) (fun c8 => ?_)
    · refine jr_iload_n dX12_light_17 2 rfl ?_
      refine jr_i2l dX12_light_18 h2 ?_
      refine jr_lconst (v := 1) dX12_light_19 (by decide) ?_
      refine jr_ldc2_w (v := 99) dX12_light_20 jw_2010 (by decide) ?_
      refine j2_callSz (As := [jl_vl v2, jl_vl (1 : Int), jl_vl (99 : Int)]) dX12_light_23 (jt_X12_isIn G v2 (1 : Int) (99 : Int) (jl_n36 h2) (jl_n6lit rfl) (jl_n6lit rfl) s7) jv_X12_isIn ⟨rfl, rfl, rfl⟩ jw_1588 ⟨Nat.le_of_ble_eq_true rfl, Nat.le_of_ble_eq_true rfl⟩ rfl (Nat.le_of_ble_eq_true rfl) (fun r9 s10 hr9 => ?_)
      refine jr_if_eq (t := 39) dX12_light_26 (by decide) (jl_nz hr9) (fun c11 => ?_) (fun c11 => ?_)
      · refine jr_sub [0] rfl ?_
        exact jj_X12_light_B39 G s10
      · refine jr_aload_n dX12_light_29 0 rfl ?_
        refine jr_getk (i := 56) jc_12 jk_206 (by decide) (Nat.le_of_ble_eq_true rfl) jlk_206_56 jw_1261 dX12_light_30 ?_
        refine jr_iconst dX12_light_33 ?_
        refine jr_iaload jk_249 (by decide) (jl_nlit rfl) ⟨by decide, by decide⟩ dX12_light_34 ?_
        refine jr_iload_n dX12_light_35 2 rfl ?_
        refine jr_icmp_ge (t := 45) dX12_light_36 (by decide) (jl_n3_to _) h2 (fun c12 => ?_) (fun c12 => ?_)
        · refine jr_aload_n dX12_light_45 0 rfl ?_
          refine j2_callVv (As := []) dX12_light_46 (jt_X12_keeps G s10) jv_X12_keeps ⟨rfl, rfl, rfl⟩ jw_2015 jk_206 (by decide) (by decide) rfl ⟨Nat.le_of_ble_eq_true rfl, Nat.le_of_ble_eq_true rfl⟩ rfl (Nat.le_of_ble_eq_true rfl) (fun r13 s14 hr13 => ?_)
          refine jr_aload_n dX12_light_49 0 rfl ?_
          refine jr_getk (i := 56) jc_12 jk_206 (by decide) (Nat.le_of_ble_eq_true rfl) jlk_206_56 jw_1261 dX12_light_50 ?_
          refine jr_bipush dX12_light_53 (by decide) ?_
          refine jr_iload_n dX12_light_55 1 rfl ?_
          refine jr_iadd dX12_light_56 ?_
          refine jr_iload_n dX12_light_57 2 rfl ?_
          refine jr_grd (fun g15 => ?_)
          refine jr_iastore jk_249 (by decide) (jl_n3_to _) g15 dX12_light_58 ?_
          refine jr_lm (fun s16 => ?_)
          refine jr_aload_n dX12_light_59 0 rfl ?_
          refine jr_getk (i := 56) jc_12 jk_206 (by decide) (Nat.le_of_ble_eq_true rfl) jlk_206_56 jw_1261 dX12_light_60 ?_
          refine jr_bipush dX12_light_63 (by decide) ?_
          refine jr_iload_n dX12_light_65 1 rfl ?_
          refine jr_iadd dX12_light_66 ?_
          refine jr_iconst dX12_light_67 ?_
          refine jr_grd (fun g17 => ?_)
          refine jr_iastore jk_249 (by decide) (jl_n3_to _) g17 dX12_light_68 ?_
          refine jr_lm (fun s18 => ?_)
          refine jr_aload_n dX12_light_69 0 rfl ?_
          refine jr_getk (i := 56) jc_12 jk_206 (by decide) (Nat.le_of_ble_eq_true rfl) jlk_206_56 jw_1261 dX12_light_70 ?_
          refine jr_iconst dX12_light_73 ?_
          refine jr_dup2_11 dX12_light_74 rfl rfl ?_
          refine jr_iaload jk_249 (by decide) (jl_nlit rfl) ⟨by decide, by decide⟩ dX12_light_75 ?_
          refine jr_iload_n dX12_light_76 2 rfl ?_
          refine jr_isub dX12_light_77 ?_
          refine jr_iastore jk_249 (by decide) (jl_nlit rfl) ⟨by decide, by decide⟩ dX12_light_78 ?_
          refine jr_lm (fun s19 => ?_)
          refine jr_iconst dX12_light_79 ?_
          exact jr_ret_z rfl dX12_light_80
        · refine jr_sub [0] rfl ?_
          exact jj_X12_light_B39 G s10
    · refine jr_sub [0] rfl ?_
      exact jj_X12_light_B39 G s7
def jf_X12_snuff_B17 (s0 : jl_Mm) : jl_O :=
  jl_bd (jf_X12_refuses (2 : Int) s0) fun r4 s5 => some (r4, s5)
set_option maxRecDepth 20000 in
set_option maxHeartbeats 2000000 in
theorem jj_X12_snuff_B17 (G : jl_GC) (s0 : jl_Mm) : j2 G jM_X12_snuff 17 [(0, jl_vr G 206)] [] s0 (jf_X12_snuff_B17 s0) := by
  refine jr_aload_n dX12_snuff_17 0 rfl ?_
  refine jr_iconst dX12_snuff_18 ?_
  refine j2_callVi (As := [jl_vi (2 : Int)]) dX12_snuff_19 (jt_X12_refuses G (2 : Int) (jl_nlit rfl) s0) jv_X12_refuses ⟨rfl, rfl, rfl⟩ jw_1727 jk_206 (by decide) (by decide) rfl ⟨Nat.le_of_ble_eq_true rfl, Nat.le_of_ble_eq_true rfl⟩ rfl (Nat.le_of_ble_eq_true rfl) (fun r4 s5 hr4 => ?_)
  exact jr_ret_i rfl hr4 dX12_snuff_22
def jf_X12_snuff (v1 : Int) (s0 : jl_Mm) : jl_O :=
  jl_bd (jf_X12_isLie v1 s0) fun r1 s2 => if r1 = (0 : Int) then (jf_X12_snuff_B17 s2) else (jl_bd (jf_X12_isLit v1 s2) fun r6 s7 => if r6 = (0 : Int) then (jf_X12_snuff_B17 s7) else (jl_bd (jf_X12_keeps s7) fun r9 s10 => if 0 ≤ jl_add (8 : Int) v1 ∧ jl_add (8 : Int) v1 < ((105 : Nat) : Int) then jl_let (jl_g s10 249 (jl_add (8 : Int) v1).toNat) fun x12 => jl_bd (jf_X12_snuffs v1 s10) fun r13 s14 => some (x12, s14) else none))
set_option maxRecDepth 20000 in
set_option maxHeartbeats 2000000 in
theorem jt_X12_snuff (G : jl_GC) (v1 : Int) (h1 : jl_n3 v1) (s0 : jl_Mm) : jC2 G jM_X12_snuff [jl_vr G 206, jl_vi v1] s0 (jf_X12_snuff v1 s0) := by
  refine jl_met (plainFor_of_name rfl) (Nat.le_of_ble_eq_true rfl) ?_
  show j2 G jM_X12_snuff 0 [(0, jl_vr G 206), (1, jl_vi v1)] [] s0 _
  refine jr_aload_n dX12_snuff_0 0 rfl ?_
  refine jr_iload_n dX12_snuff_1 1 rfl ?_
  refine jr_i2l dX12_snuff_2 h1 ?_
  refine j2_callVz (As := [jl_vl v1]) dX12_snuff_3 (jt_X12_isLie G v1 (jl_n36 h1) s0) jv_X12_isLie ⟨rfl, rfl, rfl⟩ jw_1850 jk_206 (by decide) (by decide) rfl ⟨Nat.le_of_ble_eq_true rfl, Nat.le_of_ble_eq_true rfl⟩ rfl (Nat.le_of_ble_eq_true rfl) (fun r1 s2 hr1 => ?_)
  refine jr_if_eq (t := 17) dX12_snuff_6 (by decide) (jl_nz hr1) (fun c3 => ?_) (fun c3 => ?_)
  · refine jr_sub [0] rfl ?_
    exact jj_X12_snuff_B17 G s2
  · refine jr_aload_n dX12_snuff_9 0 rfl ?_
    refine jr_iload_n dX12_snuff_10 1 rfl ?_
    refine j2_callVz (As := [jl_vi v1]) dX12_snuff_11 (jt_X12_isLit G v1 h1 s2) jv_X12_isLit ⟨rfl, rfl, rfl⟩ jw_1763 jk_206 (by decide) (by decide) rfl ⟨Nat.le_of_ble_eq_true rfl, Nat.le_of_ble_eq_true rfl⟩ rfl (Nat.le_of_ble_eq_true rfl) (fun r6 s7 hr6 => ?_)
    refine jr_if_ne (t := 23) dX12_snuff_14 (by decide) (jl_nz hr6) (fun c8 => ?_) (fun c8 => ?_)
    · refine jr_sub [0] rfl ?_
      exact jj_X12_snuff_B17 G s7
    · refine jr_aload_n dX12_snuff_23 0 rfl ?_
      refine j2_callVv (As := []) dX12_snuff_24 (jt_X12_keeps G s7) jv_X12_keeps ⟨rfl, rfl, rfl⟩ jw_2015 jk_206 (by decide) (by decide) rfl ⟨Nat.le_of_ble_eq_true rfl, Nat.le_of_ble_eq_true rfl⟩ rfl (Nat.le_of_ble_eq_true rfl) (fun r9 s10 hr9 => ?_)
      refine jr_aload_n dX12_snuff_27 0 rfl ?_
      refine jr_getk (i := 56) jc_12 jk_206 (by decide) (Nat.le_of_ble_eq_true rfl) jlk_206_56 jw_1261 dX12_snuff_28 ?_
      refine jr_bipush dX12_snuff_31 (by decide) ?_
      refine jr_iload_n dX12_snuff_33 1 rfl ?_
      refine jr_iadd dX12_snuff_34 ?_
      refine jr_grd (fun g11 => ?_)
      refine jr_iaload jk_249 (by decide) (jl_n3_to _) g11 dX12_snuff_35 ?_
      refine jr_let (jl_n3_to _) (fun x12 hx12 => ?_)
      refine jr_istore_n (lv := [(2, jl_vi x12), (0, jl_vr G 206), (1, jl_vi v1)]) dX12_snuff_36 rfl (Nat.le_of_ble_eq_true rfl) rfl ?_
      refine jr_aload_n dX12_snuff_37 1 rfl ?_
      refine jr_iload_n dX12_snuff_38 2 rfl ?_
      refine j2_callVv (As := [jl_vi v1]) dX12_snuff_39 (jt_X12_snuffs G v1 h1 s10) jv_X12_snuffs ⟨rfl, rfl, rfl⟩ jw_1958 jk_206 (by decide) (by decide) rfl ⟨Nat.le_of_ble_eq_true rfl, Nat.le_of_ble_eq_true rfl⟩ rfl (Nat.le_of_ble_eq_true rfl) (fun r13 s14 hr13 => ?_)
      refine jr_iload_n dX12_snuff_42 0 rfl ?_
      exact jr_ret_i rfl hx12 dX12_snuff_43
def jf_X12_move_B29 (s0 : jl_Mm) : jl_O :=
  jl_bd (jf_X12_isRefused (2 : Int) s0) fun r4 s5 => jl_zb r4 s5
set_option maxRecDepth 20000 in
set_option maxHeartbeats 2000000 in
theorem jj_X12_move_B29 (G : jl_GC) (s0 : jl_Mm) : j2 G jM_X12_move 29 [(0, jl_vr G 206)] [] s0 (jf_X12_move_B29 s0) := by
  refine jr_aload_n dX12_move_29 0 rfl ?_
  refine jr_iconst dX12_move_30 ?_
  refine j2_callVz (As := [jl_vi (2 : Int)]) dX12_move_31 (jt_X12_isRefused G (2 : Int) (jl_nlit rfl) s0) jv_X12_isRefused ⟨rfl, rfl, rfl⟩ jw_2011 jk_206 (by decide) (by decide) rfl ⟨Nat.le_of_ble_eq_true rfl, Nat.le_of_ble_eq_true rfl⟩ rfl (Nat.le_of_ble_eq_true rfl) (fun r4 s5 hr4 => ?_)
  exact jr_ret_z rfl dX12_move_34
def jf_X12_move (v1 : Int) (v2 : Int) (s0 : jl_Mm) : jl_O :=
  jl_bd (jf_X12_isPerson v1 s0) fun r1 s2 => if r1 = (0 : Int) then (jf_X12_move_B29 s2) else (jl_bd (jf_X12_isWindow v2 s2) fun r6 s7 => if r6 = (0 : Int) then (jf_X12_move_B29 s7) else (if 0 ≤ jl_add (2 : Int) v1 ∧ jl_add (2 : Int) v1 < ((105 : Nat) : Int) then if jl_g s7 249 (jl_add (2 : Int) v1).toNat = v2 then (jf_X12_move_B29 s7) else (jl_bd (jf_X12_keeps s7) fun r11 s12 => if 0 ≤ jl_add (2 : Int) v1 ∧ jl_add (2 : Int) v1 < ((105 : Nat) : Int) then jl_lm (jl_up s12 249 (jl_add (2 : Int) v1).toNat v2) fun s14 => jl_zb (1 : Int) s14 else none) else none))
set_option maxRecDepth 20000 in
set_option maxHeartbeats 2000000 in
theorem jt_X12_move (G : jl_GC) (v1 : Int) (v2 : Int) (h1 : jl_n3 v1) (h2 : jl_n3 v2) (s0 : jl_Mm) : jC2 G jM_X12_move [jl_vr G 206, jl_vi v1, jl_vi v2] s0 (jf_X12_move v1 v2 s0) := by
  refine jl_met (plainFor_of_name rfl) (Nat.le_of_ble_eq_true rfl) ?_
  show j2 G jM_X12_move 0 [(0, jl_vr G 206), (1, jl_vi v1), (2, jl_vi v2)] [] s0 _
  refine jr_aload_n dX12_move_0 0 rfl ?_
  refine jr_iload_n dX12_move_1 1 rfl ?_
  refine j2_callVz (As := [jl_vi v1]) dX12_move_2 (jt_X12_isPerson G v1 h1 s0) jv_X12_isPerson ⟨rfl, rfl, rfl⟩ jw_1838 jk_206 (by decide) (by decide) rfl ⟨Nat.le_of_ble_eq_true rfl, Nat.le_of_ble_eq_true rfl⟩ rfl (Nat.le_of_ble_eq_true rfl) (fun r1 s2 hr1 => ?_)
  refine jr_if_eq (t := 29) dX12_move_5 (by decide) (jl_nz hr1) (fun c3 => ?_) (fun c3 => ?_)
  · refine jr_sub [0] rfl ?_
    exact jj_X12_move_B29 G s2
  · refine jr_aload_n dX12_move_8 0 rfl ?_
    refine jr_iload_n dX12_move_9 2 rfl ?_
    refine jr_i2l dX12_move_10 h2 ?_
    refine j2_callVz (As := [jl_vl v2]) dX12_move_11 (jt_X12_isWindow G v2 (jl_n36 h2) s2) jv_X12_isWindow ⟨rfl, rfl, rfl⟩ jw_1866 jk_206 (by decide) (by decide) rfl ⟨Nat.le_of_ble_eq_true rfl, Nat.le_of_ble_eq_true rfl⟩ rfl (Nat.le_of_ble_eq_true rfl) (fun r6 s7 hr6 => ?_)
    refine jr_if_eq (t := 29) dX12_move_14 (by decide) (jl_nz hr6) (fun c8 => ?_) (fun c8 => ?_)
    · refine jr_sub [0] rfl ?_
      exact jj_X12_move_B29 G s7
    · refine jr_aload_n dX12_move_17 0 rfl ?_
      refine jr_getk (i := 56) jc_12 jk_206 (by decide) (Nat.le_of_ble_eq_true rfl) jlk_206_56 jw_1261 dX12_move_18 ?_
      refine jr_iconst dX12_move_21 ?_
      refine jr_iload_n dX12_move_22 1 rfl ?_
      refine jr_iadd dX12_move_23 ?_
      refine jr_grd (fun g9 => ?_)
      refine jr_iaload jk_249 (by decide) (jl_n3_to _) g9 dX12_move_24 ?_
      refine jr_iload_n dX12_move_25 2 rfl ?_
      refine jr_icmp_ne (t := 35) dX12_move_26 (by decide) (jl_n3_to _) h2 (fun c10 => ?_) (fun c10 => ?_)
      · refine jr_sub [0] rfl ?_
        exact jj_X12_move_B29 G s7
      · refine jr_aload_n dX12_move_35 0 rfl ?_
        refine j2_callVv (As := []) dX12_move_36 (jt_X12_keeps G s7) jv_X12_keeps ⟨rfl, rfl, rfl⟩ jw_2015 jk_206 (by decide) (by decide) rfl ⟨Nat.le_of_ble_eq_true rfl, Nat.le_of_ble_eq_true rfl⟩ rfl (Nat.le_of_ble_eq_true rfl) (fun r11 s12 hr11 => ?_)
        refine jr_aload_n dX12_move_39 0 rfl ?_
        refine jr_getk (i := 56) jc_12 jk_206 (by decide) (Nat.le_of_ble_eq_true rfl) jlk_206_56 jw_1261 dX12_move_40 ?_
        refine jr_iconst dX12_move_43 ?_
        refine jr_iload_n dX12_move_44 1 rfl ?_
        refine jr_iadd dX12_move_45 ?_
        refine jr_iload_n dX12_move_46 2 rfl ?_
        refine jr_grd (fun g13 => ?_)
        refine jr_iastore jk_249 (by decide) (jl_n3_to _) g13 dX12_move_47 ?_
        refine jr_lm (fun s14 => ?_)
        refine jr_iconst dX12_move_48 ?_
        exact jr_ret_z rfl dX12_move_49
def jf_X12_buy_B31 (s0 : jl_Mm) : jl_O :=
  jl_bd (jf_X12_refuses (2 : Int) s0) fun r2 s3 => some (r2, s3)
set_option maxRecDepth 20000 in
set_option maxHeartbeats 2000000 in
theorem jj_X12_buy_B31 (G : jl_GC) (s0 : jl_Mm) : j2 G jM_X12_buy 31 [(0, jl_vr G 206)] [] s0 (jf_X12_buy_B31 s0) := by
  refine jr_aload_n dX12_buy_31 0 rfl ?_
  refine jr_iconst dX12_buy_32 ?_
  refine j2_callVi (As := [jl_vi (2 : Int)]) dX12_buy_33 (jt_X12_refuses G (2 : Int) (jl_nlit rfl) s0) jv_X12_refuses ⟨rfl, rfl, rfl⟩ jw_1727 jk_206 (by decide) (by decide) rfl ⟨Nat.le_of_ble_eq_true rfl, Nat.le_of_ble_eq_true rfl⟩ rfl (Nat.le_of_ble_eq_true rfl) (fun r2 s3 hr2 => ?_)
  exact jr_ret_i rfl hr2 dX12_buy_36
def jf_X12_buy (v1 : Int) (s0 : jl_Mm) : jl_O :=
  if jl_g s0 206 54 = (0 : Int) then (jf_X12_buy_B31 s0) else (jl_bd (jf_X12_isIn v1 (1 : Int) (999 : Int) s0) fun r4 s5 => if r4 = (0 : Int) then (jf_X12_buy_B31 s5) else (if jl_g s5 249 (((1 : Int) : Int).toNat) = (999 : Int) then (jf_X12_buy_B31 s5) else (jl_bd (jf_X12_keeps s5) fun r8 s9 => jl_bd (jf_X12_clamp (jl_add (jl_g s9 249 (((1 : Int) : Int).toNat)) v1) (999 : Int) s9) fun r10 s11 => jl_lm (jl_up s11 249 (((1 : Int) : Int).toNat) r10) fun s12 => some (jl_g s12 249 (((1 : Int) : Int).toNat), s12))))
set_option maxRecDepth 20000 in
set_option maxHeartbeats 2000000 in
theorem jt_X12_buy (G : jl_GC) (v1 : Int) (h1 : jl_n3 v1) (s0 : jl_Mm) : jC2 G jM_X12_buy [jl_vr G 206, jl_vi v1] s0 (jf_X12_buy v1 s0) := by
  refine jl_met (plainFor_of_name rfl) (Nat.le_of_ble_eq_true rfl) ?_
  show j2 G jM_X12_buy 0 [(0, jl_vr G 206), (1, jl_vi v1)] [] s0 _
  refine jr_aload_n dX12_buy_0 0 rfl ?_
  refine jr_geti (i := 54) jc_12 jk_206 (by decide) (Nat.le_of_ble_eq_true rfl) jlk_206_54 jft_12_54 jw_1259 dX12_buy_1 ?_
  refine jr_if_eq (t := 31) dX12_buy_4 (by decide) (jl_n3_to _) (fun c1 => ?_) (fun c1 => ?_)
  · refine jr_sub [0] rfl ?_
    exact jj_X12_buy_B31 G s0
  · refine jr_iload_n dX12_buy_7 1 rfl ?_
    refine jr_i2l dX12_buy_8 h1 ?_
    refine jr_lconst (v := 1) dX12_buy_9 (by decide) ?_
    refine jr_ldc2_w (v := 999) dX12_buy_10 jw_2031 (by decide) ?_
    refine j2_callSz (As := [jl_vl v1, jl_vl (1 : Int), jl_vl (999 : Int)]) dX12_buy_13 (jt_X12_isIn G v1 (1 : Int) (999 : Int) (jl_n36 h1) (jl_n6lit rfl) (jl_n6lit rfl) s0) jv_X12_isIn ⟨rfl, rfl, rfl⟩ jw_1588 ⟨Nat.le_of_ble_eq_true rfl, Nat.le_of_ble_eq_true rfl⟩ rfl (Nat.le_of_ble_eq_true rfl) (fun r4 s5 hr4 => ?_)
    refine jr_if_eq (t := 31) dX12_buy_16 (by decide) (jl_nz hr4) (fun c6 => ?_) (fun c6 => ?_)
    · refine jr_sub [0] rfl ?_
      exact jj_X12_buy_B31 G s5
    · refine jr_aload_n dX12_buy_19 0 rfl ?_
      refine jr_getk (i := 56) jc_12 jk_206 (by decide) (Nat.le_of_ble_eq_true rfl) jlk_206_56 jw_1261 dX12_buy_20 ?_
      refine jr_iconst dX12_buy_23 ?_
      refine jr_iaload jk_249 (by decide) (jl_nlit rfl) ⟨by decide, by decide⟩ dX12_buy_24 ?_
      refine jr_sipush dX12_buy_25 (by decide) ?_
      refine jr_icmp_ne (t := 37) dX12_buy_28 (by decide) (jl_n3_to _) (jl_nlit rfl) (fun c7 => ?_) (fun c7 => ?_)
      · refine jr_sub [0] rfl ?_
        exact jj_X12_buy_B31 G s5
      · refine jr_aload_n dX12_buy_37 0 rfl ?_
        refine j2_callVv (As := []) dX12_buy_38 (jt_X12_keeps G s5) jv_X12_keeps ⟨rfl, rfl, rfl⟩ jw_2015 jk_206 (by decide) (by decide) rfl ⟨Nat.le_of_ble_eq_true rfl, Nat.le_of_ble_eq_true rfl⟩ rfl (Nat.le_of_ble_eq_true rfl) (fun r8 s9 hr8 => ?_)
        refine jr_aload_n dX12_buy_41 0 rfl ?_
        refine jr_getk (i := 56) jc_12 jk_206 (by decide) (Nat.le_of_ble_eq_true rfl) jlk_206_56 jw_1261 dX12_buy_42 ?_
        refine jr_iconst dX12_buy_45 ?_
        refine jr_aload_n dX12_buy_46 0 rfl ?_
        refine jr_getk (i := 56) jc_12 jk_206 (by decide) (Nat.le_of_ble_eq_true rfl) jlk_206_56 jw_1261 dX12_buy_47 ?_
        refine jr_iconst dX12_buy_50 ?_
        refine jr_iaload jk_249 (by decide) (jl_nlit rfl) ⟨by decide, by decide⟩ dX12_buy_51 ?_
        refine jr_iload_n dX12_buy_52 1 rfl ?_
        refine jr_iadd dX12_buy_53 ?_
        refine jr_i2l dX12_buy_54 (jl_n3_to _) ?_
        refine jr_sipush dX12_buy_55 (by decide) ?_
        refine j2_callSi (As := [jl_vl (jl_add (jl_g s9 249 (((1 : Int) : Int).toNat)) v1), jl_vi (999 : Int)]) dX12_buy_58 (jt_X12_clamp G (jl_add (jl_g s9 249 (((1 : Int) : Int).toNat)) v1) (999 : Int) (jl_n36 (jl_n3_to _)) (jl_nlit rfl) s9) jv_X12_clamp ⟨rfl, rfl, rfl⟩ jw_1820 ⟨Nat.le_of_ble_eq_true rfl, Nat.le_of_ble_eq_true rfl⟩ rfl (Nat.le_of_ble_eq_true rfl) (fun r10 s11 hr10 => ?_)
        refine jr_iastore jk_249 (by decide) (jl_nlit rfl) ⟨by decide, by decide⟩ dX12_buy_61 ?_
        refine jr_lm (fun s12 => ?_)
        refine jr_aload_n dX12_buy_62 0 rfl ?_
        refine jr_getk (i := 56) jc_12 jk_206 (by decide) (Nat.le_of_ble_eq_true rfl) jlk_206_56 jw_1261 dX12_buy_63 ?_
        refine jr_iconst dX12_buy_66 ?_
        refine jr_iaload jk_249 (by decide) (jl_nlit rfl) ⟨by decide, by decide⟩ dX12_buy_67 ?_
        exact jr_ret_i rfl (jl_n3_to _) dX12_buy_68
def jf_X12_hours (v1 : Int) (s0 : jl_Mm) : jl_O :=
  jl_bd (jf_X12_isAhead v1 (1 : Int) (100 : Int) s0) fun r1 s2 => if r1 = (0 : Int) then (jl_bd (jf_X12_refuses (3 : Int) s2) fun r8 s9 => some (r8, s9)) else (jl_bd (jf_X12_keeps s2) fun r4 s5 => jl_bd (jf_X12_hoursGo v1 s5) fun r6 s7 => some (jl_g s7 206 61, s7))
set_option maxRecDepth 20000 in
set_option maxHeartbeats 2000000 in
theorem jt_X12_hours (G : jl_GC) (v1 : Int) (h1 : jl_n3 v1) (s0 : jl_Mm) : jC2 G jM_X12_hours [jl_vr G 206, jl_vi v1] s0 (jf_X12_hours v1 s0) := by
  refine jl_met (plainFor_of_name rfl) (Nat.le_of_ble_eq_true rfl) ?_
  show j2 G jM_X12_hours 0 [(0, jl_vr G 206), (1, jl_vi v1)] [] s0 _
  refine jr_aload_n dX12_hours_0 0 rfl ?_
  refine jr_iload_n dX12_hours_1 1 rfl ?_
  refine jr_iconst dX12_hours_2 ?_
  refine jr_bipush dX12_hours_3 (by decide) ?_
  refine j2_callVz (As := [jl_vi v1, jl_vi (1 : Int), jl_vi (100 : Int)]) dX12_hours_5 (jt_X12_isAhead G v1 (1 : Int) (100 : Int) h1 (jl_nlit rfl) (jl_nlit rfl) s0) jv_X12_isAhead ⟨rfl, rfl, rfl⟩ jw_1870 jk_206 (by decide) (by decide) rfl ⟨Nat.le_of_ble_eq_true rfl, Nat.le_of_ble_eq_true rfl⟩ rfl (Nat.le_of_ble_eq_true rfl) (fun r1 s2 hr1 => ?_)
  refine jr_if_ne (t := 17) dX12_hours_8 (by decide) (jl_nz hr1) (fun c3 => ?_) (fun c3 => ?_)
  · refine jr_aload_n dX12_hours_11 0 rfl ?_
    refine jr_iconst dX12_hours_12 ?_
    refine j2_callVi (As := [jl_vi (3 : Int)]) dX12_hours_13 (jt_X12_refuses G (3 : Int) (jl_nlit rfl) s2) jv_X12_refuses ⟨rfl, rfl, rfl⟩ jw_1727 jk_206 (by decide) (by decide) rfl ⟨Nat.le_of_ble_eq_true rfl, Nat.le_of_ble_eq_true rfl⟩ rfl (Nat.le_of_ble_eq_true rfl) (fun r8 s9 hr8 => ?_)
    exact jr_ret_i rfl hr8 dX12_hours_16
  · refine jr_aload_n dX12_hours_17 0 rfl ?_
    refine j2_callVv (As := []) dX12_hours_18 (jt_X12_keeps G s2) jv_X12_keeps ⟨rfl, rfl, rfl⟩ jw_2015 jk_206 (by decide) (by decide) rfl ⟨Nat.le_of_ble_eq_true rfl, Nat.le_of_ble_eq_true rfl⟩ rfl (Nat.le_of_ble_eq_true rfl) (fun r4 s5 hr4 => ?_)
    refine jr_aload_n dX12_hours_21 0 rfl ?_
    refine jr_iload_n dX12_hours_22 1 rfl ?_
    refine j2_callVv (As := [jl_vi v1]) dX12_hours_23 (jt_X12_hoursGo G v1 h1 s5) jv_X12_hoursGo ⟨rfl, rfl, rfl⟩ jw_1890 jk_206 (by decide) (by decide) rfl ⟨Nat.le_of_ble_eq_true rfl, Nat.le_of_ble_eq_true rfl⟩ rfl (Nat.le_of_ble_eq_true rfl) (fun r6 s7 hr6 => ?_)
    refine jr_aload_n dX12_hours_26 0 rfl ?_
    refine jr_geti (i := 61) jc_12 jk_206 (by decide) (Nat.le_of_ble_eq_true rfl) jlk_206_61 jft_12_61 jw_1266 dX12_hours_27 ?_
    exact jr_ret_i rfl (jl_n3_to _) dX12_hours_30
def jf_X12_seed (v1 : Int) (s0 : jl_Mm) : jl_O :=
  if (0 : Int) ≤ v1 then (jl_lm (jl_up s0 206 74 v1) fun s2 => jl_zb (1 : Int) s2) else (jl_bd (jf_X12_isRefused (5 : Int) s0) fun r3 s4 => jl_zb r3 s4)
set_option maxRecDepth 20000 in
set_option maxHeartbeats 2000000 in
theorem jt_X12_seed (G : jl_GC) (v1 : Int) (h1 : jl_n3 v1) (s0 : jl_Mm) : jC2 G jM_X12_seed [jl_vr G 206, jl_vi v1] s0 (jf_X12_seed v1 s0) := by
  refine jl_met (plainFor_of_name rfl) (Nat.le_of_ble_eq_true rfl) ?_
  show j2 G jM_X12_seed 0 [(0, jl_vr G 206), (1, jl_vi v1)] [] s0 _
  refine jr_iload_n dX12_seed_0 1 rfl ?_
  refine jr_if_ge (t := 10) dX12_seed_1 (by decide) h1 (fun c1 => ?_) (fun c1 => ?_)
  · refine jr_aload_n dX12_seed_10 0 rfl ?_
    refine jr_iload_n dX12_seed_11 1 rfl ?_
    refine jr_i2l dX12_seed_12 h1 ?_
    refine jr_putl (i := 74) jc_12 jk_206 (by decide) (Nat.le_of_ble_eq_true rfl) jlk_206_74 jft_12_74 rfl jw_1279 rfl dX12_seed_13 ?_
    refine jr_lm (fun s2 => ?_)
    refine jr_iconst dX12_seed_16 ?_
    exact jr_ret_z rfl dX12_seed_17
  · refine jr_aload_n dX12_seed_4 0 rfl ?_
    refine jr_iconst dX12_seed_5 ?_
    refine j2_callVz (As := [jl_vi (5 : Int)]) dX12_seed_6 (jt_X12_isRefused G (5 : Int) (jl_nlit rfl) s0) jv_X12_isRefused ⟨rfl, rfl, rfl⟩ jw_2011 jk_206 (by decide) (by decide) rfl ⟨Nat.le_of_ble_eq_true rfl, Nat.le_of_ble_eq_true rfl⟩ rfl (Nat.le_of_ble_eq_true rfl) (fun r3 s4 hr3 => ?_)
    exact jr_ret_z rfl dX12_seed_9
def jf_X12_drawOf (v1 : Int) (s0 : jl_Mm) : jl_O :=
  jl_lm (jl_up s0 206 74 (jl_lrem (jl_ladd (jl_lmul (1103515245 : Int) (jl_gl s0 206 74)) (12345 : Int)) (2147483648 : Int))) fun s1 => if ¬ v1 = 0 then some (jl_l2i (jl_lrem (jl_ldiv (jl_gl s1 206 74) (64 : Int)) v1), s1) else none
set_option maxRecDepth 20000 in
set_option maxHeartbeats 2000000 in
theorem jt_X12_drawOf (G : jl_GC) (v1 : Int) (h1 : jl_n3 v1) (s0 : jl_Mm) : jC2 G jM_X12_drawOf [jl_vr G 206, jl_vi v1] s0 (jf_X12_drawOf v1 s0) := by
  refine jl_met (plainFor_of_name rfl) (Nat.le_of_ble_eq_true rfl) ?_
  show j2 G jM_X12_drawOf 0 [(0, jl_vr G 206), (1, jl_vi v1)] [] s0 _
  refine jr_aload_n dX12_drawOf_0 0 rfl ?_
  refine jr_ldc2_w (v := 1103515245) dX12_drawOf_1 jw_2048 (by decide) ?_
  refine jr_aload_n dX12_drawOf_4 0 rfl ?_
  refine jr_getl (i := 74) jc_12 jk_206 (by decide) (Nat.le_of_ble_eq_true rfl) jlk_206_74 jft_12_74 jw_1279 dX12_drawOf_5 ?_
  refine jr_lmul dX12_drawOf_8 ?_
  refine jr_ldc2_w (v := 12345) dX12_drawOf_9 jw_2049 (by decide) ?_
  refine jr_ladd dX12_drawOf_12 ?_
  refine jr_ldc2_w (v := 2147483648) dX12_drawOf_13 jw_2050 (by decide) ?_
  refine jr_lrem dX12_drawOf_16 (jl_n6lit rfl) (by decide) ?_
  refine jr_putl (i := 74) jc_12 jk_206 (by decide) (Nat.le_of_ble_eq_true rfl) jlk_206_74 jft_12_74 rfl jw_1279 rfl dX12_drawOf_17 ?_
  refine jr_lm (fun s1 => ?_)
  refine jr_aload_n dX12_drawOf_20 0 rfl ?_
  refine jr_getl (i := 74) jc_12 jk_206 (by decide) (Nat.le_of_ble_eq_true rfl) jlk_206_74 jft_12_74 jw_1279 dX12_drawOf_21 ?_
  refine jr_ldc2_w (v := 64) dX12_drawOf_24 jw_2051 (by decide) ?_
  refine jr_ldiv dX12_drawOf_27 (jl_n6lit rfl) (by decide) ?_
  refine jr_iload_n dX12_drawOf_28 1 rfl ?_
  refine jr_i2l dX12_drawOf_29 h1 ?_
  refine jr_grd (fun g2 => ?_)
  refine jr_lrem dX12_drawOf_30 (jl_n36 h1) g2 ?_
  refine jr_l2i dX12_drawOf_31 ?_
  exact jr_ret_i rfl (jl_n3_to _) dX12_drawOf_32
def jf_X12_chance_B61 (R25 : Int → Int → Int → jl_Mm → jl_O) (l1 : Int) (l2 : Int) (l3 : Int) (s0 : jl_Mm) : jl_O :=
  jl_bd (jf_X12_hourGoes s0) fun r10 s11 => R25 l1 l2 (jl_add l3 1) s11
set_option maxRecDepth 20000 in
set_option maxHeartbeats 2000000 in
theorem jj_X12_chance_B61 (G : jl_GC) (R25 : Int → Int → Int → jl_Mm → jl_O) (hR25 : ∀ (l1 : Int) (l2 : Int) (l3 : Int) (_hl1 : jl_n3 l1) (_hl2 : jl_n3 l2) (_hl3 : jl_n3 l3) (s0 : jl_Mm), j2 G jM_X12_chance 25 [(0, jl_vr G 206), (1, jl_vi l1), (2, jl_vi l2), (3, jl_vi l3)] [] s0 (R25 l1 l2 l3 s0)) (l1 : Int) (l2 : Int) (l3 : Int) (hl1 : jl_n3 l1) (hl2 : jl_n3 l2) (hl3 : jl_n3 l3) (s0 : jl_Mm) : j2 G jM_X12_chance 61 [(0, jl_vr G 206), (1, jl_vi l1), (2, jl_vi l2), (3, jl_vi l3)] [] s0 (jf_X12_chance_B61 R25 l1 l2 l3 s0) := by
  refine jr_aload_n dX12_chance_61 0 rfl ?_
  refine j2_callVv (As := []) dX12_chance_62 (jt_X12_hourGoes G s0) jv_X12_hourGoes ⟨rfl, rfl, rfl⟩ jw_1894 jk_206 (by decide) (by decide) rfl ⟨Nat.le_of_ble_eq_true rfl, Nat.le_of_ble_eq_true rfl⟩ rfl (Nat.le_of_ble_eq_true rfl) (fun r10 s11 hr10 => ?_)
  refine jr_iinc (j := 3) (lv := [(3, jl_vi (jl_add l3 1)), (0, jl_vr G 206), (1, jl_vi l1), (2, jl_vi l2)]) dX12_chance_65 rfl (Nat.le_of_ble_eq_true rfl) rfl ?_
  refine jr_goto (t := 25) dX12_chance_68 (by decide) ?_
  refine jr_sub [1, 2, 3, 0] rfl ?_
  exact hR25 l1 l2 (jl_add l3 1) hl1 hl2 (jl_n3_to _) s11
def jf_X12_chance_L25 : Nat → Int → Int → Int → jl_Mm → jl_O
  | 0, _, _, _, _ => none
  | n + 1, l1, l2, l3, s0 =>
    if l1 ≤ l3 then (some (l2, s0)) else (jl_bd (jf_X12_drawOf (100 : Int) s0) fun r7 s8 => if jl_g s8 241 (((11 : Int) : Int).toNat) ≤ r7 then (jf_X12_chance_B61 (jf_X12_chance_L25 n) l1 l2 l3 s8) else (jl_bd (jf_X12_windowMany s8) fun r12 s13 => jl_bd (jf_X12_drawOf r12 s13) fun r14 s15 => jl_bd (jf_X12_blows r14 s15) fun r16 s17 => jf_X12_chance_B61 (jf_X12_chance_L25 n) l1 (jl_add l2 1) l3 s17))
set_option maxRecDepth 20000 in
set_option maxHeartbeats 2000000 in
theorem jj_X12_chance_L25 (G : jl_GC) : ∀ (n : Nat) (l1 : Int) (l2 : Int) (l3 : Int) (hl1 : jl_n3 l1) (hl2 : jl_n3 l2) (hl3 : jl_n3 l3) (s0 : jl_Mm), j2 G jM_X12_chance 25 [(0, jl_vr G 206), (1, jl_vi l1), (2, jl_vi l2), (3, jl_vi l3)] [] s0 (jf_X12_chance_L25 n l1 l2 l3 s0) := by
  intro n
  induction n with
  | zero =>
    intros
    exact jr_none
  | succ n ih =>
    intro l1 l2 l3 hl1 hl2 hl3 s0
    refine jr_iload_n dX12_chance_25 3 rfl ?_
    refine jr_iload_n dX12_chance_26 1 rfl ?_
    refine jr_icmp_ge (t := 71) dX12_chance_27 (by decide) hl3 hl1 (fun c6 => ?_) (fun c6 => ?_)
    · refine jr_iload_n dX12_chance_71 2 rfl ?_
      exact jr_ret_i rfl hl2 dX12_chance_72
    · refine jr_aload_n dX12_chance_30 0 rfl ?_
      refine jr_bipush dX12_chance_31 (by decide) ?_
      refine j2_callVi (As := [jl_vi (100 : Int)]) dX12_chance_33 (jt_X12_drawOf G (100 : Int) (jl_nlit rfl) s0) jv_X12_drawOf ⟨rfl, rfl, rfl⟩ jw_2044 jk_206 (by decide) (by decide) rfl ⟨Nat.le_of_ble_eq_true rfl, Nat.le_of_ble_eq_true rfl⟩ rfl (Nat.le_of_ble_eq_true rfl) (fun r7 s8 hr7 => ?_)
      refine jr_aload_n dX12_chance_36 0 rfl ?_
      refine jr_getk (i := 44) jc_12 jk_206 (by decide) (Nat.le_of_ble_eq_true rfl) jlk_206_44 jw_1249 dX12_chance_37 ?_
      refine jr_bipush dX12_chance_40 (by decide) ?_
      refine jr_iaload jk_241 (by decide) (jl_nlit rfl) ⟨by decide, by decide⟩ dX12_chance_42 ?_
      refine jr_icmp_ge (t := 61) dX12_chance_43 (by decide) hr7 (jl_n3_to _) (fun c9 => ?_) (fun c9 => ?_)
      · exact jj_X12_chance_B61 G (jf_X12_chance_L25 n) (ih) l1 l2 l3 hl1 hl2 hl3 s8
      · refine jr_aload_n dX12_chance_46 0 rfl ?_
        refine jr_aload_n dX12_chance_47 0 rfl ?_
        refine jr_aload_n dX12_chance_48 0 rfl ?_
        refine j2_callVi (As := []) dX12_chance_49 (jt_X12_windowMany G s8) jv_X12_windowMany ⟨rfl, rfl, rfl⟩ jw_1743 jk_206 (by decide) (by decide) rfl ⟨Nat.le_of_ble_eq_true rfl, Nat.le_of_ble_eq_true rfl⟩ rfl (Nat.le_of_ble_eq_true rfl) (fun r12 s13 hr12 => ?_)
        refine j2_callVi (As := [jl_vi r12]) dX12_chance_52 (jt_X12_drawOf G r12 hr12 s13) jv_X12_drawOf ⟨rfl, rfl, rfl⟩ jw_2044 jk_206 (by decide) (by decide) rfl ⟨Nat.le_of_ble_eq_true rfl, Nat.le_of_ble_eq_true rfl⟩ rfl (Nat.le_of_ble_eq_true rfl) (fun r14 s15 hr14 => ?_)
        refine j2_callVv (As := [jl_vi r14]) dX12_chance_55 (jt_X12_blows G r14 hr14 s15) jv_X12_blows ⟨rfl, rfl, rfl⟩ jw_1970 jk_206 (by decide) (by decide) rfl ⟨Nat.le_of_ble_eq_true rfl, Nat.le_of_ble_eq_true rfl⟩ rfl (Nat.le_of_ble_eq_true rfl) (fun r16 s17 hr16 => ?_)
        refine jr_iinc (j := 2) (lv := [(2, jl_vi (jl_add l2 1)), (0, jl_vr G 206), (1, jl_vi l1), (3, jl_vi l3)]) dX12_chance_58 rfl (Nat.le_of_ble_eq_true rfl) rfl ?_
        refine jr_sub [1, 2, 0, 3] rfl ?_
        exact jj_X12_chance_B61 G (jf_X12_chance_L25 n) (ih) l1 (jl_add l2 1) l3 hl1 (jl_n3_to _) hl3 s17
def jf_X12_chance (v1 : Int) (s0 : jl_Mm) : jl_O :=
  jl_bd (jf_X12_isAhead v1 (1 : Int) (100 : Int) s0) fun r1 s2 => if r1 = (0 : Int) then (jl_bd (jf_X12_refuses (3 : Int) s2) fun r18 s19 => some (r18, s19)) else (jl_bd (jf_X12_keeps s2) fun r4 s5 => jf_X12_chance_L25 jl_fu v1 (0 : Int) (0 : Int) s5)
set_option maxRecDepth 20000 in
set_option maxHeartbeats 2000000 in
theorem jt_X12_chance (G : jl_GC) (v1 : Int) (h1 : jl_n3 v1) (s0 : jl_Mm) : jC2 G jM_X12_chance [jl_vr G 206, jl_vi v1] s0 (jf_X12_chance v1 s0) := by
  refine jl_met (plainFor_of_name rfl) (Nat.le_of_ble_eq_true rfl) ?_
  show j2 G jM_X12_chance 0 [(0, jl_vr G 206), (1, jl_vi v1)] [] s0 _
  refine jr_aload_n dX12_chance_0 0 rfl ?_
  refine jr_iload_n dX12_chance_1 1 rfl ?_
  refine jr_iconst dX12_chance_2 ?_
  refine jr_bipush dX12_chance_3 (by decide) ?_
  refine j2_callVz (As := [jl_vi v1, jl_vi (1 : Int), jl_vi (100 : Int)]) dX12_chance_5 (jt_X12_isAhead G v1 (1 : Int) (100 : Int) h1 (jl_nlit rfl) (jl_nlit rfl) s0) jv_X12_isAhead ⟨rfl, rfl, rfl⟩ jw_1870 jk_206 (by decide) (by decide) rfl ⟨Nat.le_of_ble_eq_true rfl, Nat.le_of_ble_eq_true rfl⟩ rfl (Nat.le_of_ble_eq_true rfl) (fun r1 s2 hr1 => ?_)
  refine jr_if_ne (t := 17) dX12_chance_8 (by decide) (jl_nz hr1) (fun c3 => ?_) (fun c3 => ?_)
  · refine jr_aload_n dX12_chance_11 0 rfl ?_
    refine jr_iconst dX12_chance_12 ?_
    refine j2_callVi (As := [jl_vi (3 : Int)]) dX12_chance_13 (jt_X12_refuses G (3 : Int) (jl_nlit rfl) s2) jv_X12_refuses ⟨rfl, rfl, rfl⟩ jw_1727 jk_206 (by decide) (by decide) rfl ⟨Nat.le_of_ble_eq_true rfl, Nat.le_of_ble_eq_true rfl⟩ rfl (Nat.le_of_ble_eq_true rfl) (fun r18 s19 hr18 => ?_)
    exact jr_ret_i rfl hr18 dX12_chance_16
  · refine jr_aload_n dX12_chance_17 0 rfl ?_
    refine j2_callVv (As := []) dX12_chance_18 (jt_X12_keeps G s2) jv_X12_keeps ⟨rfl, rfl, rfl⟩ jw_2015 jk_206 (by decide) (by decide) rfl ⟨Nat.le_of_ble_eq_true rfl, Nat.le_of_ble_eq_true rfl⟩ rfl (Nat.le_of_ble_eq_true rfl) (fun r4 s5 hr4 => ?_)
    refine jr_iconst dX12_chance_21 ?_
    refine jr_istore_n (lv := [(2, jl_vi (0 : Int)), (0, jl_vr G 206), (1, jl_vi v1)]) dX12_chance_22 rfl (Nat.le_of_ble_eq_true rfl) rfl ?_
    refine jr_iconst dX12_chance_23 ?_
    refine jr_istore_n (lv := [(3, jl_vi (0 : Int)), (2, jl_vi (0 : Int)), (0, jl_vr G 206), (1, jl_vi v1)]) dX12_chance_24 rfl (Nat.le_of_ble_eq_true rfl) rfl ?_
    refine jr_sub [2, 3, 1, 0] rfl ?_
    exact jj_X12_chance_L25 G jl_fu v1 (0 : Int) (0 : Int) h1 (jl_nlit rfl) (jl_nlit rfl) s5
def jf_X12_qOf_B43 (k0 : Int) (s0 : jl_Mm) : jl_O :=
  some (k0, s0)
set_option maxRecDepth 20000 in
set_option maxHeartbeats 2000000 in
theorem jj_X12_qOf_B43 (G : jl_GC) (k0 : Int) (hk0 : jl_n6 k0) (s0 : jl_Mm) : j2 G jM_X12_qOf 43 [] [jl_vl k0] s0 (jf_X12_qOf_B43 k0 s0) := by
  exact jr_ret_l rfl hk0 dX12_qOf_43
def jf_X12_qOf_B63 (k0 : Int) (s0 : jl_Mm) : jl_O :=
  some (k0, s0)
set_option maxRecDepth 20000 in
set_option maxHeartbeats 2000000 in
theorem jj_X12_qOf_B63 (G : jl_GC) (k0 : Int) (hk0 : jl_n6 k0) (s0 : jl_Mm) : j2 G jM_X12_qOf 63 [] [jl_vl k0] s0 (jf_X12_qOf_B63 k0 s0) := by
  exact jr_ret_l rfl hk0 dX12_qOf_63
def jf_X12_qOf (v1 : Int) (v2 : Int) (v3 : Int) (s0 : jl_Mm) : jl_O :=
  if v1 = 0 then (jl_bd (jf_X12_isLie v2 s0) fun r2 s3 => if r2 = (0 : Int) then (jf_X12_qOf_B43 (0 : Int) s3) else (if 0 ≤ jl_add (8 : Int) (jl_l2i v2) ∧ jl_add (8 : Int) (jl_l2i v2) < ((105 : Nat) : Int) then jf_X12_qOf_B43 (jl_g s3 249 (jl_add (8 : Int) (jl_l2i v2)).toNat) s3 else none)) else (jl_bd (jf_X12_isWindow v2 s0) fun r6 s7 => if r6 = (0 : Int) then (jf_X12_qOf_B63 (0 : Int) s7) else (jl_bd (jf_X12_litIn (jl_l2i v2) s7) fun r9 s10 => jf_X12_qOf_B63 r9 s10))
set_option maxRecDepth 20000 in
set_option maxHeartbeats 2000000 in
theorem jt_X12_qOf (G : jl_GC) (v1 : Int) (v2 : Int) (v3 : Int) (h1 : jl_n3 v1) (h2 : jl_n6 v2) (h3 : jl_n3 v3) (s0 : jl_Mm) : jC2 G jM_X12_qOf [jl_vr G 206, jl_vi v1, jl_vl v2, jl_vi v3] s0 (jf_X12_qOf v1 v2 v3 s0) := by
  refine jl_met (plainFor_of_name rfl) (Nat.le_of_ble_eq_true rfl) ?_
  show j2 G jM_X12_qOf 0 [(0, jl_vr G 206), (1, jl_vi v1), (2, jl_vl v2), (4, jl_vi v3)] [] s0 _
  refine jr_iload_n dX12_qOf_0 1 rfl ?_
  refine jr_ite (fun c1 => ?_) (fun c1 => ?_)
  · refine jr_look (t := 20) (off := 19) dX12_qOf_1 h1 (by decide) (by rw [c1] <;> rfl) (by decide) ?_
    refine jr_aload_n dX12_qOf_20 0 rfl ?_
    refine jr_lload_n dX12_qOf_21 2 rfl ?_
    refine j2_callVz (As := [jl_vl v2]) dX12_qOf_22 (jt_X12_isLie G v2 h2 s0) jv_X12_isLie ⟨rfl, rfl, rfl⟩ jw_1850 jk_206 (by decide) (by decide) rfl ⟨Nat.le_of_ble_eq_true rfl, Nat.le_of_ble_eq_true rfl⟩ rfl (Nat.le_of_ble_eq_true rfl) (fun r2 s3 hr2 => ?_)
    refine jr_if_eq (t := 42) dX12_qOf_25 (by decide) (jl_nz hr2) (fun c4 => ?_) (fun c4 => ?_)
    · refine jr_lconst (v := 0) dX12_qOf_42 (by decide) ?_
      refine jr_sub [] rfl ?_
      exact jj_X12_qOf_B43 G (0 : Int) (jl_n6lit rfl) s3
    · refine jr_aload_n dX12_qOf_28 0 rfl ?_
      refine jr_getk (i := 56) jc_12 jk_206 (by decide) (Nat.le_of_ble_eq_true rfl) jlk_206_56 jw_1261 dX12_qOf_29 ?_
      refine jr_bipush dX12_qOf_32 (by decide) ?_
      refine jr_lload_n dX12_qOf_34 2 rfl ?_
      refine jr_l2i dX12_qOf_35 ?_
      refine jr_iadd dX12_qOf_36 ?_
      refine jr_grd (fun g5 => ?_)
      refine jr_iaload jk_249 (by decide) (jl_n3_to _) g5 dX12_qOf_37 ?_
      refine jr_i2l dX12_qOf_38 (jl_n3_to _) ?_
      refine jr_goto (t := 43) dX12_qOf_39 (by decide) ?_
      refine jr_sub [] rfl ?_
      exact jj_X12_qOf_B43 G (jl_g s3 249 (jl_add (8 : Int) (jl_l2i v2)).toNat) (jl_n36 (jl_n3_to _)) s3
  · skip
    refine jr_look (t := 44) (off := 43) dX12_qOf_1 h1 (by decide) (by simp [Op.lookupswitch.offset, Ne.symm c1]) (by decide) ?_
    refine jr_aload_n dX12_qOf_44 0 rfl ?_
    refine jr_lload_n dX12_qOf_45 2 rfl ?_
    refine j2_callVz (As := [jl_vl v2]) dX12_qOf_46 (jt_X12_isWindow G v2 h2 s0) jv_X12_isWindow ⟨rfl, rfl, rfl⟩ jw_1866 jk_206 (by decide) (by decide) rfl ⟨Nat.le_of_ble_eq_true rfl, Nat.le_of_ble_eq_true rfl⟩ rfl (Nat.le_of_ble_eq_true rfl) (fun r6 s7 hr6 => ?_)
    refine jr_if_eq (t := 62) dX12_qOf_49 (by decide) (jl_nz hr6) (fun c8 => ?_) (fun c8 => ?_)
    · refine jr_lconst (v := 0) dX12_qOf_62 (by decide) ?_
      refine jr_sub [] rfl ?_
      exact jj_X12_qOf_B63 G (0 : Int) (jl_n6lit rfl) s7
    · refine jr_aload_n dX12_qOf_52 0 rfl ?_
      refine jr_lload_n dX12_qOf_53 2 rfl ?_
      refine jr_l2i dX12_qOf_54 ?_
      refine j2_callVi (As := [jl_vi (jl_l2i v2)]) dX12_qOf_55 (jt_X12_litIn G (jl_l2i v2) (jl_n3_to _) s7) jv_X12_litIn ⟨rfl, rfl, rfl⟩ jw_1990 jk_206 (by decide) (by decide) rfl ⟨Nat.le_of_ble_eq_true rfl, Nat.le_of_ble_eq_true rfl⟩ rfl (Nat.le_of_ble_eq_true rfl) (fun r9 s10 hr9 => ?_)
      refine jr_i2l dX12_qOf_58 hr9 ?_
      refine jr_goto (t := 63) dX12_qOf_59 (by decide) ?_
      refine jr_sub [] rfl ?_
      exact jj_X12_qOf_B63 G r9 (jl_n36 hr9) s10
def jf_X12_qTold_B162 (R7 : Int → Int → jl_Mm → jl_O) (l1 : Int) (l2 : Int) (s0 : jl_Mm) : jl_O :=
  R7 l1 (jl_add l2 1) s0
set_option maxRecDepth 20000 in
set_option maxHeartbeats 2000000 in
theorem jj_X12_qTold_B162 (G : jl_GC) (R7 : Int → Int → jl_Mm → jl_O) (hR7 : ∀ (l1 : Int) (l2 : Int) (_hl1 : jl_n3 l1) (_hl2 : jl_n3 l2) (s0 : jl_Mm), j2 G jM_X12_qTold 7 [(0, jl_vr G 206), (1, jl_vi l1), (2, jl_vi l2)] [] s0 (R7 l1 l2 s0)) (l1 : Int) (l2 : Int) (hl1 : jl_n3 l1) (hl2 : jl_n3 l2) (s0 : jl_Mm) : j2 G jM_X12_qTold 162 [(0, jl_vr G 206), (1, jl_vi l1), (2, jl_vi l2)] [] s0 (jf_X12_qTold_B162 R7 l1 l2 s0) := by
  refine jr_iinc (j := 2) (lv := [(2, jl_vi (jl_add l2 1)), (0, jl_vr G 206), (1, jl_vi l1)]) dX12_qTold_162 rfl (Nat.le_of_ble_eq_true rfl) rfl ?_
  refine jr_goto (t := 7) dX12_qTold_165 (by decide) ?_
  refine jr_sub [1, 2, 0] rfl ?_
  exact hR7 l1 (jl_add l2 1) hl1 (jl_n3_to _) s0
def jf_X12_qTold_L7 : Nat → Int → Int → jl_Mm → jl_O
  | 0, _, _, _ => none
  | n + 1, l1, l2, s0 =>
    if jl_g s0 206 100 ≤ l2 then (some (jl_gl s0 284 (((0 : Int) : Int).toNat), s0)) else (if 0 ≤ l2 ∧ l2 < ((1700 : Nat) : Int) then jl_let (jl_g s0 282 (l2).toNat) fun x4 => if x4 < (1000 : Int) then (if x4 < (60 : Int) then (if x4 < (40 : Int) then (if x4 = (13 : Int) then (jl_bd (jf_X12_qPuts (1 : Int) s0) fun r15 s16 => jf_X12_qTold_B162 (jf_X12_qTold_L7 n) l1 l2 s16) else (if x4 = (12 : Int) then (if 0 ≤ jl_sub (jl_g s0 206 106) (1 : Int) ∧ jl_sub (jl_g s0 206 106) (1 : Int) < ((1700 : Nat) : Int) then if 0 ≤ jl_sub (jl_g s0 206 106) (1 : Int) ∧ jl_sub (jl_g s0 206 106) (1 : Int) < ((1700 : Nat) : Int) then jl_lm (jl_up s0 284 (jl_sub (jl_g s0 206 106) (1 : Int)).toNat (jl_lsub (1 : Int) (jl_gl s0 284 (jl_sub (jl_g s0 206 106) (1 : Int)).toNat))) fun s14 => jf_X12_qTold_B162 (jf_X12_qTold_L7 n) l1 l2 s14 else none else none) else (jl_bd (jf_X12_qJoins x4 s0) fun r10 s11 => jf_X12_qTold_B162 (jf_X12_qTold_L7 n) l1 l2 s11))) else (jl_bd (jf_X12_qPartOf (jl_sub x4 (40 : Int)) l1 s0) fun r17 s18 => jl_bd (jf_X12_qClip r17 s18) fun r19 s20 => jl_bd (jf_X12_qPuts r19 s20) fun r21 s22 => jf_X12_qTold_B162 (jf_X12_qTold_L7 n) l1 l2 s22)) else (if 0 ≤ jl_sub (jl_g s0 206 106) (1 : Int) ∧ jl_sub (jl_g s0 206 106) (1 : Int) < ((1700 : Nat) : Int) then jl_bd (jf_X12_qOf (jl_sub x4 (60 : Int)) (jl_gl s0 284 (jl_sub (jl_g s0 206 106) (1 : Int)).toNat) l1 s0) fun r24 s25 => jl_bd (jf_X12_qClip r24 s25) fun r26 s27 => if 0 ≤ jl_sub (jl_g s0 206 106) (1 : Int) ∧ jl_sub (jl_g s0 206 106) (1 : Int) < ((1700 : Nat) : Int) then jl_lm (jl_up s27 284 (jl_sub (jl_g s0 206 106) (1 : Int)).toNat r26) fun s29 => jf_X12_qTold_B162 (jf_X12_qTold_L7 n) l1 l2 s29 else none else none)) else (jl_bd (jf_X12_qPuts (jl_sub x4 (1000 : Int)) s0) fun r30 s31 => jf_X12_qTold_B162 (jf_X12_qTold_L7 n) l1 l2 s31) else none)
set_option maxRecDepth 20000 in
set_option maxHeartbeats 2000000 in
theorem jj_X12_qTold_L7 (G : jl_GC) : ∀ (n : Nat) (l1 : Int) (l2 : Int) (hl1 : jl_n3 l1) (hl2 : jl_n3 l2) (s0 : jl_Mm), j2 G jM_X12_qTold 7 [(0, jl_vr G 206), (1, jl_vi l1), (2, jl_vi l2)] [] s0 (jf_X12_qTold_L7 n l1 l2 s0) := by
  intro n
  induction n with
  | zero =>
    intros
    exact jr_none
  | succ n ih =>
    intro l1 l2 hl1 hl2 s0
    refine jr_iload_n dX12_qTold_7 2 rfl ?_
    refine jr_aload_n dX12_qTold_8 0 rfl ?_
    refine jr_geti (i := 100) jc_12 jk_206 (by decide) (Nat.le_of_ble_eq_true rfl) jlk_206_100 jft_12_100 jw_1305 dX12_qTold_9 ?_
    refine jr_icmp_ge (t := 168) dX12_qTold_12 (by decide) hl2 (jl_n3_to _) (fun c2 => ?_) (fun c2 => ?_)
    · refine jr_aload_n dX12_qTold_168 0 rfl ?_
      refine jr_getk (i := 105) jc_12 jk_206 (by decide) (Nat.le_of_ble_eq_true rfl) jlk_206_105 jw_1310 dX12_qTold_169 ?_
      refine jr_iconst dX12_qTold_172 ?_
      refine jr_laload jk_284 (by decide) (jl_nlit rfl) ⟨by decide, by decide⟩ dX12_qTold_173 ?_
      exact jr_ret_l rfl (jl_n6_to _) dX12_qTold_174
    · refine jr_aload_n dX12_qTold_15 0 rfl ?_
      refine jr_getk (i := 99) jc_12 jk_206 (by decide) (Nat.le_of_ble_eq_true rfl) jlk_206_99 jw_1304 dX12_qTold_16 ?_
      refine jr_iload_n dX12_qTold_19 2 rfl ?_
      refine jr_grd (fun g3 => ?_)
      refine jr_iaload jk_282 (by decide) hl2 g3 dX12_qTold_20 ?_
      refine jr_let (jl_n3_to _) (fun x4 hx4 => ?_)
      refine jr_istore_n (lv := [(3, jl_vi x4), (0, jl_vr G 206), (1, jl_vi l1), (2, jl_vi l2)]) dX12_qTold_21 rfl (Nat.le_of_ble_eq_true rfl) rfl ?_
      refine jr_iload_n dX12_qTold_22 0 rfl ?_
      refine jr_sipush dX12_qTold_23 (by decide) ?_
      refine jr_icmp_lt (t := 42) dX12_qTold_26 (by decide) hx4 (jl_nlit rfl) (fun c5 => ?_) (fun c5 => ?_)
      · refine jr_iload_n dX12_qTold_42 0 rfl ?_
        refine jr_bipush dX12_qTold_43 (by decide) ?_
        refine jr_icmp_lt (t := 85) dX12_qTold_45 (by decide) hx4 (jl_nlit rfl) (fun c6 => ?_) (fun c6 => ?_)
        · refine jr_iload_n dX12_qTold_85 0 rfl ?_
          refine jr_bipush dX12_qTold_86 (by decide) ?_
          refine jr_icmp_lt (t := 110) dX12_qTold_88 (by decide) hx4 (jl_nlit rfl) (fun c7 => ?_) (fun c7 => ?_)
          · refine jr_iload_n dX12_qTold_110 0 rfl ?_
            refine jr_bipush dX12_qTold_111 (by decide) ?_
            refine jr_icmp_ne (t := 124) dX12_qTold_113 (by decide) hx4 (jl_nlit rfl) (fun c8 => ?_) (fun c8 => ?_)
            · refine jr_aload_n dX12_qTold_116 1 rfl ?_
              refine jr_lconst (v := 1) dX12_qTold_117 (by decide) ?_
              refine j2_callVv (As := [jl_vl (1 : Int)]) dX12_qTold_118 (jt_X12_qPuts G (1 : Int) (jl_n6lit rfl) s0) jv_X12_qPuts ⟨rfl, rfl, rfl⟩ jw_1787 jk_206 (by decide) (by decide) rfl ⟨Nat.le_of_ble_eq_true rfl, Nat.le_of_ble_eq_true rfl⟩ rfl (Nat.le_of_ble_eq_true rfl) (fun r15 s16 hr15 => ?_)
              refine jr_goto (t := 162) dX12_qTold_121 (by decide) ?_
              refine jr_sub [1, 2, 3] rfl ?_
              exact jj_X12_qTold_B162 G (jf_X12_qTold_L7 n) (ih) l1 l2 hl1 hl2 s16
            · refine jr_iload_n dX12_qTold_124 0 rfl ?_
              refine jr_bipush dX12_qTold_125 (by decide) ?_
              refine jr_icmp_ne (t := 157) dX12_qTold_127 (by decide) hx4 (jl_nlit rfl) (fun c9 => ?_) (fun c9 => ?_)
              · refine jr_aload_n dX12_qTold_130 1 rfl ?_
                refine jr_getk (i := 105) jc_12 jk_206 (by decide) (Nat.le_of_ble_eq_true rfl) jlk_206_105 jw_1310 dX12_qTold_131 ?_
                refine jr_aload_n dX12_qTold_134 1 rfl ?_
                refine jr_geti (i := 106) jc_12 jk_206 (by decide) (Nat.le_of_ble_eq_true rfl) jlk_206_106 jft_12_106 jw_1311 dX12_qTold_135 ?_
                refine jr_iconst dX12_qTold_138 ?_
                refine jr_isub dX12_qTold_139 ?_
                refine jr_lconst (v := 1) dX12_qTold_140 (by decide) ?_
                refine jr_aload_n dX12_qTold_141 1 rfl ?_
                refine jr_getk (i := 105) jc_12 jk_206 (by decide) (Nat.le_of_ble_eq_true rfl) jlk_206_105 jw_1310 dX12_qTold_142 ?_
                refine jr_aload_n dX12_qTold_145 1 rfl ?_
                refine jr_geti (i := 106) jc_12 jk_206 (by decide) (Nat.le_of_ble_eq_true rfl) jlk_206_106 jft_12_106 jw_1311 dX12_qTold_146 ?_
                refine jr_iconst dX12_qTold_149 ?_
                refine jr_isub dX12_qTold_150 ?_
                refine jr_grd (fun g12 => ?_)
                refine jr_laload jk_284 (by decide) (jl_n3_to _) g12 dX12_qTold_151 ?_
                refine jr_lsub dX12_qTold_152 ?_
                refine jr_grd (fun g13 => ?_)
                refine jr_lastore jk_284 (by decide) (jl_n3_to _) g13 dX12_qTold_153 ?_
                refine jr_lm (fun s14 => ?_)
                refine jr_goto (t := 162) dX12_qTold_154 (by decide) ?_
                refine jr_sub [1, 2, 3] rfl ?_
                exact jj_X12_qTold_B162 G (jf_X12_qTold_L7 n) (ih) l1 l2 hl1 hl2 s14
              · refine jr_aload_n dX12_qTold_157 1 rfl ?_
                refine jr_iload_n dX12_qTold_158 0 rfl ?_
                refine j2_callVv (As := [jl_vi x4]) dX12_qTold_159 (jt_X12_qJoins G x4 hx4 s0) jv_X12_qJoins ⟨rfl, rfl, rfl⟩ jw_1808 jk_206 (by decide) (by decide) rfl ⟨Nat.le_of_ble_eq_true rfl, Nat.le_of_ble_eq_true rfl⟩ rfl (Nat.le_of_ble_eq_true rfl) (fun r10 s11 hr10 => ?_)
                refine jr_sub [1, 2, 3] rfl ?_
                exact jj_X12_qTold_B162 G (jf_X12_qTold_L7 n) (ih) l1 l2 hl1 hl2 s11
          · refine jr_aload_n dX12_qTold_91 1 rfl ?_
            refine jr_aload_n dX12_qTold_92 1 rfl ?_
            refine jr_iload_n dX12_qTold_93 0 rfl ?_
            refine jr_bipush dX12_qTold_94 (by decide) ?_
            refine jr_isub dX12_qTold_96 ?_
            refine jr_iload_n dX12_qTold_97 2 rfl ?_
            refine j2_callVl (As := [jl_vi (jl_sub x4 (40 : Int)), jl_vi l1]) dX12_qTold_98 (jt_X12_qPartOf G (jl_sub x4 (40 : Int)) l1 (jl_n3_to _) hl1 s0) jv_X12_qPartOf ⟨rfl, rfl, rfl⟩ jw_1791 jk_206 (by decide) (by decide) rfl ⟨Nat.le_of_ble_eq_true rfl, Nat.le_of_ble_eq_true rfl⟩ rfl (Nat.le_of_ble_eq_true rfl) (fun r17 s18 hr17 => ?_)
            refine j2_callSl (As := [jl_vl r17]) dX12_qTold_101 (jt_X12_qClip G r17 hr17 s18) jv_X12_qClip ⟨rfl, rfl, rfl⟩ jw_1812 ⟨Nat.le_of_ble_eq_true rfl, Nat.le_of_ble_eq_true rfl⟩ rfl (Nat.le_of_ble_eq_true rfl) (fun r19 s20 hr19 => ?_)
            refine j2_callVv (As := [jl_vl r19]) dX12_qTold_104 (jt_X12_qPuts G r19 hr19 s20) jv_X12_qPuts ⟨rfl, rfl, rfl⟩ jw_1787 jk_206 (by decide) (by decide) rfl ⟨Nat.le_of_ble_eq_true rfl, Nat.le_of_ble_eq_true rfl⟩ rfl (Nat.le_of_ble_eq_true rfl) (fun r21 s22 hr21 => ?_)
            refine jr_goto (t := 162) dX12_qTold_107 (by decide) ?_
            refine jr_sub [1, 2, 3] rfl ?_
            exact jj_X12_qTold_B162 G (jf_X12_qTold_L7 n) (ih) l1 l2 hl1 hl2 s22
        · refine jr_aload_n dX12_qTold_48 1 rfl ?_
          refine jr_getk (i := 105) jc_12 jk_206 (by decide) (Nat.le_of_ble_eq_true rfl) jlk_206_105 jw_1310 dX12_qTold_49 ?_
          refine jr_aload_n dX12_qTold_52 1 rfl ?_
          refine jr_geti (i := 106) jc_12 jk_206 (by decide) (Nat.le_of_ble_eq_true rfl) jlk_206_106 jft_12_106 jw_1311 dX12_qTold_53 ?_
          refine jr_iconst dX12_qTold_56 ?_
          refine jr_isub dX12_qTold_57 ?_
          refine jr_aload_n dX12_qTold_58 1 rfl ?_
          refine jr_iload_n dX12_qTold_59 0 rfl ?_
          refine jr_bipush dX12_qTold_60 (by decide) ?_
          refine jr_isub dX12_qTold_62 ?_
          refine jr_aload_n dX12_qTold_63 1 rfl ?_
          refine jr_getk (i := 105) jc_12 jk_206 (by decide) (Nat.le_of_ble_eq_true rfl) jlk_206_105 jw_1310 dX12_qTold_64 ?_
          refine jr_aload_n dX12_qTold_67 1 rfl ?_
          refine jr_geti (i := 106) jc_12 jk_206 (by decide) (Nat.le_of_ble_eq_true rfl) jlk_206_106 jft_12_106 jw_1311 dX12_qTold_68 ?_
          refine jr_iconst dX12_qTold_71 ?_
          refine jr_isub dX12_qTold_72 ?_
          refine jr_grd (fun g23 => ?_)
          refine jr_laload jk_284 (by decide) (jl_n3_to _) g23 dX12_qTold_73 ?_
          refine jr_iload_n dX12_qTold_74 2 rfl ?_
          refine j2_callVl (As := [jl_vi (jl_sub x4 (60 : Int)), jl_vl (jl_gl s0 284 (jl_sub (jl_g s0 206 106) (1 : Int)).toNat), jl_vi l1]) dX12_qTold_75 (jt_X12_qOf G (jl_sub x4 (60 : Int)) (jl_gl s0 284 (jl_sub (jl_g s0 206 106) (1 : Int)).toNat) l1 (jl_n3_to _) (jl_n6_to _) hl1 s0) jv_X12_qOf ⟨rfl, rfl, rfl⟩ jw_2065 jk_206 (by decide) (by decide) rfl ⟨Nat.le_of_ble_eq_true rfl, Nat.le_of_ble_eq_true rfl⟩ rfl (Nat.le_of_ble_eq_true rfl) (fun r24 s25 hr24 => ?_)
          refine j2_callSl (As := [jl_vl r24]) dX12_qTold_78 (jt_X12_qClip G r24 hr24 s25) jv_X12_qClip ⟨rfl, rfl, rfl⟩ jw_1812 ⟨Nat.le_of_ble_eq_true rfl, Nat.le_of_ble_eq_true rfl⟩ rfl (Nat.le_of_ble_eq_true rfl) (fun r26 s27 hr26 => ?_)
          refine jr_grd (fun g28 => ?_)
          refine jr_lastore jk_284 (by decide) (jl_n3_to _) g28 dX12_qTold_81 ?_
          refine jr_lm (fun s29 => ?_)
          refine jr_goto (t := 162) dX12_qTold_82 (by decide) ?_
          refine jr_sub [1, 2, 3] rfl ?_
          exact jj_X12_qTold_B162 G (jf_X12_qTold_L7 n) (ih) l1 l2 hl1 hl2 s29
      · refine jr_aload_n dX12_qTold_29 1 rfl ?_
        refine jr_iload_n dX12_qTold_30 0 rfl ?_
        refine jr_sipush dX12_qTold_31 (by decide) ?_
        refine jr_isub dX12_qTold_34 ?_
        refine jr_i2l dX12_qTold_35 (jl_n3_to _) ?_
        refine j2_callVv (As := [jl_vl (jl_sub x4 (1000 : Int))]) dX12_qTold_36 (jt_X12_qPuts G (jl_sub x4 (1000 : Int)) (jl_n36 (jl_n3_to _)) s0) jv_X12_qPuts ⟨rfl, rfl, rfl⟩ jw_1787 jk_206 (by decide) (by decide) rfl ⟨Nat.le_of_ble_eq_true rfl, Nat.le_of_ble_eq_true rfl⟩ rfl (Nat.le_of_ble_eq_true rfl) (fun r30 s31 hr30 => ?_)
        refine jr_goto (t := 162) dX12_qTold_39 (by decide) ?_
        refine jr_sub [1, 2, 3] rfl ?_
        exact jj_X12_qTold_B162 G (jf_X12_qTold_L7 n) (ih) l1 l2 hl1 hl2 s31
def jf_X12_qTold (v1 : Int) (s0 : jl_Mm) : jl_O :=
  jl_lm (jl_up s0 206 106 (0 : Int)) fun s1 => jf_X12_qTold_L7 jl_fu v1 (0 : Int) s1
set_option maxRecDepth 20000 in
set_option maxHeartbeats 2000000 in
theorem jt_X12_qTold (G : jl_GC) (v1 : Int) (h1 : jl_n3 v1) (s0 : jl_Mm) : jC2 G jM_X12_qTold [jl_vr G 206, jl_vi v1] s0 (jf_X12_qTold v1 s0) := by
  refine jl_met (plainFor_of_name rfl) (Nat.le_of_ble_eq_true rfl) ?_
  show j2 G jM_X12_qTold 0 [(0, jl_vr G 206), (1, jl_vi v1)] [] s0 _
  refine jr_aload_n dX12_qTold_0 0 rfl ?_
  refine jr_iconst dX12_qTold_1 ?_
  refine jr_puti (i := 106) jc_12 jk_206 (by decide) (Nat.le_of_ble_eq_true rfl) jlk_206_106 jft_12_106 rfl jw_1311 rfl dX12_qTold_2 ?_
  refine jr_lm (fun s1 => ?_)
  refine jr_iconst dX12_qTold_5 ?_
  refine jr_istore_n (lv := [(2, jl_vi (0 : Int)), (0, jl_vr G 206), (1, jl_vi v1)]) dX12_qTold_6 rfl (Nat.le_of_ble_eq_true rfl) rfl ?_
  refine jr_sub [1, 2, 0] rfl ?_
  exact jj_X12_qTold_L7 G jl_fu v1 (0 : Int) h1 (jl_nlit rfl) s1
