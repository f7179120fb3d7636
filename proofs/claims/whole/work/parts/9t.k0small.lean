/-! THE CONSTRUCTORS, one by one (by ctor_gen.py) -/
def k0_ml : List (Nat × Nat × Int) → jl_Mm → jl_Mm
  | [], σ => σ
  | u :: us, σ => jl_up (k0_ml us σ) u.1 u.2.1 u.2.2
def jM_X7_init : jl_MC := (yX7_init, cX7_init, 1, none, { frames := 2, cells := 3, slots := 22, locals := 100 })
theorem jv_X7_init : k0_MI jM_X7_init 0 := ⟨jw_234, jw_7, jw_235, rfl, rfl, by (show "LieCandles$State" ≠ _; decide +kernel), by (show "LieCandles$State" ≠ _; decide +kernel), by (show (parseMethodDescriptor "()V").map (fun d => d.parameters.length) = _; decide +kernel)⟩
theorem k0_dv7 : ∀ j, j < 5 → defaultValue (tyX7 j) = k0_d (jl_ft 7 j) := by decide +kernel
def jM_X2_init : jl_MC := (yX2_init, cX2_init, 1, none, { frames := 2, cells := 2, slots := 80, locals := 100 })
theorem jv_X2_init : k0_MI jM_X2_init 0 := ⟨jw_270, jw_8, jw_271, rfl, rfl, by (show "LieCandles$Log" ≠ _; decide +kernel), by (show "LieCandles$Log" ≠ _; decide +kernel), by (show (parseMethodDescriptor "()V").map (fun d => d.parameters.length) = _; decide +kernel)⟩
theorem k0_dv2 : ∀ j, j < 4 → defaultValue (tyX2 j) = k0_d (jl_ft 2 j) := by decide +kernel
def jM_X0_init : jl_MC := (yX0_init, cX0_init, 1, none, { frames := 2, cells := 4, slots := 1617, locals := 100 })
theorem jv_X0_init : k0_MI jM_X0_init 0 := ⟨jw_51, jw_3, jw_52, rfl, rfl, by (show "LieCandles$Code" ≠ _; decide +kernel), by (show "LieCandles$Code" ≠ _; decide +kernel), by (show (parseMethodDescriptor "()V").map (fun d => d.parameters.length) = _; decide +kernel)⟩
theorem k0_dv0 : ∀ j, j < 6 → defaultValue (tyX0 j) = k0_d (jl_ft 0 j) := by decide +kernel
def jM_X10_init : jl_MC := (yX10_init, cX10_init, 1, none, { frames := 2, cells := 1, slots := 1600, locals := 100 })
theorem jv_X10_init : k0_MI jM_X10_init 0 := ⟨jw_32, jw_2, jw_33, rfl, rfl, by (show "LieCandles$Tape" ≠ _; decide +kernel), by (show "LieCandles$Tape" ≠ _; decide +kernel), by (show (parseMethodDescriptor "()V").map (fun d => d.parameters.length) = _; decide +kernel)⟩
theorem k0_dv10 : ∀ j, j < 2 → defaultValue (tyX10 j) = k0_d (jl_ft 10 j) := by decide +kernel
def jM_X4_init : jl_MC := (yX4_init, cX4_init, 3, none, { frames := 2, cells := 0, slots := 0, locals := 100 })
theorem jv_X4_init : k0_MI jM_X4_init 2 := ⟨jw_182, jw_5, jw_183, rfl, rfl, by (show "LieCandles$Reader" ≠ _; decide +kernel), by (show "LieCandles$Reader" ≠ _; decide +kernel), by (show (parseMethodDescriptor "(LLieCandles$Tape;LLieCandles$Code;)V").map (fun d => d.parameters.length) = _; decide +kernel)⟩
theorem k0_dv4 : ∀ j, j < 9 → defaultValue (tyX4 j) = k0_d (jl_ft 4 j) := by decide +kernel
def jM_X9_init : jl_MC := (yX9_init, cX9_init, 3, none, { frames := 2, cells := 0, slots := 0, locals := 100 })
theorem jv_X9_init : k0_MI jM_X9_init 2 := ⟨jw_221, jw_6, jw_222, rfl, rfl, by (show "LieCandles$StreetReader" ≠ _; decide +kernel), by (show "LieCandles$StreetReader" ≠ _; decide +kernel), by (show (parseMethodDescriptor "(LLieCandles$Reader;LLieCandles$Street;)V").map (fun d => d.parameters.length) = _; decide +kernel)⟩
theorem k0_dv9 : ∀ j, j < 2 → defaultValue (tyX9 j) = k0_d (jl_ft 9 j) := by decide +kernel
def jM_X8_init : jl_MC := (yX8_init, cX8_init, 1, none, { frames := 3, cells := 14, slots := 1713, locals := 200 })
theorem jv_X8_init : k0_MI jM_X8_init 0 := ⟨jw_80, jw_4, jw_81, rfl, rfl, by (show "LieCandles$Street" ≠ _; decide +kernel), by (show "LieCandles$Street" ≠ _; decide +kernel), by (show (parseMethodDescriptor "()V").map (fun d => d.parameters.length) = _; decide +kernel)⟩
theorem k0_dv8 : ∀ j, j < 17 → defaultValue (tyX8 j) = k0_d (jl_ft 8 j) := by decide +kernel
def jM_X5_init : jl_MC := (yX5_init, cX5_init, 2, none, { frames := 2, cells := 4, slots := 190, locals := 100 })
theorem jv_X5_init : k0_MI jM_X5_init 1 := ⟨jw_316, jw_10, jw_317, rfl, rfl, by (show "LieCandles$Reckoner" ≠ _; decide +kernel), by (show "LieCandles$Reckoner" ≠ _; decide +kernel), by (show (parseMethodDescriptor "(LLieCandles$Street;)V").map (fun d => d.parameters.length) = _; decide +kernel)⟩
theorem k0_dv5 : ∀ j, j < 5 → defaultValue (tyX5 j) = k0_d (jl_ft 5 j) := by decide +kernel
def jM_X1_init : jl_MC := (yX1_init, cX1_init, 3, none, { frames := 3, cells := 4, slots := 27, locals := 200 })
theorem jv_X1_init : k0_MI jM_X1_init 2 := ⟨jw_341, jw_11, jw_342, rfl, rfl, by (show "LieCandles$Foresight" ≠ _; decide +kernel), by (show "LieCandles$Foresight" ≠ _; decide +kernel), by (show (parseMethodDescriptor "(LLieCandles$Reckoner;LLieCandles$State;)V").map (fun d => d.parameters.length) = _; decide +kernel)⟩
theorem k0_dv1 : ∀ j, j < 8 → defaultValue (tyX1 j) = k0_d (jl_ft 1 j) := by decide +kernel
def jM_X6_init : jl_MC := (yX6_init, cX6_init, 2, none, { frames := 2, cells := 3, slots := 1767, locals := 100 })
theorem jv_X6_init : k0_MI jM_X6_init 1 := ⟨jw_381, jw_12, jw_382, rfl, rfl, by (show "LieCandles$Sight" ≠ _; decide +kernel), by (show "LieCandles$Sight" ≠ _; decide +kernel), by (show (parseMethodDescriptor "(LLieCandles$Foresight;)V").map (fun d => d.parameters.length) = _; decide +kernel)⟩
theorem k0_dv6 : ∀ j, j < 11 → defaultValue (tyX6 j) = k0_d (jl_ft 6 j) := by decide +kernel
def jM_X3_init : jl_MC := (yX3_init, cX3_init, 2, none, { frames := 3, cells := 142, slots := 2260, locals := 200 })
theorem jv_X3_init : k0_MI jM_X3_init 0 := ⟨jw_290, jw_9, jw_291, rfl, rfl, by (show "LieCandles$Past" ≠ _; decide +kernel), by (show "LieCandles$Past" ≠ _; decide +kernel), by (show (parseMethodDescriptor "()V").map (fun d => d.parameters.length) = _; decide +kernel)⟩
theorem k0_dv3 : ∀ j, j < 4 → defaultValue (tyX3 j) = k0_d (jl_ft 3 j) := by decide +kernel
def jM_X11_init : jl_MC := (yX11_init, cX11_init, 1, none, { frames := 4, cells := 205, slots := 11112, locals := 300 })
theorem jv_X11_init : k0_MI jM_X11_init 0 := ⟨jw_24, jw_1, jw_25, rfl, rfl, by (show "LieCandles" ≠ _; decide +kernel), by (show "LieCandles" ≠ _; decide +kernel), by (show (parseMethodDescriptor "()V").map (fun d => d.parameters.length) = _; decide +kernel)⟩
theorem k0_dv11 : ∀ j, j < 18 → defaultValue (tyX11 j) = k0_d (jl_ft 11 j) := by decide +kernel
def jM_X12_init : jl_MC := (yX12_init, cX12_init, 1, none, { frames := 2, cells := 79, slots := 105796, locals := 100 })
theorem jv_X12_init : k0_MI jM_X12_init 0 := ⟨jw_1201, jw_13, jw_1202, rfl, rfl, by (show "LieCandlesModel" ≠ _; decide +kernel), by (show "LieCandlesModel" ≠ _; decide +kernel), by (show (parseMethodDescriptor "()V").map (fun d => d.parameters.length) = _; decide +kernel)⟩
theorem k0_dv12 : ∀ j, j < 111 → defaultValue (tyX12 j) = k0_d (jl_ft 12 j) := by decide +kernel
def k0_S7 (x : Nat) (σ : jl_Mm) : jl_Mm := k0_ml [(x, 4, (((x + 3) : Nat) : Int)), (x, 3, (((x + 2) : Nat) : Int)), (x, 2, (((x + 1) : Nat) : Int)), (x, 1, 0), (x, 0, 0)] σ
set_option maxRecDepth 20000 in
set_option maxHeartbeats 4000000 in
theorem k0_cX7 (G : jl_GC) (x : Nat) (σ : jl_Mm) (hk0 : jl_kd x = (7, 5)) (hk1 : jl_kd (x + 1) = (20, 6)) (hk2 : jl_kd (x + 2) = (20, 8)) (hk3 : jl_kd (x + 3) = (20, 8)) : k0_Ct G jM_X7_init [jl_vr G x] (x + 1) (x + 4) σ (k0_S7 x σ) := by
  refine k0_met (ls := [(0, .inl x)]) (plainFor_of_name rfl) (Nat.le_of_ble_eq_true rfl) rfl ?_
  refine k0_aload dX7_init_0 0 rfl ?_
  refine k0_obj jw_236 ⟨Nat.le_of_ble_eq_true rfl, Nat.le_of_ble_eq_true rfl⟩ (fun _ => Nat.le_of_ble_eq_true rfl) dX7_init_1 ?_
  refine k0_aload dX7_init_4 0 rfl ?_
  refine k0_iconst dX7_init_5 ?_
  refine k0_puti (x := x) (i := 0) jc_7 hk0 (by omega) (Nat.le_of_ble_eq_true rfl) (by decide +kernel) ⟨by decide, by decide⟩ jw_237 ⟨rfl, rfl⟩ dX7_init_6 ?_
  refine k0_aload dX7_init_9 0 rfl ?_
  refine k0_iconst dX7_init_10 ?_
  refine k0_puti (x := x) (i := 1) jc_7 hk0 (by omega) (Nat.le_of_ble_eq_true rfl) (by decide +kernel) ⟨by decide, by decide⟩ jw_241 ⟨rfl, rfl⟩ dX7_init_11 ?_
  refine k0_aload dX7_init_14 0 rfl ?_
  refine k0_bipush dX7_init_15 (by decide) ?_
  refine k0_ni (nx := (x + 1)) (ce := 0) (sl := 0) (N := 6) hk1 rfl (Nat.le_of_ble_eq_true rfl) ⟨Nat.le_of_ble_eq_true rfl, Nat.le_of_ble_eq_true rfl⟩ (by simp [k0_ok, k0_okp]) dX7_init_17 ?_
  refine k0_putr (y := (x + 1)) (x := x) (i := 2) jc_7 hk0 (by omega) (Nat.le_of_ble_eq_true rfl) (by decide +kernel) (by omega) (fun _ => ⟨rfl, rfl⟩) jw_244 ⟨rfl, rfl⟩ dX7_init_19 ?_
  refine k0_aload dX7_init_22 0 rfl ?_
  refine k0_bipush dX7_init_23 (by decide) ?_
  refine k0_ni (nx := (x + 2)) (ce := 1) (sl := 6) (N := 8) hk2 rfl (Nat.le_of_ble_eq_true rfl) ⟨Nat.le_of_ble_eq_true rfl, Nat.le_of_ble_eq_true rfl⟩ (by simp [k0_ok, k0_okp]) dX7_init_25 ?_
  refine k0_putr (y := (x + 2)) (x := x) (i := 3) jc_7 hk0 (by omega) (Nat.le_of_ble_eq_true rfl) (by decide +kernel) (by omega) (fun _ => ⟨rfl, rfl⟩) jw_248 ⟨rfl, rfl⟩ dX7_init_27 ?_
  refine k0_aload dX7_init_30 0 rfl ?_
  refine k0_bipush dX7_init_31 (by decide) ?_
  refine k0_ni (nx := (x + 3)) (ce := 2) (sl := 14) (N := 8) hk3 rfl (Nat.le_of_ble_eq_true rfl) ⟨Nat.le_of_ble_eq_true rfl, Nat.le_of_ble_eq_true rfl⟩ (by simp [k0_ok, k0_okp]) dX7_init_33 ?_
  refine k0_putr (y := (x + 3)) (x := x) (i := 4) jc_7 hk0 (by omega) (Nat.le_of_ble_eq_true rfl) (by decide +kernel) (by omega) (fun _ => ⟨rfl, rfl⟩) jw_253 ⟨rfl, rfl⟩ dX7_init_35 ?_
  exact k0_ret rfl dX7_init_38
def k0_S2 (x : Nat) (σ : jl_Mm) : jl_Mm := k0_ml [(x, 3, 0), (x, 2, 0), (x, 1, (((x + 2) : Nat) : Int)), (x, 0, (((x + 1) : Nat) : Int))] σ
set_option maxRecDepth 20000 in
set_option maxHeartbeats 4000000 in
theorem k0_cX2 (G : jl_GC) (x : Nat) (σ : jl_Mm) (hk0 : jl_kd x = (2, 4)) (hk1 : jl_kd (x + 1) = (20, 40)) (hk2 : jl_kd (x + 2) = (20, 40)) : k0_Ct G jM_X2_init [jl_vr G x] (x + 1) (x + 3) σ (k0_S2 x σ) := by
  refine k0_met (ls := [(0, .inl x)]) (plainFor_of_name rfl) (Nat.le_of_ble_eq_true rfl) rfl ?_
  refine k0_aload dX2_init_0 0 rfl ?_
  refine k0_obj jw_272 ⟨Nat.le_of_ble_eq_true rfl, Nat.le_of_ble_eq_true rfl⟩ (fun _ => Nat.le_of_ble_eq_true rfl) dX2_init_1 ?_
  refine k0_aload dX2_init_4 0 rfl ?_
  refine k0_bipush dX2_init_5 (by decide) ?_
  refine k0_ni (nx := (x + 1)) (ce := 0) (sl := 0) (N := 40) hk1 rfl (Nat.le_of_ble_eq_true rfl) ⟨Nat.le_of_ble_eq_true rfl, Nat.le_of_ble_eq_true rfl⟩ (by simp [k0_ok, k0_okp]) dX2_init_7 ?_
  refine k0_putr (y := (x + 1)) (x := x) (i := 0) jc_2 hk0 (by omega) (Nat.le_of_ble_eq_true rfl) (by decide +kernel) (by omega) (fun _ => ⟨rfl, rfl⟩) jw_273 ⟨rfl, rfl⟩ dX2_init_9 ?_
  refine k0_aload dX2_init_12 0 rfl ?_
  refine k0_bipush dX2_init_13 (by decide) ?_
  refine k0_ni (nx := (x + 2)) (ce := 1) (sl := 40) (N := 40) hk2 rfl (Nat.le_of_ble_eq_true rfl) ⟨Nat.le_of_ble_eq_true rfl, Nat.le_of_ble_eq_true rfl⟩ (by simp [k0_ok, k0_okp]) dX2_init_15 ?_
  refine k0_putr (y := (x + 2)) (x := x) (i := 1) jc_2 hk0 (by omega) (Nat.le_of_ble_eq_true rfl) (by decide +kernel) (by omega) (fun _ => ⟨rfl, rfl⟩) jw_274 ⟨rfl, rfl⟩ dX2_init_17 ?_
  refine k0_aload dX2_init_20 0 rfl ?_
  refine k0_iconst dX2_init_21 ?_
  refine k0_puti (x := x) (i := 2) jc_2 hk0 (by omega) (Nat.le_of_ble_eq_true rfl) (by decide +kernel) ⟨by decide, by decide⟩ jw_275 ⟨rfl, rfl⟩ dX2_init_22 ?_
  refine k0_aload dX2_init_25 0 rfl ?_
  refine k0_iconst dX2_init_26 ?_
  refine k0_puti (x := x) (i := 3) jc_2 hk0 (by omega) (Nat.le_of_ble_eq_true rfl) (by decide +kernel) ⟨by decide, by decide⟩ jw_276 ⟨rfl, rfl⟩ dX2_init_27 ?_
  exact k0_ret rfl dX2_init_30
def k0_S0 (x : Nat) (σ : jl_Mm) : jl_Mm := k0_ml [(x, 5, 0), (x, 4, 0), (x, 3, (((x + 4) : Nat) : Int)), (x, 2, (((x + 3) : Nat) : Int)), (x, 1, (((x + 2) : Nat) : Int)), (x, 0, (((x + 1) : Nat) : Int))] σ
set_option maxRecDepth 20000 in
set_option maxHeartbeats 4000000 in
theorem k0_cX0 (G : jl_GC) (x : Nat) (σ : jl_Mm) (hk0 : jl_kd x = (0, 6)) (hk1 : jl_kd (x + 1) = (20, 1608)) (hk2 : jl_kd (x + 2) = (20, 3)) (hk3 : jl_kd (x + 3) = (20, 3)) (hk4 : jl_kd (x + 4) = (20, 3)) : k0_Ct G jM_X0_init [jl_vr G x] (x + 1) (x + 5) σ (k0_S0 x σ) := by
  refine k0_met (ls := [(0, .inl x)]) (plainFor_of_name rfl) (Nat.le_of_ble_eq_true rfl) rfl ?_
  refine k0_aload dX0_init_0 0 rfl ?_
  refine k0_obj jw_53 ⟨Nat.le_of_ble_eq_true rfl, Nat.le_of_ble_eq_true rfl⟩ (fun _ => Nat.le_of_ble_eq_true rfl) dX0_init_1 ?_
  refine k0_aload dX0_init_4 0 rfl ?_
  refine k0_sipush dX0_init_5 (by decide) ?_
  refine k0_ni (nx := (x + 1)) (ce := 0) (sl := 0) (N := 1608) hk1 rfl (Nat.le_of_ble_eq_true rfl) ⟨Nat.le_of_ble_eq_true rfl, Nat.le_of_ble_eq_true rfl⟩ (by simp [k0_ok, k0_okp]) dX0_init_8 ?_
  refine k0_putr (y := (x + 1)) (x := x) (i := 0) jc_0 hk0 (by omega) (Nat.le_of_ble_eq_true rfl) (by decide +kernel) (by omega) (fun _ => ⟨rfl, rfl⟩) jw_54 ⟨rfl, rfl⟩ dX0_init_10 ?_
  refine k0_aload dX0_init_13 0 rfl ?_
  refine k0_iconst dX0_init_14 ?_
  refine k0_ni (nx := (x + 2)) (ce := 1) (sl := 1608) (N := 3) hk2 rfl (Nat.le_of_ble_eq_true rfl) ⟨Nat.le_of_ble_eq_true rfl, Nat.le_of_ble_eq_true rfl⟩ (by simp [k0_ok, k0_okp]) dX0_init_15 ?_
  refine k0_putr (y := (x + 2)) (x := x) (i := 1) jc_0 hk0 (by omega) (Nat.le_of_ble_eq_true rfl) (by decide +kernel) (by omega) (fun _ => ⟨rfl, rfl⟩) jw_56 ⟨rfl, rfl⟩ dX0_init_17 ?_
  refine k0_aload dX0_init_20 0 rfl ?_
  refine k0_iconst dX0_init_21 ?_
  refine k0_ni (nx := (x + 3)) (ce := 2) (sl := 1611) (N := 3) hk3 rfl (Nat.le_of_ble_eq_true rfl) ⟨Nat.le_of_ble_eq_true rfl, Nat.le_of_ble_eq_true rfl⟩ (by simp [k0_ok, k0_okp]) dX0_init_22 ?_
  refine k0_putr (y := (x + 3)) (x := x) (i := 2) jc_0 hk0 (by omega) (Nat.le_of_ble_eq_true rfl) (by decide +kernel) (by omega) (fun _ => ⟨rfl, rfl⟩) jw_58 ⟨rfl, rfl⟩ dX0_init_24 ?_
  refine k0_aload dX0_init_27 0 rfl ?_
  refine k0_iconst dX0_init_28 ?_
  refine k0_ni (nx := (x + 4)) (ce := 3) (sl := 1614) (N := 3) hk4 rfl (Nat.le_of_ble_eq_true rfl) ⟨Nat.le_of_ble_eq_true rfl, Nat.le_of_ble_eq_true rfl⟩ (by simp [k0_ok, k0_okp]) dX0_init_29 ?_
  refine k0_putr (y := (x + 4)) (x := x) (i := 3) jc_0 hk0 (by omega) (Nat.le_of_ble_eq_true rfl) (by decide +kernel) (by omega) (fun _ => ⟨rfl, rfl⟩) jw_60 ⟨rfl, rfl⟩ dX0_init_31 ?_
  refine k0_aload dX0_init_34 0 rfl ?_
  refine k0_iconst dX0_init_35 ?_
  refine k0_puti (x := x) (i := 4) jc_0 hk0 (by omega) (Nat.le_of_ble_eq_true rfl) (by decide +kernel) ⟨by decide, by decide⟩ jw_62 ⟨rfl, rfl⟩ dX0_init_36 ?_
  refine k0_aload dX0_init_39 0 rfl ?_
  refine k0_iconst dX0_init_40 ?_
  refine k0_puti (x := x) (i := 5) jc_0 hk0 (by omega) (Nat.le_of_ble_eq_true rfl) (by decide +kernel) ⟨by decide, by decide⟩ jw_63 ⟨rfl, rfl⟩ dX0_init_41 ?_
  exact k0_ret rfl dX0_init_44
def k0_S8 (x : Nat) (σ : jl_Mm) : jl_Mm := k0_ml [(x, 16, (((x + 10) : Nat) : Int))] (k0_S0 (x + 10) (k0_ml [(x, 15, (((x + 9) : Nat) : Int)), (x, 14, (((x + 8) : Nat) : Int)), (x, 13, (((x + 7) : Nat) : Int)), (x, 12, (((x + 6) : Nat) : Int)), (x, 11, (((x + 5) : Nat) : Int)), (x, 10, (((x + 4) : Nat) : Int)), (x, 9, (((x + 3) : Nat) : Int)), (x, 8, (((x + 2) : Nat) : Int)), (x, 7, (((x + 1) : Nat) : Int)), (x, 6, 0), (x, 5, 0), (x, 4, 0), (x, 3, 0), (x, 2, 0), (x, 1, 0), (x, 0, 0)] σ))
set_option maxRecDepth 20000 in
set_option maxHeartbeats 4000000 in
theorem k0_cX8 (G : jl_GC) (x : Nat) (σ : jl_Mm) (hk0 : jl_kd x = (8, 17)) (hk1 : jl_kd (x + 1) = (20, 6)) (hk2 : jl_kd (x + 2) = (20, 6)) (hk3 : jl_kd (x + 3) = (20, 6)) (hk4 : jl_kd (x + 4) = (20, 8)) (hk5 : jl_kd (x + 5) = (20, 8)) (hk6 : jl_kd (x + 6) = (20, 8)) (hk7 : jl_kd (x + 7) = (20, 16)) (hk8 : jl_kd (x + 8) = (20, 16)) (hk9 : jl_kd (x + 9) = (20, 16)) (hk10 : jl_kd (x + 10) = (0, 6)) (hk11 : jl_kd (x + 11) = (20, 1608)) (hk12 : jl_kd (x + 12) = (20, 3)) (hk13 : jl_kd (x + 13) = (20, 3)) (hk14 : jl_kd (x + 14) = (20, 3)) : k0_Ct G jM_X8_init [jl_vr G x] (x + 1) (x + 15) σ (k0_S8 x σ) := by
  refine k0_met (ls := [(0, .inl x)]) (plainFor_of_name rfl) (Nat.le_of_ble_eq_true rfl) rfl ?_
  refine k0_aload dX8_init_0 0 rfl ?_
  refine k0_obj jw_82 ⟨Nat.le_of_ble_eq_true rfl, Nat.le_of_ble_eq_true rfl⟩ (fun _ => Nat.le_of_ble_eq_true rfl) dX8_init_1 ?_
  refine k0_aload dX8_init_4 0 rfl ?_
  refine k0_iconst dX8_init_5 ?_
  refine k0_puti (x := x) (i := 0) jc_8 hk0 (by omega) (Nat.le_of_ble_eq_true rfl) (by decide +kernel) ⟨by decide, by decide⟩ jw_85 ⟨rfl, rfl⟩ dX8_init_6 ?_
  refine k0_aload dX8_init_9 0 rfl ?_
  refine k0_iconst dX8_init_10 ?_
  refine k0_puti (x := x) (i := 1) jc_8 hk0 (by omega) (Nat.le_of_ble_eq_true rfl) (by decide +kernel) ⟨by decide, by decide⟩ jw_88 ⟨rfl, rfl⟩ dX8_init_11 ?_
  refine k0_aload dX8_init_14 0 rfl ?_
  refine k0_iconst dX8_init_15 ?_
  refine k0_puti (x := x) (i := 2) jc_8 hk0 (by omega) (Nat.le_of_ble_eq_true rfl) (by decide +kernel) ⟨by decide, by decide⟩ jw_94 ⟨rfl, rfl⟩ dX8_init_16 ?_
  refine k0_aload dX8_init_19 0 rfl ?_
  refine k0_iconst dX8_init_20 ?_
  refine k0_puti (x := x) (i := 3) jc_8 hk0 (by omega) (Nat.le_of_ble_eq_true rfl) (by decide +kernel) ⟨by decide, by decide⟩ jw_100 ⟨rfl, rfl⟩ dX8_init_21 ?_
  refine k0_aload dX8_init_24 0 rfl ?_
  refine k0_iconst dX8_init_25 ?_
  refine k0_puti (x := x) (i := 4) jc_8 hk0 (by omega) (Nat.le_of_ble_eq_true rfl) (by decide +kernel) ⟨by decide, by decide⟩ jw_105 ⟨rfl, rfl⟩ dX8_init_26 ?_
  refine k0_aload dX8_init_29 0 rfl ?_
  refine k0_iconst dX8_init_30 ?_
  refine k0_puti (x := x) (i := 5) jc_8 hk0 (by omega) (Nat.le_of_ble_eq_true rfl) (by decide +kernel) ⟨by decide, by decide⟩ jw_109 ⟨rfl, rfl⟩ dX8_init_31 ?_
  refine k0_aload dX8_init_34 0 rfl ?_
  refine k0_iconst dX8_init_35 ?_
  refine k0_puti (x := x) (i := 6) jc_8 hk0 (by omega) (Nat.le_of_ble_eq_true rfl) (by decide +kernel) ⟨by decide, by decide⟩ jw_112 ⟨rfl, rfl⟩ dX8_init_36 ?_
  refine k0_aload dX8_init_39 0 rfl ?_
  refine k0_bipush dX8_init_40 (by decide) ?_
  refine k0_ni (nx := (x + 1)) (ce := 0) (sl := 0) (N := 6) hk1 rfl (Nat.le_of_ble_eq_true rfl) ⟨Nat.le_of_ble_eq_true rfl, Nat.le_of_ble_eq_true rfl⟩ (by simp [k0_ok, k0_okp]) dX8_init_42 ?_
  refine k0_putr (y := (x + 1)) (x := x) (i := 7) jc_8 hk0 (by omega) (Nat.le_of_ble_eq_true rfl) (by decide +kernel) (by omega) (fun _ => ⟨rfl, rfl⟩) jw_116 ⟨rfl, rfl⟩ dX8_init_44 ?_
  refine k0_aload dX8_init_47 0 rfl ?_
  refine k0_bipush dX8_init_48 (by decide) ?_
  refine k0_ni (nx := (x + 2)) (ce := 1) (sl := 6) (N := 6) hk2 rfl (Nat.le_of_ble_eq_true rfl) ⟨Nat.le_of_ble_eq_true rfl, Nat.le_of_ble_eq_true rfl⟩ (by simp [k0_ok, k0_okp]) dX8_init_50 ?_
  refine k0_putr (y := (x + 2)) (x := x) (i := 8) jc_8 hk0 (by omega) (Nat.le_of_ble_eq_true rfl) (by decide +kernel) (by omega) (fun _ => ⟨rfl, rfl⟩) jw_118 ⟨rfl, rfl⟩ dX8_init_52 ?_
  refine k0_aload dX8_init_55 0 rfl ?_
  refine k0_bipush dX8_init_56 (by decide) ?_
  refine k0_ni (nx := (x + 3)) (ce := 2) (sl := 12) (N := 6) hk3 rfl (Nat.le_of_ble_eq_true rfl) ⟨Nat.le_of_ble_eq_true rfl, Nat.le_of_ble_eq_true rfl⟩ (by simp [k0_ok, k0_okp]) dX8_init_58 ?_
  refine k0_putr (y := (x + 3)) (x := x) (i := 9) jc_8 hk0 (by omega) (Nat.le_of_ble_eq_true rfl) (by decide +kernel) (by omega) (fun _ => ⟨rfl, rfl⟩) jw_120 ⟨rfl, rfl⟩ dX8_init_60 ?_
  refine k0_aload dX8_init_63 0 rfl ?_
  refine k0_bipush dX8_init_64 (by decide) ?_
  refine k0_ni (nx := (x + 4)) (ce := 3) (sl := 18) (N := 8) hk4 rfl (Nat.le_of_ble_eq_true rfl) ⟨Nat.le_of_ble_eq_true rfl, Nat.le_of_ble_eq_true rfl⟩ (by simp [k0_ok, k0_okp]) dX8_init_66 ?_
  refine k0_putr (y := (x + 4)) (x := x) (i := 10) jc_8 hk0 (by omega) (Nat.le_of_ble_eq_true rfl) (by decide +kernel) (by omega) (fun _ => ⟨rfl, rfl⟩) jw_123 ⟨rfl, rfl⟩ dX8_init_68 ?_
  refine k0_aload dX8_init_71 0 rfl ?_
  refine k0_bipush dX8_init_72 (by decide) ?_
  refine k0_ni (nx := (x + 5)) (ce := 4) (sl := 26) (N := 8) hk5 rfl (Nat.le_of_ble_eq_true rfl) ⟨Nat.le_of_ble_eq_true rfl, Nat.le_of_ble_eq_true rfl⟩ (by simp [k0_ok, k0_okp]) dX8_init_74 ?_
  refine k0_putr (y := (x + 5)) (x := x) (i := 11) jc_8 hk0 (by omega) (Nat.le_of_ble_eq_true rfl) (by decide +kernel) (by omega) (fun _ => ⟨rfl, rfl⟩) jw_125 ⟨rfl, rfl⟩ dX8_init_76 ?_
  refine k0_aload dX8_init_79 0 rfl ?_
  refine k0_bipush dX8_init_80 (by decide) ?_
  refine k0_ni (nx := (x + 6)) (ce := 5) (sl := 34) (N := 8) hk6 rfl (Nat.le_of_ble_eq_true rfl) ⟨Nat.le_of_ble_eq_true rfl, Nat.le_of_ble_eq_true rfl⟩ (by simp [k0_ok, k0_okp]) dX8_init_82 ?_
  refine k0_putr (y := (x + 6)) (x := x) (i := 12) jc_8 hk0 (by omega) (Nat.le_of_ble_eq_true rfl) (by decide +kernel) (by omega) (fun _ => ⟨rfl, rfl⟩) jw_128 ⟨rfl, rfl⟩ dX8_init_84 ?_
  refine k0_aload dX8_init_87 0 rfl ?_
  refine k0_bipush dX8_init_88 (by decide) ?_
  refine k0_ni (nx := (x + 7)) (ce := 6) (sl := 42) (N := 16) hk7 rfl (Nat.le_of_ble_eq_true rfl) ⟨Nat.le_of_ble_eq_true rfl, Nat.le_of_ble_eq_true rfl⟩ (by simp [k0_ok, k0_okp]) dX8_init_90 ?_
  refine k0_putr (y := (x + 7)) (x := x) (i := 13) jc_8 hk0 (by omega) (Nat.le_of_ble_eq_true rfl) (by decide +kernel) (by omega) (fun _ => ⟨rfl, rfl⟩) jw_132 ⟨rfl, rfl⟩ dX8_init_92 ?_
  refine k0_aload dX8_init_95 0 rfl ?_
  refine k0_bipush dX8_init_96 (by decide) ?_
  refine k0_ni (nx := (x + 8)) (ce := 7) (sl := 58) (N := 16) hk8 rfl (Nat.le_of_ble_eq_true rfl) ⟨Nat.le_of_ble_eq_true rfl, Nat.le_of_ble_eq_true rfl⟩ (by simp [k0_ok, k0_okp]) dX8_init_98 ?_
  refine k0_putr (y := (x + 8)) (x := x) (i := 14) jc_8 hk0 (by omega) (Nat.le_of_ble_eq_true rfl) (by decide +kernel) (by omega) (fun _ => ⟨rfl, rfl⟩) jw_135 ⟨rfl, rfl⟩ dX8_init_100 ?_
  refine k0_aload dX8_init_103 0 rfl ?_
  refine k0_bipush dX8_init_104 (by decide) ?_
  refine k0_ni (nx := (x + 9)) (ce := 8) (sl := 74) (N := 16) hk9 rfl (Nat.le_of_ble_eq_true rfl) ⟨Nat.le_of_ble_eq_true rfl, Nat.le_of_ble_eq_true rfl⟩ (by simp [k0_ok, k0_okp]) dX8_init_106 ?_
  refine k0_putr (y := (x + 9)) (x := x) (i := 15) jc_8 hk0 (by omega) (Nat.le_of_ble_eq_true rfl) (by decide +kernel) (by omega) (fun _ => ⟨rfl, rfl⟩) jw_138 ⟨rfl, rfl⟩ dX8_init_108 ?_
  refine k0_aload dX8_init_111 0 rfl ?_
  refine k0_new (nx := (x + 10)) (ce := 9) (sl := 90) jc_0 hk10 jw_83 jw_49 jw_3 k0_dv0 ⟨Nat.le_of_ble_eq_true rfl, Nat.le_of_ble_eq_true rfl⟩ (by simp [k0_ok, k0_okp]) dX8_init_112 ?_
  refine k0_dup dX8_init_115 ?_
  refine k0_callN (nx := (x + 11)) (ce := 10) (sl := 96) (Y := jM_X0_init) (x := (x + 10)) (nf := (x + 15)) (As := []) (fun G => k0_cX0 G (x + 10) _ hk10 hk11 hk12 hk13 hk14) jv_X0_init jw_84 ⟨Nat.le_of_ble_eq_true rfl, Nat.le_of_ble_eq_true rfl⟩ rfl (by simp [k0_ok, k0_okp]) (fun _ => Nat.le_of_ble_eq_true rfl) ⟨Nat.le_of_ble_eq_true rfl, Nat.le_of_ble_eq_true rfl⟩ dX8_init_116 ?_
  refine k0_putr (y := (x + 10)) (x := x) (i := 16) jc_8 hk0 (by omega) (Nat.le_of_ble_eq_true rfl) (by decide +kernel) (by omega) (fun _ => ⟨rfl, rfl⟩) jw_141 ⟨rfl, rfl⟩ dX8_init_119 ?_
  exact k0_ret rfl dX8_init_122
def k0_S10 (σ : jl_Mm) : jl_Mm := k0_ml [(1, 1, 0), (1, 0, ((2 : Nat) : Int))] σ
set_option maxRecDepth 20000 in
set_option maxHeartbeats 4000000 in
theorem k0_cX10 (G : jl_GC) (σ : jl_Mm) : k0_Ct G jM_X10_init [jl_vr G 1] 2 3 σ (k0_S10 σ) := by
  refine k0_met (ls := [(0, .inl 1)]) (plainFor_of_name rfl) (Nat.le_of_ble_eq_true rfl) rfl ?_
  refine k0_aload dX10_init_0 0 rfl ?_
  refine k0_obj jw_34 ⟨Nat.le_of_ble_eq_true rfl, Nat.le_of_ble_eq_true rfl⟩ (fun _ => Nat.le_of_ble_eq_true rfl) dX10_init_1 ?_
  refine k0_aload dX10_init_4 0 rfl ?_
  refine k0_sipush dX10_init_5 (by decide) ?_
  refine k0_ni (nx := 2) (ce := 0) (sl := 0) (N := 1600) jk_2 rfl (Nat.le_of_ble_eq_true rfl) ⟨Nat.le_of_ble_eq_true rfl, Nat.le_of_ble_eq_true rfl⟩ rfl dX10_init_8 ?_
  refine k0_putr (y := 2) (x := 1) (i := 0) jc_10 jk_1 (Nat.le_of_ble_eq_true rfl) (Nat.le_of_ble_eq_true rfl) (by decide +kernel) (Nat.le_of_ble_eq_true rfl) (fun _ => ⟨rfl, rfl⟩) jw_35 ⟨rfl, rfl⟩ dX10_init_10 ?_
  refine k0_aload dX10_init_13 0 rfl ?_
  refine k0_iconst dX10_init_14 ?_
  refine k0_puti (x := 1) (i := 1) jc_10 jk_1 (Nat.le_of_ble_eq_true rfl) (Nat.le_of_ble_eq_true rfl) (by decide +kernel) ⟨by decide, by decide⟩ jw_38 ⟨rfl, rfl⟩ dX10_init_15 ?_
  exact k0_ret rfl dX10_init_18
def k0_S4 (σ : jl_Mm) : jl_Mm := k0_ml [(38, 1, ((3 : Nat) : Int)), (38, 0, ((1 : Nat) : Int)), (38, 8, (-1)), (38, 7, 0), (38, 6, 0), (38, 5, 0), (38, 4, 0), (38, 3, 0), (38, 2, 0)] σ
set_option maxRecDepth 20000 in
set_option maxHeartbeats 4000000 in
theorem k0_cX4 (G : jl_GC) (σ : jl_Mm) : k0_Ct G jM_X4_init [jl_vr G 38, jl_vr G 1, jl_vr G 3] 39 39 σ (k0_S4 σ) := by
  refine k0_met (ls := [(0, .inl 38), (1, .inl 1), (2, .inl 3)]) (plainFor_of_name rfl) (Nat.le_of_ble_eq_true rfl) rfl ?_
  refine k0_aload dX4_init_0 0 rfl ?_
  refine k0_obj jw_184 ⟨Nat.le_of_ble_eq_true rfl, Nat.le_of_ble_eq_true rfl⟩ (fun _ => Nat.le_of_ble_eq_true rfl) dX4_init_1 ?_
  refine k0_aload dX4_init_4 0 rfl ?_
  refine k0_iconst dX4_init_5 ?_
  refine k0_puti (x := 38) (i := 2) jc_4 jk_38 (Nat.le_of_ble_eq_true rfl) (Nat.le_of_ble_eq_true rfl) (by decide +kernel) ⟨by decide, by decide⟩ jw_187 ⟨rfl, rfl⟩ dX4_init_6 ?_
  refine k0_aload dX4_init_9 0 rfl ?_
  refine k0_iconst dX4_init_10 ?_
  refine k0_puti (x := 38) (i := 3) jc_4 jk_38 (Nat.le_of_ble_eq_true rfl) (Nat.le_of_ble_eq_true rfl) (by decide +kernel) ⟨by decide, by decide⟩ jw_188 ⟨rfl, rfl⟩ dX4_init_11 ?_
  refine k0_aload dX4_init_14 0 rfl ?_
  refine k0_iconst dX4_init_15 ?_
  refine k0_puti (x := 38) (i := 4) jc_4 jk_38 (Nat.le_of_ble_eq_true rfl) (Nat.le_of_ble_eq_true rfl) (by decide +kernel) ⟨by decide, by decide⟩ jw_189 ⟨rfl, rfl⟩ dX4_init_16 ?_
  refine k0_aload dX4_init_19 0 rfl ?_
  refine k0_iconst dX4_init_20 ?_
  refine k0_puti (x := 38) (i := 5) jc_4 jk_38 (Nat.le_of_ble_eq_true rfl) (Nat.le_of_ble_eq_true rfl) (by decide +kernel) ⟨by decide, by decide⟩ jw_191 ⟨rfl, rfl⟩ dX4_init_21 ?_
  refine k0_aload dX4_init_24 0 rfl ?_
  refine k0_iconst dX4_init_25 ?_
  refine k0_puti (x := 38) (i := 6) jc_4 jk_38 (Nat.le_of_ble_eq_true rfl) (Nat.le_of_ble_eq_true rfl) (by decide +kernel) ⟨by decide, by decide⟩ jw_193 ⟨rfl, rfl⟩ dX4_init_26 ?_
  refine k0_aload dX4_init_29 0 rfl ?_
  refine k0_iconst dX4_init_30 ?_
  refine k0_puti (x := 38) (i := 7) jc_4 jk_38 (Nat.le_of_ble_eq_true rfl) (Nat.le_of_ble_eq_true rfl) (by decide +kernel) ⟨by decide, by decide⟩ jw_195 ⟨rfl, rfl⟩ dX4_init_31 ?_
  refine k0_aload dX4_init_34 0 rfl ?_
  refine k0_iconst dX4_init_35 ?_
  refine k0_puti (x := 38) (i := 8) jc_4 jk_38 (Nat.le_of_ble_eq_true rfl) (Nat.le_of_ble_eq_true rfl) (by decide +kernel) ⟨by decide, by decide⟩ jw_197 ⟨rfl, rfl⟩ dX4_init_36 ?_
  refine k0_aload dX4_init_39 0 rfl ?_
  refine k0_aload dX4_init_40 1 rfl ?_
  refine k0_putr (y := 1) (x := 38) (i := 0) jc_4 jk_38 (Nat.le_of_ble_eq_true rfl) (Nat.le_of_ble_eq_true rfl) (by decide +kernel) (Nat.le_of_ble_eq_true rfl) (fun _ => ⟨rfl, rfl⟩) jw_185 ⟨rfl, rfl⟩ dX4_init_41 ?_
  refine k0_aload dX4_init_44 0 rfl ?_
  refine k0_aload dX4_init_45 2 rfl ?_
  refine k0_putr (y := 3) (x := 38) (i := 1) jc_4 jk_38 (Nat.le_of_ble_eq_true rfl) (Nat.le_of_ble_eq_true rfl) (by decide +kernel) (Nat.le_of_ble_eq_true rfl) (fun _ => ⟨rfl, rfl⟩) jw_186 ⟨rfl, rfl⟩ dX4_init_46 ?_
  exact k0_ret rfl dX4_init_49
def k0_S9 (σ : jl_Mm) : jl_Mm := k0_ml [(39, 1, ((23 : Nat) : Int)), (39, 0, ((38 : Nat) : Int))] σ
set_option maxRecDepth 20000 in
set_option maxHeartbeats 4000000 in
theorem k0_cX9 (G : jl_GC) (σ : jl_Mm) : k0_Ct G jM_X9_init [jl_vr G 39, jl_vr G 38, jl_vr G 23] 40 40 σ (k0_S9 σ) := by
  refine k0_met (ls := [(0, .inl 39), (1, .inl 38), (2, .inl 23)]) (plainFor_of_name rfl) (Nat.le_of_ble_eq_true rfl) rfl ?_
  refine k0_aload dX9_init_0 0 rfl ?_
  refine k0_obj jw_223 ⟨Nat.le_of_ble_eq_true rfl, Nat.le_of_ble_eq_true rfl⟩ (fun _ => Nat.le_of_ble_eq_true rfl) dX9_init_1 ?_
  refine k0_aload dX9_init_4 0 rfl ?_
  refine k0_aload dX9_init_5 1 rfl ?_
  refine k0_putr (y := 38) (x := 39) (i := 0) jc_9 jk_39 (Nat.le_of_ble_eq_true rfl) (Nat.le_of_ble_eq_true rfl) (by decide +kernel) (Nat.le_of_ble_eq_true rfl) (fun _ => ⟨rfl, rfl⟩) jw_224 ⟨rfl, rfl⟩ dX9_init_6 ?_
  refine k0_aload dX9_init_9 0 rfl ?_
  refine k0_aload dX9_init_10 2 rfl ?_
  refine k0_putr (y := 23) (x := 39) (i := 1) jc_9 jk_39 (Nat.le_of_ble_eq_true rfl) (Nat.le_of_ble_eq_true rfl) (by decide +kernel) (Nat.le_of_ble_eq_true rfl) (fun _ => ⟨rfl, rfl⟩) jw_225 ⟨rfl, rfl⟩ dX9_init_11 ?_
  exact k0_ret rfl dX9_init_14
def k0_S5 (σ : jl_Mm) : jl_Mm := k0_ml [(190, 0, ((8 : Nat) : Int)), (190, 4, ((194 : Nat) : Int)), (190, 3, ((193 : Nat) : Int)), (190, 2, ((192 : Nat) : Int)), (190, 1, ((191 : Nat) : Int))] σ
set_option maxRecDepth 20000 in
set_option maxHeartbeats 4000000 in
theorem k0_cX5 (G : jl_GC) (σ : jl_Mm) : k0_Ct G jM_X5_init [jl_vr G 190, jl_vr G 8] 191 195 σ (k0_S5 σ) := by
  refine k0_met (ls := [(0, .inl 190), (1, .inl 8)]) (plainFor_of_name rfl) (Nat.le_of_ble_eq_true rfl) rfl ?_
  refine k0_aload dX5_init_0 0 rfl ?_
  refine k0_obj jw_318 ⟨Nat.le_of_ble_eq_true rfl, Nat.le_of_ble_eq_true rfl⟩ (fun _ => Nat.le_of_ble_eq_true rfl) dX5_init_1 ?_
  refine k0_aload dX5_init_4 0 rfl ?_
  refine k0_sipush dX5_init_5 (by decide) ?_
  refine k0_ni (nx := 191) (ce := 0) (sl := 0) (N := 128) jk_191 rfl (Nat.le_of_ble_eq_true rfl) ⟨Nat.le_of_ble_eq_true rfl, Nat.le_of_ble_eq_true rfl⟩ rfl dX5_init_8 ?_
  refine k0_putr (y := 191) (x := 190) (i := 1) jc_5 jk_190 (Nat.le_of_ble_eq_true rfl) (Nat.le_of_ble_eq_true rfl) (by decide +kernel) (Nat.le_of_ble_eq_true rfl) (fun _ => ⟨rfl, rfl⟩) jw_323 ⟨rfl, rfl⟩ dX5_init_10 ?_
  refine k0_aload dX5_init_13 0 rfl ?_
  refine k0_bipush dX5_init_14 (by decide) ?_
  refine k0_ni (nx := 192) (ce := 1) (sl := 128) (N := 24) jk_192 rfl (Nat.le_of_ble_eq_true rfl) ⟨Nat.le_of_ble_eq_true rfl, Nat.le_of_ble_eq_true rfl⟩ rfl dX5_init_16 ?_
  refine k0_putr (y := 192) (x := 190) (i := 2) jc_5 jk_190 (Nat.le_of_ble_eq_true rfl) (Nat.le_of_ble_eq_true rfl) (by decide +kernel) (Nat.le_of_ble_eq_true rfl) (fun _ => ⟨rfl, rfl⟩) jw_324 ⟨rfl, rfl⟩ dX5_init_18 ?_
  refine k0_aload dX5_init_21 0 rfl ?_
  refine k0_bipush dX5_init_22 (by decide) ?_
  refine k0_ni (nx := 193) (ce := 2) (sl := 152) (N := 8) jk_193 rfl (Nat.le_of_ble_eq_true rfl) ⟨Nat.le_of_ble_eq_true rfl, Nat.le_of_ble_eq_true rfl⟩ rfl dX5_init_24 ?_
  refine k0_putr (y := 193) (x := 190) (i := 3) jc_5 jk_190 (Nat.le_of_ble_eq_true rfl) (Nat.le_of_ble_eq_true rfl) (by decide +kernel) (Nat.le_of_ble_eq_true rfl) (fun _ => ⟨rfl, rfl⟩) jw_325 ⟨rfl, rfl⟩ dX5_init_26 ?_
  refine k0_aload dX5_init_29 0 rfl ?_
  refine k0_bipush dX5_init_30 (by decide) ?_
  refine k0_ni (nx := 194) (ce := 3) (sl := 160) (N := 30) jk_194 rfl (Nat.le_of_ble_eq_true rfl) ⟨Nat.le_of_ble_eq_true rfl, Nat.le_of_ble_eq_true rfl⟩ rfl dX5_init_32 ?_
  refine k0_putr (y := 194) (x := 190) (i := 4) jc_5 jk_190 (Nat.le_of_ble_eq_true rfl) (Nat.le_of_ble_eq_true rfl) (by decide +kernel) (Nat.le_of_ble_eq_true rfl) (fun _ => ⟨rfl, rfl⟩) jw_326 ⟨rfl, rfl⟩ dX5_init_34 ?_
  refine k0_aload dX5_init_37 0 rfl ?_
  refine k0_aload dX5_init_38 1 rfl ?_
  refine k0_putr (y := 8) (x := 190) (i := 0) jc_5 jk_190 (Nat.le_of_ble_eq_true rfl) (Nat.le_of_ble_eq_true rfl) (by decide +kernel) (Nat.le_of_ble_eq_true rfl) (fun _ => ⟨rfl, rfl⟩) jw_319 ⟨rfl, rfl⟩ dX5_init_39 ?_
  exact k0_ret rfl dX5_init_42
def k0_S1 (σ : jl_Mm) : jl_Mm := k0_ml [(195, 1, ((40 : Nat) : Int)), (195, 0, ((190 : Nat) : Int)), (195, 7, 0), (195, 6, (-1)), (195, 5, (-1)), (195, 4, 0), (195, 3, (-1)), (195, 2, ((196 : Nat) : Int))] (k0_S7 196 σ)
set_option maxRecDepth 20000 in
set_option maxHeartbeats 4000000 in
theorem k0_cX1 (G : jl_GC) (σ : jl_Mm) : k0_Ct G jM_X1_init [jl_vr G 195, jl_vr G 190, jl_vr G 40] 196 200 σ (k0_S1 σ) := by
  refine k0_met (ls := [(0, .inl 195), (1, .inl 190), (2, .inl 40)]) (plainFor_of_name rfl) (Nat.le_of_ble_eq_true rfl) rfl ?_
  refine k0_aload dX1_init_0 0 rfl ?_
  refine k0_obj jw_343 ⟨Nat.le_of_ble_eq_true rfl, Nat.le_of_ble_eq_true rfl⟩ (fun _ => Nat.le_of_ble_eq_true rfl) dX1_init_1 ?_
  refine k0_aload dX1_init_4 0 rfl ?_
  refine k0_new (nx := 196) (ce := 0) (sl := 0) jc_7 jk_196 jw_344 jw_232 jw_7 k0_dv7 ⟨Nat.le_of_ble_eq_true rfl, Nat.le_of_ble_eq_true rfl⟩ rfl dX1_init_5 ?_
  refine k0_dup dX1_init_8 ?_
  refine k0_callN (nx := 197) (ce := 1) (sl := 5) (Y := jM_X7_init) (x := 196) (nf := 200) (As := []) (fun G => k0_cX7 G 196 _ jk_196 jk_197 jk_198 jk_199) jv_X7_init jw_345 ⟨Nat.le_of_ble_eq_true rfl, Nat.le_of_ble_eq_true rfl⟩ rfl rfl (fun _ => Nat.le_of_ble_eq_true rfl) ⟨Nat.le_of_ble_eq_true rfl, Nat.le_of_ble_eq_true rfl⟩ dX1_init_9 ?_
  refine k0_putr (y := 196) (x := 195) (i := 2) jc_1 jk_195 (Nat.le_of_ble_eq_true rfl) (Nat.le_of_ble_eq_true rfl) (by decide +kernel) (Nat.le_of_ble_eq_true rfl) (fun _ => ⟨rfl, rfl⟩) jw_349 ⟨rfl, rfl⟩ dX1_init_12 ?_
  refine k0_aload dX1_init_15 0 rfl ?_
  refine k0_iconst dX1_init_16 ?_
  refine k0_puti (x := 195) (i := 3) jc_1 jk_195 (Nat.le_of_ble_eq_true rfl) (Nat.le_of_ble_eq_true rfl) (by decide +kernel) ⟨by decide, by decide⟩ jw_351 ⟨rfl, rfl⟩ dX1_init_17 ?_
  refine k0_aload dX1_init_20 0 rfl ?_
  refine k0_iconst dX1_init_21 ?_
  refine k0_puti (x := 195) (i := 4) jc_1 jk_195 (Nat.le_of_ble_eq_true rfl) (Nat.le_of_ble_eq_true rfl) (by decide +kernel) ⟨by decide, by decide⟩ jw_353 ⟨rfl, rfl⟩ dX1_init_22 ?_
  refine k0_aload dX1_init_25 0 rfl ?_
  refine k0_iconst dX1_init_26 ?_
  refine k0_puti (x := 195) (i := 5) jc_1 jk_195 (Nat.le_of_ble_eq_true rfl) (Nat.le_of_ble_eq_true rfl) (by decide +kernel) ⟨by decide, by decide⟩ jw_355 ⟨rfl, rfl⟩ dX1_init_27 ?_
  refine k0_aload dX1_init_30 0 rfl ?_
  refine k0_iconst dX1_init_31 ?_
  refine k0_puti (x := 195) (i := 6) jc_1 jk_195 (Nat.le_of_ble_eq_true rfl) (Nat.le_of_ble_eq_true rfl) (by decide +kernel) ⟨by decide, by decide⟩ jw_357 ⟨rfl, rfl⟩ dX1_init_32 ?_
  refine k0_aload dX1_init_35 0 rfl ?_
  refine k0_iconst dX1_init_36 ?_
  refine k0_puti (x := 195) (i := 7) jc_1 jk_195 (Nat.le_of_ble_eq_true rfl) (Nat.le_of_ble_eq_true rfl) (by decide +kernel) ⟨by decide, by decide⟩ jw_359 ⟨rfl, rfl⟩ dX1_init_37 ?_
  refine k0_aload dX1_init_40 0 rfl ?_
  refine k0_aload dX1_init_41 1 rfl ?_
  refine k0_putr (y := 190) (x := 195) (i := 0) jc_1 jk_195 (Nat.le_of_ble_eq_true rfl) (Nat.le_of_ble_eq_true rfl) (by decide +kernel) (Nat.le_of_ble_eq_true rfl) (fun _ => ⟨rfl, rfl⟩) jw_346 ⟨rfl, rfl⟩ dX1_init_42 ?_
  refine k0_aload dX1_init_45 0 rfl ?_
  refine k0_aload dX1_init_46 2 rfl ?_
  refine k0_putr (y := 40) (x := 195) (i := 1) jc_1 jk_195 (Nat.le_of_ble_eq_true rfl) (Nat.le_of_ble_eq_true rfl) (by decide +kernel) (Nat.le_of_ble_eq_true rfl) (fun _ => ⟨rfl, rfl⟩) jw_348 ⟨rfl, rfl⟩ dX1_init_47 ?_
  exact k0_ret rfl dX1_init_50
def k0_S6 (σ : jl_Mm) : jl_Mm := k0_ml [(200, 2, ((196 : Nat) : Int)), (200, 1, ((190 : Nat) : Int)), (200, 0, ((195 : Nat) : Int)), (200, 10, 0), (200, 9, 0), (200, 8, 0), (200, 7, ((203 : Nat) : Int)), (200, 6, 0), (200, 5, ((202 : Nat) : Int)), (200, 4, 0), (200, 3, ((201 : Nat) : Int))] σ
set_option maxRecDepth 20000 in
set_option maxHeartbeats 4000000 in
theorem k0_cX6 (G : jl_GC) (σ : jl_Mm) (hr0 : σ 195 0 = ((190 : Nat) : Int)) (hr2 : σ 195 2 = ((196 : Nat) : Int)) : k0_Ct G jM_X6_init [jl_vr G 200, jl_vr G 195] 201 204 σ (k0_S6 σ) := by
  refine k0_met (ls := [(0, .inl 200), (1, .inl 195)]) (plainFor_of_name rfl) (Nat.le_of_ble_eq_true rfl) rfl ?_
  refine k0_aload dX6_init_0 0 rfl ?_
  refine k0_obj jw_383 ⟨Nat.le_of_ble_eq_true rfl, Nat.le_of_ble_eq_true rfl⟩ (fun _ => Nat.le_of_ble_eq_true rfl) dX6_init_1 ?_
  refine k0_aload dX6_init_4 0 rfl ?_
  refine k0_bipush dX6_init_5 (by decide) ?_
  refine k0_ni (nx := 201) (ce := 0) (sl := 0) (N := 48) jk_201 rfl (Nat.le_of_ble_eq_true rfl) ⟨Nat.le_of_ble_eq_true rfl, Nat.le_of_ble_eq_true rfl⟩ rfl dX6_init_7 ?_
  refine k0_putr (y := 201) (x := 200) (i := 3) jc_6 jk_200 (Nat.le_of_ble_eq_true rfl) (Nat.le_of_ble_eq_true rfl) (by decide +kernel) (Nat.le_of_ble_eq_true rfl) (fun _ => ⟨rfl, rfl⟩) jw_387 ⟨rfl, rfl⟩ dX6_init_9 ?_
  refine k0_aload dX6_init_12 0 rfl ?_
  refine k0_iconst dX6_init_13 ?_
  refine k0_puti (x := 200) (i := 4) jc_6 jk_200 (Nat.le_of_ble_eq_true rfl) (Nat.le_of_ble_eq_true rfl) (by decide +kernel) ⟨by decide, by decide⟩ jw_388 ⟨rfl, rfl⟩ dX6_init_14 ?_
  refine k0_aload dX6_init_17 0 rfl ?_
  refine k0_bipush dX6_init_18 (by decide) ?_
  refine k0_ni (nx := 202) (ce := 1) (sl := 48) (N := 99) jk_202 rfl (Nat.le_of_ble_eq_true rfl) ⟨Nat.le_of_ble_eq_true rfl, Nat.le_of_ble_eq_true rfl⟩ rfl dX6_init_20 ?_
  refine k0_putr (y := 202) (x := 200) (i := 5) jc_6 jk_200 (Nat.le_of_ble_eq_true rfl) (Nat.le_of_ble_eq_true rfl) (by decide +kernel) (Nat.le_of_ble_eq_true rfl) (fun _ => ⟨rfl, rfl⟩) jw_390 ⟨rfl, rfl⟩ dX6_init_22 ?_
  refine k0_aload dX6_init_25 0 rfl ?_
  refine k0_iconst dX6_init_26 ?_
  refine k0_puti (x := 200) (i := 6) jc_6 jk_200 (Nat.le_of_ble_eq_true rfl) (Nat.le_of_ble_eq_true rfl) (by decide +kernel) ⟨by decide, by decide⟩ jw_392 ⟨rfl, rfl⟩ dX6_init_27 ?_
  refine k0_aload dX6_init_30 0 rfl ?_
  refine k0_sipush dX6_init_31 (by decide) ?_
  refine k0_ni (nx := 203) (ce := 2) (sl := 147) (N := 1620) jk_203 rfl (Nat.le_of_ble_eq_true rfl) ⟨Nat.le_of_ble_eq_true rfl, Nat.le_of_ble_eq_true rfl⟩ rfl dX6_init_34 ?_
  refine k0_putr (y := 203) (x := 200) (i := 7) jc_6 jk_200 (Nat.le_of_ble_eq_true rfl) (Nat.le_of_ble_eq_true rfl) (by decide +kernel) (Nat.le_of_ble_eq_true rfl) (fun _ => ⟨rfl, rfl⟩) jw_394 ⟨rfl, rfl⟩ dX6_init_36 ?_
  refine k0_aload dX6_init_39 0 rfl ?_
  refine k0_iconst dX6_init_40 ?_
  refine k0_puti (x := 200) (i := 8) jc_6 jk_200 (Nat.le_of_ble_eq_true rfl) (Nat.le_of_ble_eq_true rfl) (by decide +kernel) ⟨by decide, by decide⟩ jw_395 ⟨rfl, rfl⟩ dX6_init_41 ?_
  refine k0_aload dX6_init_44 0 rfl ?_
  refine k0_iconst dX6_init_45 ?_
  refine k0_puti (x := 200) (i := 9) jc_6 jk_200 (Nat.le_of_ble_eq_true rfl) (Nat.le_of_ble_eq_true rfl) (by decide +kernel) ⟨by decide, by decide⟩ jw_397 ⟨rfl, rfl⟩ dX6_init_46 ?_
  refine k0_aload dX6_init_49 0 rfl ?_
  refine k0_iconst dX6_init_50 ?_
  refine k0_puti (x := 200) (i := 10) jc_6 jk_200 (Nat.le_of_ble_eq_true rfl) (Nat.le_of_ble_eq_true rfl) (by decide +kernel) ⟨by decide, by decide⟩ jw_399 ⟨rfl, rfl⟩ dX6_init_51 ?_
  refine k0_aload dX6_init_54 0 rfl ?_
  refine k0_aload dX6_init_55 1 rfl ?_
  refine k0_putr (y := 195) (x := 200) (i := 0) jc_6 jk_200 (Nat.le_of_ble_eq_true rfl) (Nat.le_of_ble_eq_true rfl) (by decide +kernel) (Nat.le_of_ble_eq_true rfl) (fun _ => ⟨rfl, rfl⟩) jw_384 ⟨rfl, rfl⟩ dX6_init_56 ?_
  refine k0_aload dX6_init_59 0 rfl ?_
  refine k0_aload dX6_init_60 1 rfl ?_
  refine k0_getrN (x := 195) (y := 190) (i := 0) jc_1 jk_195 (Nat.le_of_ble_eq_true rfl) (Nat.le_of_ble_eq_true rfl) (by decide +kernel) hr0 jw_347 dX6_init_61 ?_
  refine k0_putr (y := 190) (x := 200) (i := 1) jc_6 jk_200 (Nat.le_of_ble_eq_true rfl) (Nat.le_of_ble_eq_true rfl) (by decide +kernel) (Nat.le_of_ble_eq_true rfl) (fun _ => ⟨rfl, rfl⟩) jw_385 ⟨rfl, rfl⟩ dX6_init_64 ?_
  refine k0_aload dX6_init_67 0 rfl ?_
  refine k0_aload dX6_init_68 1 rfl ?_
  refine k0_getrN (x := 195) (y := 196) (i := 2) jc_1 jk_195 (Nat.le_of_ble_eq_true rfl) (Nat.le_of_ble_eq_true rfl) (by decide +kernel) hr2 jw_350 dX6_init_69 ?_
  refine k0_putr (y := 196) (x := 200) (i := 2) jc_6 jk_200 (Nat.le_of_ble_eq_true rfl) (Nat.le_of_ble_eq_true rfl) (by decide +kernel) (Nat.le_of_ble_eq_true rfl) (fun _ => ⟨rfl, rfl⟩) jw_386 ⟨rfl, rfl⟩ dX6_init_72 ?_
  exact k0_ret rfl dX6_init_75
