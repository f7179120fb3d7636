/-! LieCandles.<init> (by ctor_gen.py) -/
def k0_X11m1 (σ : jl_Mm) : jl_Mm := (k0_ml [(0, 2, ((8 : Nat) : Int))] (k0_S8 8 (k0_ml [(0, 1, ((3 : Nat) : Int))] (k0_S0 3 (k0_ml [(0, 0, ((1 : Nat) : Int))] (k0_S10 σ))))))
set_option maxRecDepth 20000 in
set_option maxHeartbeats 4000000 in
theorem k0_X11s1 {G0 : jl_GC} {σ : jl_Mm} {o : jl_O} (k : k0_J G0 1 jM_X11_init (k0_E G0 jM_X11_init 1 206) 23 22 4955 37 [(0, .inl 0)] [] (k0_X11m1 σ) o) : k0_J G0 1 jM_X11_init (k0_E G0 jM_X11_init 1 206) 1 0 0 0 [(0, .inl 0)] [] σ o := by
  refine k0_aload dX11_init_0 0 rfl ?_
  refine k0_obj jw_26 ⟨Nat.le_of_ble_eq_true rfl, Nat.le_of_ble_eq_true rfl⟩ (fun _ => Nat.le_of_ble_eq_true rfl) dX11_init_1 ?_
  refine k0_aload dX11_init_4 0 rfl ?_
  refine k0_new (nx := 1) (ce := 0) (sl := 0) jc_10 jk_1 jw_29 jw_30 jw_2 k0_dv10 ⟨Nat.le_of_ble_eq_true rfl, Nat.le_of_ble_eq_true rfl⟩ rfl dX11_init_5 ?_
  refine k0_dup dX11_init_8 ?_
  refine k0_callN (nx := 2) (ce := 1) (sl := 2) (Y := jM_X10_init) (x := 1) (nf := 3) (As := []) (fun G => k0_cX10 G _) jv_X10_init jw_31 ⟨Nat.le_of_ble_eq_true rfl, Nat.le_of_ble_eq_true rfl⟩ rfl rfl (fun _ => Nat.le_of_ble_eq_true rfl) ⟨Nat.le_of_ble_eq_true rfl, Nat.le_of_ble_eq_true rfl⟩ dX11_init_9 ?_
  refine k0_putr (y := 1) (x := 0) (i := 0) jc_11 jk_0 (Nat.le_of_ble_eq_true rfl) (Nat.le_of_ble_eq_true rfl) (by decide +kernel) (Nat.le_of_ble_eq_true rfl) (fun _ => ⟨rfl, rfl⟩) jw_424 ⟨rfl, rfl⟩ dX11_init_12 ?_
  refine k0_aload dX11_init_15 0 rfl ?_
  refine k0_new (nx := 3) (ce := 2) (sl := 1602) jc_0 jk_3 jw_48 jw_49 jw_3 k0_dv0 ⟨Nat.le_of_ble_eq_true rfl, Nat.le_of_ble_eq_true rfl⟩ rfl dX11_init_16 ?_
  refine k0_dup dX11_init_19 ?_
  refine k0_callN (nx := 4) (ce := 3) (sl := 1608) (Y := jM_X0_init) (x := 3) (nf := 8) (As := []) (fun G => k0_cX0 G 3 _ jk_3 jk_4 jk_5 jk_6 jk_7) jv_X0_init jw_50 ⟨Nat.le_of_ble_eq_true rfl, Nat.le_of_ble_eq_true rfl⟩ rfl rfl (fun _ => Nat.le_of_ble_eq_true rfl) ⟨Nat.le_of_ble_eq_true rfl, Nat.le_of_ble_eq_true rfl⟩ dX11_init_20 ?_
  refine k0_putr (y := 3) (x := 0) (i := 1) jc_11 jk_0 (Nat.le_of_ble_eq_true rfl) (Nat.le_of_ble_eq_true rfl) (by decide +kernel) (Nat.le_of_ble_eq_true rfl) (fun _ => ⟨rfl, rfl⟩) jw_425 ⟨rfl, rfl⟩ dX11_init_23 ?_
  refine k0_aload dX11_init_26 0 rfl ?_
  refine k0_new (nx := 8) (ce := 7) (sl := 3225) jc_8 jk_8 jw_77 jw_78 jw_4 k0_dv8 ⟨Nat.le_of_ble_eq_true rfl, Nat.le_of_ble_eq_true rfl⟩ rfl dX11_init_27 ?_
  refine k0_dup dX11_init_30 ?_
  refine k0_callN (nx := 9) (ce := 8) (sl := 3242) (Y := jM_X8_init) (x := 8) (nf := 23) (As := []) (fun G => k0_cX8 G 8 _ jk_8 jk_9 jk_10 jk_11 jk_12 jk_13 jk_14 jk_15 jk_16 jk_17 jk_18 jk_19 jk_20 jk_21 jk_22) jv_X8_init jw_79 ⟨Nat.le_of_ble_eq_true rfl, Nat.le_of_ble_eq_true rfl⟩ rfl rfl (fun _ => Nat.le_of_ble_eq_true rfl) ⟨Nat.le_of_ble_eq_true rfl, Nat.le_of_ble_eq_true rfl⟩ dX11_init_31 ?_
  refine k0_putr (y := 8) (x := 0) (i := 2) jc_11 jk_0 (Nat.le_of_ble_eq_true rfl) (Nat.le_of_ble_eq_true rfl) (by decide +kernel) (Nat.le_of_ble_eq_true rfl) (fun _ => ⟨rfl, rfl⟩) jw_426 ⟨rfl, rfl⟩ dX11_init_34 ?_
  exact k
def k0_X11m2 (σ : jl_Mm) : jl_Mm := (k0_ml [(0, 4, ((38 : Nat) : Int))] (k0_S4 (k0_ml [(0, 3, ((23 : Nat) : Int))] (k0_S8 23 σ))))
set_option maxRecDepth 20000 in
set_option maxHeartbeats 4000000 in
theorem k0_X11s2 {G0 : jl_GC} {σ : jl_Mm} {o : jl_O} (hr0_0 : σ 0 0 = ((1 : Nat) : Int)) (hr0_1 : σ 0 1 = ((3 : Nat) : Int)) (k : k0_J G0 1 jM_X11_init (k0_E G0 jM_X11_init 1 206) 39 38 6694 67 [(0, .inl 0)] [] (k0_X11m2 σ) o) : k0_J G0 1 jM_X11_init (k0_E G0 jM_X11_init 1 206) 23 22 4955 37 [(0, .inl 0)] [] σ o := by
  refine k0_aload dX11_init_37 0 rfl ?_
  refine k0_new (nx := 23) (ce := 22) (sl := 4955) jc_8 jk_23 jw_77 jw_78 jw_4 k0_dv8 ⟨Nat.le_of_ble_eq_true rfl, Nat.le_of_ble_eq_true rfl⟩ rfl dX11_init_38 ?_
  refine k0_dup dX11_init_41 ?_
  refine k0_callN (nx := 24) (ce := 23) (sl := 4972) (Y := jM_X8_init) (x := 23) (nf := 38) (As := []) (fun G => k0_cX8 G 23 _ jk_23 jk_24 jk_25 jk_26 jk_27 jk_28 jk_29 jk_30 jk_31 jk_32 jk_33 jk_34 jk_35 jk_36 jk_37) jv_X8_init jw_79 ⟨Nat.le_of_ble_eq_true rfl, Nat.le_of_ble_eq_true rfl⟩ rfl rfl (fun _ => Nat.le_of_ble_eq_true rfl) ⟨Nat.le_of_ble_eq_true rfl, Nat.le_of_ble_eq_true rfl⟩ dX11_init_42 ?_
  refine k0_putr (y := 23) (x := 0) (i := 3) jc_11 jk_0 (Nat.le_of_ble_eq_true rfl) (Nat.le_of_ble_eq_true rfl) (by decide +kernel) (Nat.le_of_ble_eq_true rfl) (fun _ => ⟨rfl, rfl⟩) jw_427 ⟨rfl, rfl⟩ dX11_init_45 ?_
  refine k0_aload dX11_init_48 0 rfl ?_
  refine k0_new (nx := 38) (ce := 37) (sl := 6685) jc_4 jk_38 jw_179 jw_180 jw_5 k0_dv4 ⟨Nat.le_of_ble_eq_true rfl, Nat.le_of_ble_eq_true rfl⟩ rfl dX11_init_49 ?_
  refine k0_dup dX11_init_52 ?_
  refine k0_aload dX11_init_53 0 rfl ?_
  refine k0_getr (x := 0) (y := 1) (i := 0) jc_11 jk_0 (Nat.le_of_ble_eq_true rfl) (Nat.le_of_ble_eq_true rfl) (by decide +kernel) hr0_0 jw_424 dX11_init_54 ?_
  refine k0_aload dX11_init_57 0 rfl ?_
  refine k0_getr (x := 0) (y := 3) (i := 1) jc_11 jk_0 (Nat.le_of_ble_eq_true rfl) (Nat.le_of_ble_eq_true rfl) (by decide +kernel) hr0_1 jw_425 dX11_init_58 ?_
  refine k0_call (nx := 39) (ce := 38) (sl := 6694) (Y := jM_X4_init) (x := 38) (nf := 39) (As := [.inl 1, .inl 3]) (fun G => k0_cX4 G _) jv_X4_init jw_181 ⟨Nat.le_of_ble_eq_true rfl, Nat.le_of_ble_eq_true rfl⟩ rfl rfl (fun _ => Nat.le_of_ble_eq_true rfl) ⟨Nat.le_of_ble_eq_true rfl, Nat.le_of_ble_eq_true rfl⟩ dX11_init_61 ?_
  refine k0_putr (y := 38) (x := 0) (i := 4) jc_11 jk_0 (Nat.le_of_ble_eq_true rfl) (Nat.le_of_ble_eq_true rfl) (by decide +kernel) (Nat.le_of_ble_eq_true rfl) (fun _ => ⟨rfl, rfl⟩) jw_428 ⟨rfl, rfl⟩ dX11_init_64 ?_
  exact k
def k0_X11m3 (σ : jl_Mm) : jl_Mm := (k0_ml [(0, 6, ((40 : Nat) : Int))] (k0_S7 40 (k0_ml [(0, 5, ((39 : Nat) : Int))] (k0_S9 σ))))
set_option maxRecDepth 20000 in
set_option maxHeartbeats 4000000 in
theorem k0_X11s3 {G0 : jl_GC} {σ : jl_Mm} {o : jl_O} (hr0_4 : σ 0 4 = ((38 : Nat) : Int)) (hr0_3 : σ 0 3 = ((23 : Nat) : Int)) (k : k0_J G0 1 jM_X11_init (k0_E G0 jM_X11_init 1 206) 44 43 6723 97 [(0, .inl 0)] [] (k0_X11m3 σ) o) : k0_J G0 1 jM_X11_init (k0_E G0 jM_X11_init 1 206) 39 38 6694 67 [(0, .inl 0)] [] σ o := by
  refine k0_aload dX11_init_67 0 rfl ?_
  refine k0_new (nx := 39) (ce := 38) (sl := 6694) jc_9 jk_39 jw_218 jw_219 jw_6 k0_dv9 ⟨Nat.le_of_ble_eq_true rfl, Nat.le_of_ble_eq_true rfl⟩ rfl dX11_init_68 ?_
  refine k0_dup dX11_init_71 ?_
  refine k0_aload dX11_init_72 0 rfl ?_
  refine k0_getr (x := 0) (y := 38) (i := 4) jc_11 jk_0 (Nat.le_of_ble_eq_true rfl) (Nat.le_of_ble_eq_true rfl) (by decide +kernel) hr0_4 jw_428 dX11_init_73 ?_
  refine k0_aload dX11_init_76 0 rfl ?_
  refine k0_getr (x := 0) (y := 23) (i := 3) jc_11 jk_0 (Nat.le_of_ble_eq_true rfl) (Nat.le_of_ble_eq_true rfl) (by decide +kernel) hr0_3 jw_427 dX11_init_77 ?_
  refine k0_call (nx := 40) (ce := 39) (sl := 6696) (Y := jM_X9_init) (x := 39) (nf := 40) (As := [.inl 38, .inl 23]) (fun G => k0_cX9 G _) jv_X9_init jw_220 ⟨Nat.le_of_ble_eq_true rfl, Nat.le_of_ble_eq_true rfl⟩ rfl rfl (fun _ => Nat.le_of_ble_eq_true rfl) ⟨Nat.le_of_ble_eq_true rfl, Nat.le_of_ble_eq_true rfl⟩ dX11_init_80 ?_
  refine k0_putr (y := 39) (x := 0) (i := 5) jc_11 jk_0 (Nat.le_of_ble_eq_true rfl) (Nat.le_of_ble_eq_true rfl) (by decide +kernel) (Nat.le_of_ble_eq_true rfl) (fun _ => ⟨rfl, rfl⟩) jw_429 ⟨rfl, rfl⟩ dX11_init_83 ?_
  refine k0_aload dX11_init_86 0 rfl ?_
  refine k0_new (nx := 40) (ce := 39) (sl := 6696) jc_7 jk_40 jw_231 jw_232 jw_7 k0_dv7 ⟨Nat.le_of_ble_eq_true rfl, Nat.le_of_ble_eq_true rfl⟩ rfl dX11_init_87 ?_
  refine k0_dup dX11_init_90 ?_
  refine k0_callN (nx := 41) (ce := 40) (sl := 6701) (Y := jM_X7_init) (x := 40) (nf := 44) (As := []) (fun G => k0_cX7 G 40 _ jk_40 jk_41 jk_42 jk_43) jv_X7_init jw_233 ⟨Nat.le_of_ble_eq_true rfl, Nat.le_of_ble_eq_true rfl⟩ rfl rfl (fun _ => Nat.le_of_ble_eq_true rfl) ⟨Nat.le_of_ble_eq_true rfl, Nat.le_of_ble_eq_true rfl⟩ dX11_init_91 ?_
  refine k0_putr (y := 40) (x := 0) (i := 6) jc_11 jk_0 (Nat.le_of_ble_eq_true rfl) (Nat.le_of_ble_eq_true rfl) (by decide +kernel) (Nat.le_of_ble_eq_true rfl) (fun _ => ⟨rfl, rfl⟩) jw_430 ⟨rfl, rfl⟩ dX11_init_94 ?_
  exact k
def k0_X11m4 (σ : jl_Mm) : jl_Mm := (k0_ml [(0, 9, ((190 : Nat) : Int))] (k0_S5 (k0_ml [(0, 8, ((47 : Nat) : Int))] (k0_S3 (k0_ml [(0, 7, ((44 : Nat) : Int))] (k0_S2 44 σ))))))
set_option maxRecDepth 20000 in
set_option maxHeartbeats 4000000 in
theorem k0_X11s4 {G0 : jl_GC} {σ : jl_Mm} {o : jl_O} (hr0_2 : σ 0 2 = ((8 : Nat) : Int)) (k : k0_J G0 1 jM_X11_init (k0_E G0 jM_X11_init 1 206) 195 194 9266 134 [(0, .inl 0)] [] (k0_X11m4 σ) o) : k0_J G0 1 jM_X11_init (k0_E G0 jM_X11_init 1 206) 44 43 6723 97 [(0, .inl 0)] [] σ o := by
  refine k0_aload dX11_init_97 0 rfl ?_
  refine k0_new (nx := 44) (ce := 43) (sl := 6723) jc_2 jk_44 jw_267 jw_268 jw_8 k0_dv2 ⟨Nat.le_of_ble_eq_true rfl, Nat.le_of_ble_eq_true rfl⟩ rfl dX11_init_98 ?_
  refine k0_dup dX11_init_101 ?_
  refine k0_callN (nx := 45) (ce := 44) (sl := 6727) (Y := jM_X2_init) (x := 44) (nf := 47) (As := []) (fun G => k0_cX2 G 44 _ jk_44 jk_45 jk_46) jv_X2_init jw_269 ⟨Nat.le_of_ble_eq_true rfl, Nat.le_of_ble_eq_true rfl⟩ rfl rfl (fun _ => Nat.le_of_ble_eq_true rfl) ⟨Nat.le_of_ble_eq_true rfl, Nat.le_of_ble_eq_true rfl⟩ dX11_init_102 ?_
  refine k0_putr (y := 44) (x := 0) (i := 7) jc_11 jk_0 (Nat.le_of_ble_eq_true rfl) (Nat.le_of_ble_eq_true rfl) (by decide +kernel) (Nat.le_of_ble_eq_true rfl) (fun _ => ⟨rfl, rfl⟩) jw_431 ⟨rfl, rfl⟩ dX11_init_105 ?_
  refine k0_aload dX11_init_108 0 rfl ?_
  refine k0_new (nx := 47) (ce := 46) (sl := 6807) jc_3 jk_47 jw_287 jw_288 jw_9 k0_dv3 ⟨Nat.le_of_ble_eq_true rfl, Nat.le_of_ble_eq_true rfl⟩ rfl dX11_init_109 ?_
  refine k0_dup dX11_init_112 ?_
  refine k0_call (nx := 48) (ce := 47) (sl := 6811) (Y := jM_X3_init) (x := 47) (nf := 190) (As := []) (fun G => k0_cX3 G _) jv_X3_init jw_289 ⟨Nat.le_of_ble_eq_true rfl, Nat.le_of_ble_eq_true rfl⟩ rfl rfl (fun _ => Nat.le_of_ble_eq_true rfl) ⟨Nat.le_of_ble_eq_true rfl, Nat.le_of_ble_eq_true rfl⟩ dX11_init_113 ?_
  refine k0_putr (y := 47) (x := 0) (i := 8) jc_11 jk_0 (Nat.le_of_ble_eq_true rfl) (Nat.le_of_ble_eq_true rfl) (by decide +kernel) (Nat.le_of_ble_eq_true rfl) (fun _ => ⟨rfl, rfl⟩) jw_432 ⟨rfl, rfl⟩ dX11_init_116 ?_
  refine k0_aload dX11_init_119 0 rfl ?_
  refine k0_new (nx := 190) (ce := 189) (sl := 9071) jc_5 jk_190 jw_313 jw_314 jw_10 k0_dv5 ⟨Nat.le_of_ble_eq_true rfl, Nat.le_of_ble_eq_true rfl⟩ rfl dX11_init_120 ?_
  refine k0_dup dX11_init_123 ?_
  refine k0_aload dX11_init_124 0 rfl ?_
  refine k0_getr (x := 0) (y := 8) (i := 2) jc_11 jk_0 (Nat.le_of_ble_eq_true rfl) (Nat.le_of_ble_eq_true rfl) (by decide +kernel) hr0_2 jw_426 dX11_init_125 ?_
  refine k0_call (nx := 191) (ce := 190) (sl := 9076) (Y := jM_X5_init) (x := 190) (nf := 195) (As := [.inl 8]) (fun G => k0_cX5 G _) jv_X5_init jw_315 ⟨Nat.le_of_ble_eq_true rfl, Nat.le_of_ble_eq_true rfl⟩ rfl rfl (fun _ => Nat.le_of_ble_eq_true rfl) ⟨Nat.le_of_ble_eq_true rfl, Nat.le_of_ble_eq_true rfl⟩ dX11_init_128 ?_
  refine k0_putr (y := 190) (x := 0) (i := 9) jc_11 jk_0 (Nat.le_of_ble_eq_true rfl) (Nat.le_of_ble_eq_true rfl) (by decide +kernel) (Nat.le_of_ble_eq_true rfl) (fun _ => ⟨rfl, rfl⟩) jw_433 ⟨rfl, rfl⟩ dX11_init_131 ?_
  exact k
def k0_X11m5 (σ : jl_Mm) : jl_Mm := (k0_ml [(0, 11, ((200 : Nat) : Int))] (k0_S6 (k0_ml [(0, 10, ((195 : Nat) : Int))] (k0_S1 σ))))
set_option maxRecDepth 20000 in
set_option maxHeartbeats 4000000 in
theorem k0_X11s5 {G0 : jl_GC} {σ : jl_Mm} {o : jl_O} (hr0_9 : σ 0 9 = ((190 : Nat) : Int)) (hr0_6 : σ 0 6 = ((40 : Nat) : Int)) (k : k0_J G0 1 jM_X11_init (k0_E G0 jM_X11_init 1 206) 204 203 11079 168 [(0, .inl 0)] [] (k0_X11m5 σ) o) : k0_J G0 1 jM_X11_init (k0_E G0 jM_X11_init 1 206) 195 194 9266 134 [(0, .inl 0)] [] σ o := by
  refine k0_aload dX11_init_134 0 rfl ?_
  refine k0_new (nx := 195) (ce := 194) (sl := 9266) jc_1 jk_195 jw_338 jw_339 jw_11 k0_dv1 ⟨Nat.le_of_ble_eq_true rfl, Nat.le_of_ble_eq_true rfl⟩ rfl dX11_init_135 ?_
  refine k0_dup dX11_init_138 ?_
  refine k0_aload dX11_init_139 0 rfl ?_
  refine k0_getr (x := 0) (y := 190) (i := 9) jc_11 jk_0 (Nat.le_of_ble_eq_true rfl) (Nat.le_of_ble_eq_true rfl) (by decide +kernel) hr0_9 jw_433 dX11_init_140 ?_
  refine k0_aload dX11_init_143 0 rfl ?_
  refine k0_getr (x := 0) (y := 40) (i := 6) jc_11 jk_0 (Nat.le_of_ble_eq_true rfl) (Nat.le_of_ble_eq_true rfl) (by decide +kernel) hr0_6 jw_430 dX11_init_144 ?_
  refine k0_call (nx := 196) (ce := 195) (sl := 9274) (Y := jM_X1_init) (x := 195) (nf := 200) (As := [.inl 190, .inl 40]) (fun G => k0_cX1 G _) jv_X1_init jw_340 ⟨Nat.le_of_ble_eq_true rfl, Nat.le_of_ble_eq_true rfl⟩ rfl rfl (fun _ => Nat.le_of_ble_eq_true rfl) ⟨Nat.le_of_ble_eq_true rfl, Nat.le_of_ble_eq_true rfl⟩ dX11_init_147 ?_
  refine k0_putr (y := 195) (x := 0) (i := 10) jc_11 jk_0 (Nat.le_of_ble_eq_true rfl) (Nat.le_of_ble_eq_true rfl) (by decide +kernel) (Nat.le_of_ble_eq_true rfl) (fun _ => ⟨rfl, rfl⟩) jw_434 ⟨rfl, rfl⟩ dX11_init_150 ?_
  refine k0_aload dX11_init_153 0 rfl ?_
  refine k0_new (nx := 200) (ce := 199) (sl := 9301) jc_6 jk_200 jw_378 jw_379 jw_12 k0_dv6 ⟨Nat.le_of_ble_eq_true rfl, Nat.le_of_ble_eq_true rfl⟩ rfl dX11_init_154 ?_
  refine k0_dup dX11_init_157 ?_
  refine k0_aload dX11_init_158 0 rfl ?_
  refine k0_getr (x := 0) (y := 195) (i := 10) jc_11 jk_0 (Nat.le_of_ble_eq_true rfl) (Nat.le_of_ble_eq_true rfl) (by decide +kernel) rfl jw_434 dX11_init_159 ?_
  refine k0_call (nx := 201) (ce := 200) (sl := 9312) (Y := jM_X6_init) (x := 200) (nf := 204) (As := [.inl 195]) (fun G => k0_cX6 G _ rfl rfl) jv_X6_init jw_380 ⟨Nat.le_of_ble_eq_true rfl, Nat.le_of_ble_eq_true rfl⟩ rfl rfl (fun _ => Nat.le_of_ble_eq_true rfl) ⟨Nat.le_of_ble_eq_true rfl, Nat.le_of_ble_eq_true rfl⟩ dX11_init_162 ?_
  refine k0_putr (y := 200) (x := 0) (i := 11) jc_11 jk_0 (Nat.le_of_ble_eq_true rfl) (Nat.le_of_ble_eq_true rfl) (by decide +kernel) (Nat.le_of_ble_eq_true rfl) (fun _ => ⟨rfl, rfl⟩) jw_435 ⟨rfl, rfl⟩ dX11_init_165 ?_
  exact k
def k0_X11m6 (σ : jl_Mm) : jl_Mm := (k0_ml [(0, 15, 0), (0, 14, ((205 : Nat) : Int)), (0, 13, 0), (0, 12, ((204 : Nat) : Int))] σ)
set_option maxRecDepth 20000 in
set_option maxHeartbeats 4000000 in
theorem k0_X11s6 {G0 : jl_GC} {σ : jl_Mm} {o : jl_O} (k : k0_J G0 1 jM_X11_init (k0_E G0 jM_X11_init 1 206) 206 205 11112 194 [(0, .inl 0)] [] (k0_X11m6 σ) o) : k0_J G0 1 jM_X11_init (k0_E G0 jM_X11_init 1 206) 204 203 11079 168 [(0, .inl 0)] [] σ o := by
  refine k0_aload dX11_init_168 0 rfl ?_
  refine k0_bipush dX11_init_169 (by decide) ?_
  refine k0_ni (nx := 204) (ce := 203) (sl := 11079) (N := 27) jk_204 rfl (Nat.le_of_ble_eq_true rfl) ⟨Nat.le_of_ble_eq_true rfl, Nat.le_of_ble_eq_true rfl⟩ rfl dX11_init_171 ?_
  refine k0_putr (y := 204) (x := 0) (i := 12) jc_11 jk_0 (Nat.le_of_ble_eq_true rfl) (Nat.le_of_ble_eq_true rfl) (by decide +kernel) (Nat.le_of_ble_eq_true rfl) (fun _ => ⟨rfl, rfl⟩) jw_436 ⟨rfl, rfl⟩ dX11_init_173 ?_
  refine k0_aload dX11_init_176 0 rfl ?_
  refine k0_iconst dX11_init_177 ?_
  refine k0_puti (x := 0) (i := 13) jc_11 jk_0 (Nat.le_of_ble_eq_true rfl) (Nat.le_of_ble_eq_true rfl) (by decide +kernel) ⟨by decide, by decide⟩ jw_437 ⟨rfl, rfl⟩ dX11_init_178 ?_
  refine k0_aload dX11_init_181 0 rfl ?_
  refine k0_bipush dX11_init_182 (by decide) ?_
  refine k0_ni (nx := 205) (ce := 204) (sl := 11106) (N := 6) jk_205 rfl (Nat.le_of_ble_eq_true rfl) ⟨Nat.le_of_ble_eq_true rfl, Nat.le_of_ble_eq_true rfl⟩ rfl dX11_init_184 ?_
  refine k0_putr (y := 205) (x := 0) (i := 14) jc_11 jk_0 (Nat.le_of_ble_eq_true rfl) (Nat.le_of_ble_eq_true rfl) (by decide +kernel) (Nat.le_of_ble_eq_true rfl) (fun _ => ⟨rfl, rfl⟩) jw_438 ⟨rfl, rfl⟩ dX11_init_186 ?_
  refine k0_aload dX11_init_189 0 rfl ?_
  refine k0_iconst dX11_init_190 ?_
  refine k0_puti (x := 0) (i := 15) jc_11 jk_0 (Nat.le_of_ble_eq_true rfl) (Nat.le_of_ble_eq_true rfl) (by decide +kernel) ⟨by decide, by decide⟩ jw_439 ⟨rfl, rfl⟩ dX11_init_191 ?_
  exact k
def k0_X11m7 (σ : jl_Mm) : jl_Mm := (k0_ml [(0, 17, 1), (0, 16, (-1))] σ)
set_option maxRecDepth 20000 in
set_option maxHeartbeats 4000000 in
theorem k0_X11s7 {G0 : jl_GC} {σ : jl_Mm} {o : jl_O} (k : k0_J G0 1 jM_X11_init (k0_E G0 jM_X11_init 1 206) 206 205 11112 204 [(0, .inl 0)] [] (k0_X11m7 σ) o) : k0_J G0 1 jM_X11_init (k0_E G0 jM_X11_init 1 206) 206 205 11112 194 [(0, .inl 0)] [] σ o := by
  refine k0_aload dX11_init_194 0 rfl ?_
  refine k0_iconst dX11_init_195 ?_
  refine k0_puti (x := 0) (i := 16) jc_11 jk_0 (Nat.le_of_ble_eq_true rfl) (Nat.le_of_ble_eq_true rfl) (by decide +kernel) ⟨by decide, by decide⟩ jw_440 ⟨rfl, rfl⟩ dX11_init_196 ?_
  refine k0_aload dX11_init_199 0 rfl ?_
  refine k0_iconst dX11_init_200 ?_
  refine k0_puti (x := 0) (i := 17) jc_11 jk_0 (Nat.le_of_ble_eq_true rfl) (Nat.le_of_ble_eq_true rfl) (by decide +kernel) ⟨by decide, by decide⟩ jw_441 ⟨rfl, rfl⟩ dX11_init_201 ?_
  exact k
def k0_X11m (σ : jl_Mm) : jl_Mm := (k0_X11m7 (k0_X11m6 (k0_X11m5 (k0_X11m4 (k0_X11m3 (k0_X11m2 (k0_X11m1 σ)))))))
set_option maxRecDepth 20000 in
set_option maxHeartbeats 4000000 in
theorem k0_cX11 (G : jl_GC) (σ : jl_Mm) : k0_Ct G jM_X11_init [jl_vr G 0] 1 206 σ (k0_X11m σ) := by
  refine k0_met (ls := [(0, .inl 0)]) (plainFor_of_name rfl) (Nat.le_of_ble_eq_true rfl) rfl ?_
  refine k0_X11s1 ?_
  refine k0_X11s2 rfl rfl ?_
  refine k0_X11s3 rfl rfl ?_
  refine k0_X11s4 rfl ?_
  refine k0_X11s5 rfl rfl ?_
  refine k0_X11s6 ?_
  refine k0_X11s7 ?_
  exact k0_ret rfl dX11_init_204
