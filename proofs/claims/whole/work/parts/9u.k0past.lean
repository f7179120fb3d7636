/-! LieCandles$Past.<init>: twenty States and Logs -/
theorem k0_S7_ne {x c : Nat} {σ : jl_Mm} (h : c ≠ x) : k0_S7 x σ c = σ c := by
  simp only [k0_S7, k0_ml]
  rw [jl_up_ne c h, jl_up_ne c h, jl_up_ne c h, jl_up_ne c h, jl_up_ne c h]
theorem k0_S2_ne {x c : Nat} {σ : jl_Mm} (h : c ≠ x) : k0_S2 x σ c = σ c := by
  simp only [k0_S2, k0_ml]
  rw [jl_up_ne c h, jl_up_ne c h, jl_up_ne c h, jl_up_ne c h]
def k0_p1 (i : Nat) (σ : jl_Mm) : jl_Mm := jl_up (k0_S2 (54 + 7 * i) (jl_up (k0_S7 (50 + 7 * i) σ) 48 i ((50 + 7 * i : Nat) : Int))) 49 i ((54 + 7 * i : Nat) : Int)
def k0_pm : Nat → jl_Mm → jl_Mm
  | 0, σ => σ
  | n + 1, σ => k0_p1 n (k0_pm n σ)
theorem k0_pkd : ∀ i, i < 20 → jl_kd (50 + 7 * i) = (7, 5) ∧ jl_kd (50 + 7 * i + 1) = (20, 6) ∧ jl_kd (50 + 7 * i + 2) = (20, 8) ∧ jl_kd (50 + 7 * i + 3) = (20, 8) ∧ jl_kd (54 + 7 * i) = (2, 4) ∧ jl_kd (54 + 7 * i + 1) = (20, 40) ∧ jl_kd (54 + 7 * i + 2) = (20, 40) := by decide +kernel
set_option maxRecDepth 20000 in
set_option maxHeartbeats 4000000 in
theorem k0_X3s {G0 : jl_GC} {E : jl_EC} {o : jl_O} {i x y ce sl : Nat} {σ : jl_Mm} (hi : i < 20) (hx : x = 50 + 7 * i) (hy : y = 54 + 7 * i) (hce : ce = 2 + 7 * i) (hsl : sl = 40 + 111 * i) (h1 : σ 47 0 = ((48 : Nat) : Int)) (h2 : σ 47 1 = ((49 : Nat) : Int)) (k : k0_J G0 48 jM_X3_init E (y + 3) (ce + 7) (sl + 111) 34 [(1, .inr (jl_vi (((i + 1 : Nat)) : Int))), (0, .inl 47)] [] (k0_p1 i σ) o) : k0_J G0 48 jM_X3_init E x ce sl 34 [(1, .inr (jl_vi ((i : Nat) : Int))), (0, .inl 47)] [] σ o := by
  obtain ⟨e0, e1, e2, e3, e4, e5, e6⟩ := k0_pkd i hi
  rw [← hx] at e0 e1 e2 e3
  rw [← hy] at e4 e5 e6
  have hxy : y = x + 4 := by omega
  have hc1 : ce + 7 ≤ 142 := by omega
  have hs1 : sl + 111 ≤ 2260 := by omega
  have h3 : jl_n3 ((i : Nat) : Int) := ⟨by omega, by omega⟩
  have hk : k0_p1 i σ = jl_up (k0_S2 y (jl_up (k0_S7 x σ) 48 i (x : Int))) 49 i (y : Int) := by rw [hx, hy]; rfl
  rw [hk] at k
  refine k0_iload dX3_init_34 0 rfl ?_
  refine k0_bipush dX3_init_35 (by decide) ?_
  refine k0_geF (t := 72) dX3_init_37 (by decide) h3 ⟨by decide, by decide⟩ (by omega) ?_
  refine k0_aload dX3_init_40 1 rfl ?_
  refine k0_getr (x := 47) (y := 48) (i := 0) jc_3 jk_47 (by omega) (Nat.le_of_ble_eq_true rfl) (by decide +kernel) h1 jw_299 dX3_init_41 ?_
  refine k0_iload dX3_init_44 0 rfl ?_
  refine k0_new (nx := x) (ce := ce) (sl := sl) jc_7 e0 jw_293 jw_232 jw_7 k0_dv7 ⟨by show ce + 1 ≤ 142; omega, by show sl + 5 ≤ 2260; omega⟩ (by simp [k0_ok, k0_okp]; omega) dX3_init_45 ?_
  refine k0_dup dX3_init_48 ?_
  refine k0_callN (nx := x + 1) (ce := ce + 1) (sl := sl + 5) (Y := jM_X7_init) (x := x) (nf := x + 4) (As := []) (fun G => k0_cX7 G x _ e0 e1 e2 e3) jv_X7_init jw_297 ⟨Nat.le_of_ble_eq_true rfl, Nat.le_of_ble_eq_true rfl⟩ rfl (by simp [k0_ok, k0_okp]; omega) (fun _ => Nat.le_of_ble_eq_true rfl) ⟨by show ce + 1 + 3 ≤ 142; omega, by show sl + 5 + 22 ≤ 2260; omega⟩ dX3_init_49 ?_
  refine k0_aast (x := 48) (y := x) (j := i) jk_48 (Or.inl ⟨rfl, rfl, rfl⟩) (by omega) e0 (by omega) h3 ⟨by omega, by omega⟩ (Int.toNat_natCast i) dX3_init_52 ?_
  refine k0_aload dX3_init_53 1 rfl ?_
  refine k0_getr (x := 47) (y := 49) (i := 1) jc_3 jk_47 (by omega) (Nat.le_of_ble_eq_true rfl) (by decide +kernel) (by rw [jl_up_ne 47 (by decide), k0_S7_ne (by omega)]; exact h2) jw_300 dX3_init_54 ?_
  refine k0_iload dX3_init_57 0 rfl ?_
  subst hxy
  refine k0_new (nx := x + 4) (ce := ce + 4) (sl := sl + 27) jc_2 e4 jw_295 jw_268 jw_8 k0_dv2 ⟨by show ce + 4 + 1 ≤ 142; omega, by show sl + 27 + 4 ≤ 2260; omega⟩ (by simp [k0_ok, k0_okp]; omega) dX3_init_58 ?_
  refine k0_dup dX3_init_61 ?_
  refine k0_callN (nx := x + 4 + 1) (ce := ce + 5) (sl := sl + 31) (Y := jM_X2_init) (x := x + 4) (nf := x + 4 + 3) (As := []) (fun G => k0_cX2 G (x + 4) _ e4 e5 e6) jv_X2_init jw_298 ⟨Nat.le_of_ble_eq_true rfl, Nat.le_of_ble_eq_true rfl⟩ rfl (by simp [k0_ok, k0_okp]; omega) (fun _ => Nat.le_of_ble_eq_true rfl) ⟨by show ce + 5 + 2 ≤ 142; omega, by show sl + 31 + 80 ≤ 2260; omega⟩ dX3_init_62 ?_
  refine k0_aast (x := 49) (y := x + 4) (j := i) jk_49 (Or.inr ⟨rfl, rfl, rfl⟩) (by omega) e4 (by omega) h3 ⟨by omega, by omega⟩ (Int.toNat_natCast i) dX3_init_65 ?_
  have h4 : jl_add ((i : Nat) : Int) 1 = (((i + 1 : Nat)) : Int) := by
    rw [jp_add (by omega) (by omega)]
    omega
  refine k0_iinc (j := 0) (lv := [(1, .inr (jl_vi (((i + 1 : Nat)) : Int))), (0, .inl 47)]) dX3_init_66 rfl (Nat.le_of_ble_eq_true rfl) (fun G => by rw [h4]; rfl) ?_
  refine k0_goto (t := 34) dX3_init_69 (by decide) ?_
  exact k
theorem k0_pm_ne {c : Nat} (hc : c < 48) : ∀ n σ, k0_pm n σ c = σ c := by
  intro n
  induction n with
  | zero => intro σ; rfl
  | succ n ih =>
    intro σ
    show k0_p1 n (k0_pm n σ) c = σ c
    rw [k0_p1, jl_up_ne c (by omega), k0_S2_ne (by omega), jl_up_ne c (by omega), k0_S7_ne (by omega), ih]
theorem k0_X3L {G0 : jl_GC} {E : jl_EC} {o : jl_O} {σ : jl_Mm} (h1 : σ 47 0 = ((48 : Nat) : Int)) (h2 : σ 47 1 = ((49 : Nat) : Int)) (k : k0_J G0 48 jM_X3_init E 190 142 2260 34 [(1, .inr (jl_vi ((20 : Nat) : Int))), (0, .inl 47)] [] (k0_pm 20 σ) o) : ∀ m i, i + m = 20 → k0_J G0 48 jM_X3_init E (50 + 7 * i) (2 + 7 * i) (40 + 111 * i) 34 [(1, .inr (jl_vi ((i : Nat) : Int))), (0, .inl 47)] [] (k0_pm i σ) o := by
  intro m
  induction m with
  | zero =>
    intro i hi
    have : i = 20 := by omega
    subst this
    exact k
  | succ m ih =>
    intro i hi
    refine k0_X3s (y := 54 + 7 * i) (by omega) rfl rfl rfl rfl (by rw [k0_pm_ne (by omega)]; exact h1) (by rw [k0_pm_ne (by omega)]; exact h2) ?_
    have z := ih (i + 1) (by omega)
    rw [show 50 + 7 * (i + 1) = 54 + 7 * i + 3 by omega, show 2 + 7 * (i + 1) = 2 + 7 * i + 7 by omega, show 40 + 111 * (i + 1) = 40 + 111 * i + 111 by omega] at z
    exact z
def k0_S3 (σ : jl_Mm) : jl_Mm := k0_pm 20 (k0_ml [(47, 3, 0), (47, 2, 0), (47, 1, ((49 : Nat) : Int)), (47, 0, ((48 : Nat) : Int))] σ)
set_option maxRecDepth 20000 in
set_option maxHeartbeats 4000000 in
theorem k0_cX3 (G : jl_GC) (σ : jl_Mm) : k0_Ct G jM_X3_init [jl_vr G 47] 48 190 σ (k0_S3 σ) := by
  refine k0_met (ls := [(0, .inl 47)]) (plainFor_of_name rfl) (Nat.le_of_ble_eq_true rfl) rfl ?_
  refine k0_aload dX3_init_0 0 rfl ?_
  refine k0_obj jw_292 ⟨Nat.le_of_ble_eq_true rfl, Nat.le_of_ble_eq_true rfl⟩ (fun _ => Nat.le_of_ble_eq_true rfl) dX3_init_1 ?_
  refine k0_aload dX3_init_4 0 rfl ?_
  refine k0_bipush dX3_init_5 (by decide) ?_
  refine k0_q7 (nx := 48) (ce := 0) (sl := 0) (N := 20) jk_48 rfl (Nat.le_of_ble_eq_true rfl) jw_293 ⟨Nat.le_of_ble_eq_true rfl, Nat.le_of_ble_eq_true rfl⟩ rfl dX3_init_7 ?_
  refine k0_putr (y := 48) (x := 47) (i := 0) jc_3 jk_47 (Nat.le_of_ble_eq_true rfl) (Nat.le_of_ble_eq_true rfl) (by decide +kernel) (Nat.le_of_ble_eq_true rfl) (fun _ => ⟨rfl, rfl⟩) jw_299 ⟨rfl, rfl⟩ dX3_init_10 ?_
  refine k0_aload dX3_init_13 0 rfl ?_
  refine k0_bipush dX3_init_14 (by decide) ?_
  refine k0_q2 (nx := 49) (ce := 1) (sl := 20) (N := 20) jk_49 rfl (Nat.le_of_ble_eq_true rfl) jw_295 ⟨Nat.le_of_ble_eq_true rfl, Nat.le_of_ble_eq_true rfl⟩ rfl dX3_init_16 ?_
  refine k0_putr (y := 49) (x := 47) (i := 1) jc_3 jk_47 (Nat.le_of_ble_eq_true rfl) (Nat.le_of_ble_eq_true rfl) (by decide +kernel) (Nat.le_of_ble_eq_true rfl) (fun _ => ⟨rfl, rfl⟩) jw_300 ⟨rfl, rfl⟩ dX3_init_19 ?_
  refine k0_aload dX3_init_22 0 rfl ?_
  refine k0_iconst dX3_init_23 ?_
  refine k0_puti (x := 47) (i := 2) jc_3 jk_47 (Nat.le_of_ble_eq_true rfl) (Nat.le_of_ble_eq_true rfl) (by decide +kernel) ⟨by decide, by decide⟩ jw_301 ⟨rfl, rfl⟩ dX3_init_24 ?_
  refine k0_aload dX3_init_27 0 rfl ?_
  refine k0_iconst dX3_init_28 ?_
  refine k0_puti (x := 47) (i := 3) jc_3 jk_47 (Nat.le_of_ble_eq_true rfl) (Nat.le_of_ble_eq_true rfl) (by decide +kernel) ⟨by decide, by decide⟩ jw_302 ⟨rfl, rfl⟩ dX3_init_29 ?_
  refine k0_iconst dX3_init_32 ?_
  refine k0_istore (i := 1) (lv := [(1, .inr (jl_vi ((0 : Nat) : Int))), (0, .inl 47)]) dX3_init_33 rfl (Nat.le_of_ble_eq_true rfl) (fun _ => rfl) ?_
  refine k0_X3L (by rfl) (by rfl) ?_ 20 0 rfl
  refine k0_iload dX3_init_34 0 rfl ?_
  refine k0_bipush dX3_init_35 (by decide) ?_
  refine k0_geT (t := 72) dX3_init_37 (by decide) ⟨by decide, by decide⟩ ⟨by decide, by decide⟩ (by decide) ?_
  exact k0_ret rfl dX3_init_72
