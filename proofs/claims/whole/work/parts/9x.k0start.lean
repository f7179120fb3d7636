/-! THE START: what the tables and the Statement give (by start_gen.py) -/
def k0_cA (c20 c21 c22 c23 c24 c25 : ClassId) : Nat → ClassId := fun k => if k = 20 then c20 else if k = 21 then c21 else if k = 22 then c22 else if k = 23 then c23 else if k = 24 then c24 else c25
theorem k0_arr {args : Array Value} {s : State} {ty : FieldType} (h : (Cond.arrayClass ty).before args s = true) : ∃ c : ClassId, ArrOfT s c ty ∧ s.vm.findClass ("[" ++ ty.toString) = some c := by
  obtain ⟨c, k, comp, h1, h2, h3⟩ := Cond.arrayClass_spec h
  exact ⟨c, fun n z => ⟨fun k h => (by cases h), k, h2, comp, h3⟩, h1⟩
theorem k0_arO {args : Array Value} {s : State} {C : String} (h : (Cond.arrayOver (.object C)).before args s = true) : ∃ c : ClassId, ArrOfT s c (.object C) ∧ va_RA s c (.object C) := by
  obtain ⟨comp, c, k, h1, h2, h3, h4, h5⟩ := Cond.arrayOver_spec h
  exact ⟨c, fun n z => ⟨fun k h => (by cases h), k, h3, comp, h4⟩, k, comp, h3, h4, h1, h5⟩
theorem k0_kn {args : Array Value} {s : State} (htb : ∀ w ∈ jl_tbl, w.before args s = true) : ∀ (c : Nat), ∃ z : ClassId × (Nat → Nat), ∀ q, vwCl[c]? = some q → u_Kn s q.1 q.2.1 q.2.2 z.1 z.2 := by
  intro c
  match c with
  | 0 => obtain ⟨cC, iS, h⟩ := u_known (C := RX0) (T := TX0) (N := 6) (n := 6) htb jc_0.2.1 (htb _ jw_49); exact ⟨(cC, iS), fun q hq => by cases hq; exact h⟩
  | 1 => obtain ⟨cC, iS, h⟩ := u_known (C := RX1) (T := TX1) (N := 8) (n := 8) htb jc_1.2.1 (htb _ jw_339); exact ⟨(cC, iS), fun q hq => by cases hq; exact h⟩
  | 2 => obtain ⟨cC, iS, h⟩ := u_known (C := RX2) (T := TX2) (N := 4) (n := 4) htb jc_2.2.1 (htb _ jw_268); exact ⟨(cC, iS), fun q hq => by cases hq; exact h⟩
  | 3 => obtain ⟨cC, iS, h⟩ := u_known (C := RX3) (T := TX3) (N := 4) (n := 4) htb jc_3.2.1 (htb _ jw_288); exact ⟨(cC, iS), fun q hq => by cases hq; exact h⟩
  | 4 => obtain ⟨cC, iS, h⟩ := u_known (C := RX4) (T := TX4) (N := 9) (n := 9) htb jc_4.2.1 (htb _ jw_180); exact ⟨(cC, iS), fun q hq => by cases hq; exact h⟩
  | 5 => obtain ⟨cC, iS, h⟩ := u_known (C := RX5) (T := TX5) (N := 5) (n := 5) htb jc_5.2.1 (htb _ jw_314); exact ⟨(cC, iS), fun q hq => by cases hq; exact h⟩
  | 6 => obtain ⟨cC, iS, h⟩ := u_known (C := RX6) (T := TX6) (N := 11) (n := 11) htb jc_6.2.1 (htb _ jw_379); exact ⟨(cC, iS), fun q hq => by cases hq; exact h⟩
  | 7 => obtain ⟨cC, iS, h⟩ := u_known (C := RX7) (T := TX7) (N := 5) (n := 5) htb jc_7.2.1 (htb _ jw_232); exact ⟨(cC, iS), fun q hq => by cases hq; exact h⟩
  | 8 => obtain ⟨cC, iS, h⟩ := u_known (C := RX8) (T := TX8) (N := 17) (n := 17) htb jc_8.2.1 (htb _ jw_78); exact ⟨(cC, iS), fun q hq => by cases hq; exact h⟩
  | 9 => obtain ⟨cC, iS, h⟩ := u_known (C := RX9) (T := TX9) (N := 2) (n := 2) htb jc_9.2.1 (htb _ jw_219); exact ⟨(cC, iS), fun q hq => by cases hq; exact h⟩
  | 10 => obtain ⟨cC, iS, h⟩ := u_known (C := RX10) (T := TX10) (N := 2) (n := 2) htb jc_10.2.1 (htb _ jw_30); exact ⟨(cC, iS), fun q hq => by cases hq; exact h⟩
  | 11 => obtain ⟨cC, iS, h⟩ := u_known (C := RX11) (T := TX11) (N := 18) (n := 18) htb jc_11.2.1 (htb _ jw_22); exact ⟨(cC, iS), fun q hq => by cases hq; exact h⟩
  | 12 => obtain ⟨cC, iS, h⟩ := u_known (C := RX12) (T := TX12) (N := 111) (n := 111) htb jc_12.2.1 (htb _ jw_1199); exact ⟨(cC, iS), fun q hq => by cases hq; exact h⟩
  | n + 13 => exact ⟨(0, fun _ => 0), fun q hq => by cases hq⟩
def k0_g : List Cond := flatC (Jvm.Cond.and given_1 narrow_1)
abbrev k0_tm : Term := .string RX4 137
set_option maxRecDepth 100000 in
set_option maxHeartbeats 4000000 in
theorem k0_gel : ∀ j, j < 199 → k0_g[39 + j]? = some (Cond.eq (.elem (.field k0_tm "java/lang/String" "value" "[B") (.int (Int32.ofNat j))) (.int (([jl_byt].getD 0 []).getD j 0))) := by decide +kernel
theorem k0_vS {args : Array Value} {s : State} (hs : ∀ c ∈ k0_g, c.before args s = true) {A : Nat → Prop} (hA : ∀ a : Nat, a < s.heap.size → ¬ A a) : ∃ aK aV : Nat, vk_S 1 [199] [jl_byt] (fun _ => aK) (fun _ => aV) A s s.heap ∧ k0_tm.eval args s none [] s = some (.ref aK) := by
  have h1 : ∀ {i : Nat}, i < 1 → i = 0 := fun h => by omega
  obtain ⟨adK, adV, z1, z2⟩ := vk_Sof (args := args) (s := s) (N := 1) (tm := fun _ => k0_tm) (len := [199]) (byt := [jl_byt]) (A := A)
    (fun i hi => by rw [h1 hi]; decide)
    (fun i hi => hs _ (List.mem_of_getElem? (i := 35) (by decide +kernel)))
    (fun i hi => hs _ (List.mem_of_getElem? (i := 36) (by decide +kernel)))
    (fun i hi => hs _ (List.mem_of_getElem? (i := 37) (by decide +kernel)))
    (fun i hi => by rw [h1 hi]; exact hs _ (List.mem_of_getElem? (i := 38) (by decide +kernel)))
    (fun i hi j hj => by have e := h1 hi; subst e; exact hs _ (List.mem_of_getElem? (k0_gel j hj)))
    (fun i j hi hj hij => absurd ((h1 hi).trans (h1 hj).symm) hij) hA
  refine ⟨adK 0, adV 0, ⟨fun i hi => ?_, fun i j hi hj _ => (h1 hi).trans (h1 hj).symm⟩, z2 0 (by omega)⟩
  have := z1.1 0 (by omega)
  rw [h1 hi]
  exact this
theorem k0_K0 {args : Array Value} {s : State} {b L : Nat} {xs : Nat → Int32} (l : Launch) (hL : L ≤ 3072) (hts : ∀ w ∈ lw_tbl, w.before args s = true) (hX : va_X b L xs s s.heap) (hb : b < s.heap.size) (hgv : (Jvm.Cond.and given_1 narrow_1).before args s = true) : ∃ (G : jl_GC), G.1 = l ∧ jl_B G = s.heap.size ∧ jl_sb G = b ∧ jl_sL G = L ∧ jl_sx G = xs ∧ jl_K G s ∧ G.2.1 = s.heap ∧ k0_ao s := by
  have hs := flat_of_before _ hgv
  have htb : ∀ w ∈ jl_tbl, w.before args s = true := fun w hw => hts w (jl_tbl_in hw)
  obtain ⟨D, hD⟩ := Classical.axiomOfChoice (k0_kn htb)
  obtain ⟨c20, a20, b20⟩ := k0_arr (htb _ jw_47)
  obtain ⟨c21, a21, b21⟩ := k0_arr (htb _ jw_1540)
  obtain ⟨c22, a22, b22⟩ := k0_arr (htb _ jw_1539)
  obtain ⟨c23, a23, b23⟩ := k0_arr (htb _ jw_1541)
  have o1 := hts _ (jl_in0 (jl_ch2 54 (by decide +kernel) : (Jvm.Cond.arrayOver (Jvm.ClassFile.FieldType.object "LieCandles$State")) ∈ tables_1))
  have o2 := hts _ (jl_in0 (jl_ch2 56 (by decide +kernel) : (Jvm.Cond.arrayOver (Jvm.ClassFile.FieldType.object "LieCandles$Log")) ∈ tables_1))
  obtain ⟨c24, a24, b24⟩ := k0_arO o1
  obtain ⟨c25, a25, b25⟩ := k0_arO o2
  have hA : ∀ a : Nat, a < s.heap.size → ¬ (fun q : Nat => s.heap.size ≤ q) a := fun a h => Nat.not_le.mpr h
  obtain ⟨aK, aV, y1, y2⟩ := k0_vS hs hA
  have zc := va_Zof (A := fun q : Nat => s.heap.size ≤ q) (hts _ (jl_in0 (jl_ch3 76 (by decide +kernel) : (Jvm.Cond.laysStatic "java/lang/String" "COMPACT_STRINGS" "Z") ∈ tables_1))) (htb _ jw_14) (va_eqt (hs (Cond.eq (.static "java/lang/String" "COMPACT_STRINGS" "Z") (.int 1)) (List.mem_of_getElem? (i := 4) (by decide +kernel)))) hA
  have zs : ∃ sf : Value, sf.category = 1 ∧ va_Z "jdk/internal/util/Preconditions" "SIOOBE_FORMATTER" "Ljava/util/function/BiFunction;" sf (fun q : Nat => s.heap.size ≤ q) s s.heap := by
    rcases va_Zqof (A := fun q : Nat => s.heap.size ≤ q) (hts _ (jl_in0 (jl_ch3 92 (by decide +kernel) : (Jvm.Cond.laysStatic "jdk/internal/util/Preconditions" "SIOOBE_FORMATTER" "Ljava/util/function/BiFunction;") ∈ tables_1))) (htb _ jw_16) (hs (Cond.isRef (.static "jdk/internal/util/Preconditions" "SIOOBE_FORMATTER" "Ljava/util/function/BiFunction;")) (List.mem_of_getElem? (i := 5) (by decide +kernel))) hA with h | ⟨t, h⟩
    · exact ⟨_, rfl, h⟩
    · exact ⟨_, rfl, h⟩
  obtain ⟨sf, hsf, zs⟩ := zs
  refine ⟨(l, s.heap, (fun c => (D c).1, fun c => (D c).2), k0_cA c20 c21 c22 c23 c24 c25, fun _ => 0, aK, aV, b, L, xs, sf), rfl, rfl, rfl, rfl, rfl, ⟨⟨fun c q hq => hD c q hq, fun k q hk => ?_⟩, vk_R.of (hts _ (jl_in0 (jl_ch3 66 (by decide +kernel) : (Jvm.Cond.stringRef "LieCandles$Reader" (137 : Nat) jl_txt) ∈ tables_1))) y2, y1, fun w hw => ?_, zc, zs, hX, hb, hL, hsf⟩, rfl, va_AO.of o1, va_AO.of o2⟩
  · match k, hk with
    | 0, hk => cases hk; exact ⟨a20, b20⟩
    | 1, hk => cases hk; exact ⟨a21, b21⟩
    | 2, hk => cases hk; exact ⟨a22, b22⟩
    | 3, hk => cases hk; exact ⟨a23, b23⟩
    | 4, hk => cases hk; exact ⟨a24, b24⟩
    | 5, hk => cases hk; exact ⟨a25, b25⟩
    | k + 6, hk => cases hk
  · have hN := (List.mem_filter.mp hw).2
    have h := hts w (List.mem_filter.mp hw).1
    cases w <;> first | exact va_Nw.of rfl h | cases hN
