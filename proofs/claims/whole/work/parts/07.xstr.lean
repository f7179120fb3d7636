/-! the String constant WORDS: its length, its characters; by the JDK's own code -/
theorem jr_gsC {lk : jl_LK} {G : jl_GC} {M : jl_MC} {E : jl_EC} {nx ce sl pc : Nat} {ls : List (Nat × Value)} {st : List Value} {σ : jl_Mm} {o : jl_O} {idx : Nat} (d : decode M.2.1 pc = .ok (.getstatic idx, 3)) (hl : Cond.fieldLink M.1.cls idx "java/lang/String" "COMPACT_STRINGS" "Z" ∈ jl_tbl) (k : jl_J lk G M E nx ce sl (pc + 3) ls (jl_vi 1 :: st) σ o) : jl_J lk G M E nx ce sl pc ls st σ o := by
  intro r τ ho p e s m args below meth c H locs la C X S L
  exact va_gets C.1 C.2.1 (C.2.2.2.2.2.2.2.1.2.2.2.2.1.kept (fun a h1 h2 => C.2.2.2.2.2.2.2.2.2 a h1)) S C.2.2.2.2.1 (C.2.2.2.2.2.1 _ hl) (fun _ h => h) d (k r τ ho p e s m args below meth c H locs la C X S L)
theorem jr_gsF {lk : jl_LK} {G : jl_GC} {M : jl_MC} {E : jl_EC} {nx ce sl pc : Nat} {ls : List (Nat × Value)} {st : List Value} {σ : jl_Mm} {o : jl_O} {idx : Nat} (d : decode M.2.1 pc = .ok (.getstatic idx, 3)) (hl : Cond.fieldLink M.1.cls idx "jdk/internal/util/Preconditions" "SIOOBE_FORMATTER" "Ljava/util/function/BiFunction;" ∈ jl_tbl) (k : jl_J lk G M E nx ce sl (pc + 3) ls (jl_sf G :: st) σ o) : jl_J lk G M E nx ce sl pc ls st σ o := by
  intro r τ ho p e s m args below meth c H locs la C X S L
  exact va_gets C.1 C.2.1 (C.2.2.2.2.2.2.2.1.2.2.2.2.2.1.kept (fun a h1 h2 => C.2.2.2.2.2.2.2.2.2 a h1)) S C.2.2.2.2.1 (C.2.2.2.2.2.1 _ hl) (fun _ h => h) d (k r τ ho p e s m args below meth c H locs la C X S L)
theorem jl_vkS {G : jl_GC} {U : State} (h : jl_K G U) (hH : jl_H G U.heap) : vk_S 1 [199] [jl_byt] (fun _ => G.2.2.2.2.2.1) (fun _ => G.2.2.2.2.2.2.1) (jl_A G) U U.heap := h.2.2.1.kept (fun a h1 _ => hH.2 a h1)
theorem jr_scod {lk : jl_LK} {G : jl_GC} {M : jl_MC} {E : jl_EC} {nx ce sl pc : Nat} {ls : List (Nat × Value)} {st : List Value} {σ : jl_Mm} {o : jl_O} {idx : Nat} (d : decode M.2.1 pc = .ok (.getfield idx, 3)) (hl : Cond.fieldLink M.1.cls idx "java/lang/String" "coder" "B" ∈ jl_tbl) (k : jl_J lk G M E nx ce sl (pc + 3) ls (jl_vi 0 :: st) σ o) : jl_J lk G M E nx ce sl pc ls (.ref G.2.2.2.2.2.1 :: st) σ o := by
  intro r τ ho p e s m args below meth c H locs la C X S L
  exact vk_getf C.1 C.2.1 ((jl_vkS C.2.2.2.2.2.2.2.1 C.2.2.2.2.2.2.2.2).1 0 (by decide)).2.1 S C.2.2.2.2.1 (C.2.2.2.2.2.1 _ hl) (fun _ h => h) d (k r τ ho p e s m args below meth c H locs la C X S L)
theorem jr_sval {lk : jl_LK} {G : jl_GC} {M : jl_MC} {E : jl_EC} {nx ce sl pc : Nat} {ls : List (Nat × Value)} {st : List Value} {σ : jl_Mm} {o : jl_O} {idx : Nat} (d : decode M.2.1 pc = .ok (.getfield idx, 3)) (hl : Cond.fieldLink M.1.cls idx "java/lang/String" "value" "[B" ∈ jl_tbl) (k : jl_J lk G M E nx ce sl (pc + 3) ls (.ref G.2.2.2.2.2.2.1 :: st) σ o) : jl_J lk G M E nx ce sl pc ls (.ref G.2.2.2.2.2.1 :: st) σ o := by
  intro r τ ho p e s m args below meth c H locs la C X S L
  exact vk_getf C.1 C.2.1 ((jl_vkS C.2.2.2.2.2.2.2.1 C.2.2.2.2.2.2.2.2).1 0 (by decide)).2.2.1 S C.2.2.2.2.1 (C.2.2.2.2.2.1 _ hl) (fun _ h => h) d (k r τ ho p e s m args below meth c H locs la C X S L)
theorem jr_stln {lk : jl_LK} {G : jl_GC} {M : jl_MC} {E : jl_EC} {nx ce sl pc : Nat} {ls : List (Nat × Value)} {st : List Value} {σ : jl_Mm} {o : jl_O} (d : decode M.2.1 pc = .ok (.arraylength, 1)) (k : jl_J lk G M E nx ce sl (pc + 1) ls (jl_vi 199 :: st) σ o) : jl_J lk G M E nx ce sl pc ls (.ref G.2.2.2.2.2.2.1 :: st) σ o := by
  intro r τ ho p e s m args below meth c H locs la C X S L
  exact va_tlen C.1 C.2.1 ((jl_vkS C.2.2.2.2.2.2.2.1 C.2.2.2.2.2.2.2.2).1 0 (by decide)).2.2.2 S rfl d (k r τ ho p e s m args below meth c H locs la C X S L)
theorem jr_stb {lk : jl_LK} {G : jl_GC} {M : jl_MC} {E : jl_EC} {nx ce sl pc : Nat} {ls : List (Nat × Value)} {st : List Value} {σ : jl_Mm} {o : jl_O} {i : Int} (d : decode M.2.1 pc = .ok (.baload, 1)) (hn : jl_n3 i) (hi : 0 ≤ i ∧ i < 199) (k : jl_J lk G M E nx ce sl (pc + 1) ls (.int (jl_byt.getD i.toNat 0) :: st) σ o) : jl_J lk G M E nx ce sl pc ls (jl_vi i :: .ref G.2.2.2.2.2.2.1 :: st) σ o := by
  intro r τ ho p e s m args below meth c H locs la C X S L
  exact va_tb C.1 C.2.1 ((jl_vkS C.2.2.2.2.2.2.2.1 C.2.2.2.2.2.2.2.2).1 0 (by decide)).2.2.2 S (jl_in3 (n := 199) hn hi) (by rw [jl_cl3 hn]; simp only [List.getD_cons_zero]) d (k r τ ho p e s m args below meth c H locs la C X S L)
theorem jr_i2c {lk : jl_LK} {G : jl_GC} {M : jl_MC} {E : jl_EC} {nx ce sl pc : Nat} {ls : List (Nat × Value)} {st : List Value} {σ : jl_Mm} {o : jl_O} {x : Int32} (d : decode M.2.1 pc = .ok (.i2c, 1)) (k : jl_J lk G M E nx ce sl (pc + 1) ls (.int (x.toUInt32 % 65536).toInt32 :: st) σ o) : jl_J lk G M E nx ce sl pc ls (.int x :: st) σ o := by
  intro r τ ho p e s m args below meth c H locs la C X S L
  exact lv_i2c C.1 C.2.1 d rfl (k r τ ho p e s m args below meth c H locs la C X S L)
theorem jr_ret_n {lk : jl_LK} {G : jl_GC} {M : jl_MC} {nx ce sl pc : Nat} {ls : List (Nat × Value)} {σ : jl_Mm} {a : Int} {ty : FieldType} (hr : M.2.2.2.1 = some ty) (hv : jl_rv G (some ty) a = some (jl_vi a)) (hn : jl_nr (some ty) a) (hw : narrow ty (jl_vi a) = jl_vi a) (d : decode M.2.1 pc = .ok (.ireturn, 1)) : jl_J lk G M (jl_E lk G M nx ce sl) nx ce sl pc ls [jl_vi a] σ (some (a, σ)) := by
  intro r τ ho p e s m args below meth c H locs la C X S L
  cases ho
  exact W.zret C.1 C.2.1 (C.2.2.1.1.trans hr) hw (fun t ht hW => ⟨by rw [hr, hv], by rw [hr]; exact hn, by rw [ht]; exact X, S.F ht⟩) S.2.2 d C.2.2.2.2.2.2.1
theorem jl_run1 {lk : jl_LK} {G : jl_GC} {M Y : jl_MC} {E : jl_EC} {nx nf ce sl pc mc ms : Nat} {ls : List (Nat × Value)} {st stk : List Value} {σ : jl_Mm} {o : jl_O} {o2 : jl_O} {r r1 : Int} {τ τ1 : jl_Mm} {p : Program} {e : Env} {s : State} {m : MethodId} {args : Array Value} {below : List Frame} {meth : Method} {c : Code} {H : Heap} {locs : List Loc} {la : Array Slot} {a : Array Value}
    (C : jl_C G M p s m args meth c) (X : jl_R lk G σ nx H) (S : va_S (jl_A G) s.heap H locs) (_ : Int → Int)
    (hr : va_Run p G.1 e M.2.2.2.2 s m args below meth c H locs ce sl mc ms (F0 m pc la stk) st (jl_Q lk G Y r1 τ1 nf a) (jl_A G)) (ho1 : o = some (r1, τ1))
    (k : jl_nr Y.2.2.2.1 r1 → jl_J lk G M E nf (ce + mc) (sl + ms) (pc + 3) ls ((jl_rv G Y.2.2.2.1 r1).toList ++ st) τ1 o2) (ho2 : o2 = some (r, τ)) (L : lv_has la M.2.2.1 ls) :
    W p G.1 e M.2.2.2.2 s m args below meth c H locs ce sl (E r τ args s below) (F0 m pc la stk) := by
  intro T hT XX
  obtain ⟨v, st₀, t, T', L1, h0, X', hL, e1, e2, ⟨hv, hn, hR, hz, hk⟩, stp⟩ := hr T hT XX
  cases hv
  rw [h0] at hz hk
  have S1 : va_S (jl_A G) s.heap T'.heap (locs ++ L1) := ⟨Nat.le_trans S.1 (by rw [e1]; exact hz), fun q h1 h2 => by rw [e1, hk q (Nat.lt_of_lt_of_le h1 S.1) h2]; exact S.2.1 q h1 h2, fun q hq => by
      rcases List.mem_append.mp hq with h | h
      · exact S.2.2 q h
      · exact hL q h⟩
  obtain ⟨t2, a1, b1⟩ := k hn r τ ho2 p e s m args below meth c T'.heap (locs ++ L1) la C (by rw [e1]; exact hR) S1 L T' rfl X'
  exact ⟨t2, stp t2 a1, b1⟩
/-- a method of String, called on the constant -/
theorem j2_callK {G : jl_GC} {M Y : jl_MC} {pc idx : Nat} {ls : List (Nat × Value)} {st stk As : List Value} {σ : jl_Mm} {r0 : Int} {o : jl_O} {v : Value} (d : decode M.2.1 pc = .ok (.invokevirtual idx, 3)) (hct : jC2 G Y (.ref G.2.2.2.2.2.1 :: As) σ (some (r0, σ))) (hY : jl_MV Y As.length) (hc : Y.1.cls = "java/lang/String") (hz : Y.2.2.2.2.cells = 0 ∧ Y.2.2.2.2.slots = 0) (hv : jl_rv G Y.2.2.2.1 r0 = some v) (hl : Cond.methodLink M.1.cls idx Y.1 ∈ jl_tbl) (hR : jl_fit M Y) (hs : stk = As.reverse ++ .ref G.2.2.2.2.2.1 :: st) (hw : (st.map fun v => v.category).sum ≤ 8) (k : j2 G M (pc + 3) ls (v :: st) σ o) : j2 G M pc ls stk σ o := by
  subst hs
  intro r τ ho p e s m args below meth c H locs la C X S L
  obtain ⟨hi1, hi2, hi3, hi4, hi5⟩ := hY
  have hts := C.2.2.2.2.2.1
  have hrecv := vk_recv (i := 0) (jl_vkS C.2.2.2.2.2.2.2.1 C.2.2.2.2.2.2.2.2) (by decide) S
  rw [← hc] at hrecv
  refine jl_run1 (st := st) (Y := Y) (nf := 286) (o := some (r0, σ)) (mc := Y.2.2.2.2.cells) (ms := Y.2.2.2.2.slots) (o2 := o) (a := (Value.ref G.2.2.2.2.2.1 :: As).toArray) (r1 := r0) (τ1 := σ) C X S (fun r => r) ?_ rfl (fun hn => ?_) ho L
  · exact va_runV ⟨C.1, C.2.1, C.2.2.2.1, C.2.2.2.2.1, hts⟩ (hct r0 σ rfl) ⟨callB_of As.length hts (jl_goodIn (jl_ws_in hi4)) rfl rfl rfl (hts _ hi3) (hts _ hl) hi5 hR, hts _ hi1, hts _ hi2⟩ ⟨jl_blind, hrecv, fun U hU hW => ⟨rfl, by rw [hU]; exact X, C.2.2.2.2.2.2.2.1.warm hW, by rw [hU]; exact jl_H.S C.2.2.2.2.2.2.2.2 S⟩⟩ rfl rfl L.1 rfl (lv_room hw) d (by rw [hz.1, hz.2]; exact ⟨Nat.zero_le _, Nat.zero_le _⟩)
  · rw [hz.1, hz.2, hv]
    exact k
theorem j2_callSx {G : jl_GC} {M Y : jl_MC} {pc idx : Nat} {ls : List (Nat × Value)} {st stk As : List Value} {σ : jl_Mm} {r0 : Int} {o : jl_O} {v : Value} (d : decode M.2.1 pc = .ok (.invokestatic idx, 3)) (hct : jC2 G Y As σ (some (r0, σ))) (hY : jl_MS Y As.length) (hz : Y.2.2.2.2.cells = 0 ∧ Y.2.2.2.2.slots = 0) (hv : jl_rv G Y.2.2.2.1 r0 = some v) (hl : Cond.methodLink M.1.cls idx Y.1 ∈ jl_tbl) (hR : jl_fit M Y) (hs : stk = As.reverse ++ st) (hw : (st.map fun v => v.category).sum ≤ 8) (k : j2 G M (pc + 3) ls (v :: st) σ o) : j2 G M pc ls stk σ o := by
  subst hs
  intro r τ ho p e s m args below meth c H locs la C X S L
  obtain ⟨hi1, hi3, hi4, hi5⟩ := hY
  have hts := C.2.2.2.2.2.1
  refine jl_run1 (st := st) (Y := Y) (nf := 286) (o := some (r0, σ)) (mc := Y.2.2.2.2.cells) (ms := Y.2.2.2.2.slots) (o2 := o) (a := As.toArray) (r1 := r0) (τ1 := σ) C X S (fun r => r) ?_ rfl (fun hn => ?_) ho L
  · exact va_runS ⟨C.1, C.2.1, C.2.2.2.1, C.2.2.2.2.1, hts⟩ (hct r0 σ rfl) ⟨callB_of As.length hts (jl_goodIn (jl_ws_in hi4)) rfl rfl rfl (hts _ hi3) (hts _ hl) hi5 hR, hts _ hi1⟩ ⟨jl_blind, fun U hU hW => ⟨rfl, by rw [hU]; exact X, C.2.2.2.2.2.2.2.1.warm hW, by rw [hU]; exact jl_H.S C.2.2.2.2.2.2.2.2 S⟩⟩ rfl rfl L.1 rfl (lv_room hw) d (by rw [hz.1, hz.2]; exact ⟨Nat.zero_le _, Nat.zero_le _⟩)
  · rw [hz.1, hz.2, hv]
    exact k
def jM_Kcoder : jl_MC := (yJ0_coder_7d493, cJ0_coder_7d493, 1, some .byte, { frames := 1, cells := 0, slots := 0, locals := 100 })
theorem jv_Kcoder : jl_MV jM_Kcoder 0 := ⟨jw_552, jw_553, jw_14, jw_554, by decide +kernel, by decide +kernel, by decide +kernel⟩
theorem jt_Kcoder (G : jl_GC) (s0 : jl_Mm) : jC2 G jM_Kcoder [Value.ref G.2.2.2.2.2.1] s0 (some (0, s0)) := by
  refine jl_met (plainFor_of_name rfl) (Nat.le_of_ble_eq_true rfl) ?_
  show j2 G jM_Kcoder 0 [(0, Value.ref G.2.2.2.2.2.1)] [] s0 _
  refine jr_gsC dJ0_coder_7d493_0 jw_555 ?_
  have z : j2 G jM_Kcoder 3 [(0, Value.ref G.2.2.2.2.2.1)] [jl_vi 1] s0 (if (1 : Int) = 0 then none else some (0, s0)) := by
    refine jr_if_eq (t := 13) dJ0_coder_7d493_3 (by decide) (jl_nlit rfl) (fun q => absurd q (by decide)) (fun _ => ?_)
    refine jr_aload_n dJ0_coder_7d493_6 0 rfl ?_
    refine jr_scod dJ0_coder_7d493_7 jw_2109 ?_
    refine jr_goto (t := 14) dJ0_coder_7d493_10 (by decide) ?_
    exact jr_ret_n rfl rfl (jl_nlit rfl) rfl dJ0_coder_7d493_14
  exact z
def jM_Klatin : jl_MC := (yJ0_isLatin1_aae02, cJ0_isLatin1_aae02, 1, some .boolean, { frames := 1, cells := 0, slots := 0, locals := 100 })
theorem jv_Klatin : jl_MV jM_Klatin 0 := ⟨jw_562, jw_563, jw_14, jw_564, by decide +kernel, by decide +kernel, by decide +kernel⟩
theorem jt_Klatin (G : jl_GC) (s0 : jl_Mm) : jC2 G jM_Klatin [Value.ref G.2.2.2.2.2.1] s0 (some (1, s0)) := by
  refine jl_met (plainFor_of_name rfl) (Nat.le_of_ble_eq_true rfl) ?_
  show j2 G jM_Klatin 0 [(0, Value.ref G.2.2.2.2.2.1)] [] s0 _
  refine jr_gsC dJ0_isLatin1_aae02_0 jw_555 ?_
  have z : j2 G jM_Klatin 3 [(0, Value.ref G.2.2.2.2.2.1)] [jl_vi 1] s0 (if (1 : Int) = 0 then none else (if (0 : Int) = 0 then jl_zb 1 s0 else none)) := by
    refine jr_if_eq (t := 17) dJ0_isLatin1_aae02_3 (by decide) (jl_nlit rfl) (fun q => absurd q (by decide)) (fun _ => ?_)
    refine jr_aload_n dJ0_isLatin1_aae02_6 0 rfl ?_
    refine jr_scod dJ0_isLatin1_aae02_7 jw_2109 ?_
    refine jr_if_ne (t := 17) dJ0_isLatin1_aae02_10 (by decide) (jl_nlit rfl) (fun _ => ?_) (fun q => absurd rfl q)
    refine jr_iconst dJ0_isLatin1_aae02_13 ?_
    refine jr_goto (t := 18) dJ0_isLatin1_aae02_14 (by decide) ?_
    exact jr_ret_z rfl dJ0_isLatin1_aae02_18
  exact z
def jM_Klen : jl_MC := (yJ0_length_8abf5, cJ0_length_8abf5, 1, some .int, { frames := 2, cells := 0, slots := 0, locals := 200 })
theorem jv_Klen : jl_MV jM_Klen 0 := ⟨jw_548, jw_549, jw_14, jw_550, by decide +kernel, by decide +kernel, by decide +kernel⟩
theorem jt_Klen (G : jl_GC) (s0 : jl_Mm) : jC2 G jM_Klen [Value.ref G.2.2.2.2.2.1] s0 (some (199, s0)) := by
  refine jl_met (plainFor_of_name rfl) (Nat.le_of_ble_eq_true rfl) ?_
  show j2 G jM_Klen 0 [(0, Value.ref G.2.2.2.2.2.1)] [] s0 _
  refine jr_aload_n dJ0_length_8abf5_0 0 rfl ?_
  refine jr_sval dJ0_length_8abf5_1 jw_2108 ?_
  refine jr_stln dJ0_length_8abf5_4 ?_
  refine jr_aload_n dJ0_length_8abf5_5 0 rfl ?_
  refine j2_callK (As := []) dJ0_length_8abf5_6 (jt_Kcoder G s0) jv_Kcoder rfl ⟨rfl, rfl⟩ rfl jw_551 ⟨Nat.le_of_ble_eq_true rfl, Nat.le_of_ble_eq_true rfl⟩ rfl (Nat.le_of_ble_eq_true rfl) ?_
  refine jr_ishr dJ0_length_8abf5_9 ?_
  exact jr_ret_i rfl (jl_n3_to _) dJ0_length_8abf5_10
def jM_Kcheck : jl_MC := (yJ3_checkIndex_8e157, cJ3_checkIndex_8e157, 3, some .int, { frames := 1, cells := 0, slots := 0, locals := 100 })
theorem jv_Kcheck : jl_MS jM_Kcheck 3 := ⟨jw_574, jw_16, jw_575, by decide +kernel, by decide +kernel, by decide +kernel⟩
theorem jt_Kcheck (G : jl_GC) (i : Int) (hn : jl_n3 i) (hi : 0 ≤ i ∧ i < 199) (v : Value) (hv : v.category = 1) (s0 : jl_Mm) : jC2 G jM_Kcheck [jl_vi i, jl_vi 199, v] s0 (some (i, s0)) := by
  refine jl_met (plainFor_of_name rfl) (by rcases v <;> first | exact Nat.le_of_ble_eq_true rfl | (exfalso; revert hv; simp [Value.category])) ?_
  have e1 : lv_args 0 [jl_vi i, jl_vi 199, v] = [(0, jl_vi i), (1, jl_vi 199), (2, v)] := rfl
  rw [e1]
  have z : j2 G jM_Kcheck 0 [(0, jl_vi i), (1, jl_vi 199), (2, v)] [] s0 (if i < 0 then none else (if i < 199 then some (i, s0) else none)) := by
    refine jr_iload_n dJ3_checkIndex_8e157_0 0 rfl ?_
    refine jr_if_lt (t := 9) dJ3_checkIndex_8e157_1 (by decide) hn (fun q => absurd q (by omega)) (fun _ => ?_)
    refine jr_iload_n dJ3_checkIndex_8e157_4 0 rfl ?_
    refine jr_iload_n dJ3_checkIndex_8e157_5 1 rfl ?_
    refine jr_icmp_lt (t := 16) dJ3_checkIndex_8e157_6 (by decide) hn (jl_nlit rfl) (fun _ => ?_) (fun q => absurd hi.2 q)
    refine jr_iload_n dJ3_checkIndex_8e157_16 0 rfl ?_
    exact jr_ret_i rfl hn dJ3_checkIndex_8e157_17
  rw [if_neg (by omega), if_pos hi.2] at z
  exact z
def jM_Kchk : jl_MC := (yJ0_checkIndex_df160, cJ0_checkIndex_df160, 2, none, { frames := 2, cells := 0, slots := 0, locals := 200 })
theorem jv_Kchk : jl_MS jM_Kchk 2 := ⟨jw_569, jw_14, jw_570, by decide +kernel, by decide +kernel, by decide +kernel⟩
theorem jt_Kchk (G : jl_GC) (i : Int) (hn : jl_n3 i) (hi : 0 ≤ i ∧ i < 199) (s0 : jl_Mm) : jC2 G jM_Kchk [jl_vi i, jl_vi 199] s0 (some (0, s0)) := by
  refine jl_met (plainFor_of_name rfl) (Nat.le_of_ble_eq_true rfl) ?_
  have z : j2 G jM_Kchk 0 [(0, jl_vi i), (1, jl_vi 199)] [] s0 (if (jl_sf G).category = 1 then jl_bd (some (i, s0)) (fun _ s1 => some (0, s1)) else none) := by
    refine jr_iload_n dJ0_checkIndex_df160_0 0 rfl ?_
    refine jr_iload_n dJ0_checkIndex_df160_1 1 rfl ?_
    refine jr_gsF dJ0_checkIndex_df160_2 jw_571 ?_
    refine jr_grd (fun g => ?_)
    refine j2_callSi (As := [jl_vi i, jl_vi 199, jl_sf G]) dJ0_checkIndex_df160_5 (jt_Kcheck G i hn hi _ g s0) jv_Kcheck ⟨rfl, rfl, rfl⟩ jw_573 ⟨Nat.le_of_ble_eq_true rfl, Nat.le_of_ble_eq_true rfl⟩ rfl (Nat.le_of_ble_eq_true rfl) (fun r1 s1 hr => ?_)
    refine jr_pop dJ0_checkIndex_df160_8 rfl ?_
    exact jr_ret_v rfl dJ0_checkIndex_df160_9
  intro r τ ho p e s m args below meth c H locs la C X S L
  have hf : (jl_sf G).category = 1 := C.2.2.2.2.2.2.2.1.2.2.2.2.2.2.2.2.2
  rw [if_pos hf] at z
  exact z r τ ho p e s m args below meth c H locs la C X S L
def jM_Kat1 : jl_MC := (yJ1_charAt_3b067, cJ1_charAt_3b067, 2, some .char, { frames := 3, cells := 0, slots := 0, locals := 300 })
theorem jv_Kat1 : jl_MS jM_Kat1 2 := ⟨jw_566, jw_15, jw_567, by decide +kernel, by decide +kernel, by decide +kernel⟩
theorem jl_chr : ∀ j, j < 199 → ((jl_byt.getD j 0 &&& 255).toUInt32 % 65536).toInt32 = jl_byt.getD j 0 ∧ narrow .char (.int (jl_byt.getD j 0)) = .int (jl_byt.getD j 0) := by decide +kernel
def jl_ch (i : Int) : Int := (jl_byt.getD i.toNat 0).toInt
theorem jl_ch_n (i : Int) : jl_n3 (jl_ch i) := jl_n3_to _
theorem jt_Kat1 (G : jl_GC) (i : Int) (hn : jl_n3 i) (hi : 0 ≤ i ∧ i < 199) (s0 : jl_Mm) : jC2 G jM_Kat1 [Value.ref G.2.2.2.2.2.2.1, jl_vi i] s0 (some (jl_ch i, s0)) := by
  refine jl_met (plainFor_of_name rfl) (Nat.le_of_ble_eq_true rfl) ?_
  have z : j2 G jM_Kat1 0 [(0, Value.ref G.2.2.2.2.2.2.1), (1, jl_vi i)] [] s0 (jl_bd (some (0, s0)) (fun _ s1 => some (jl_ch i, s1))) := by
    refine jr_iload_n dJ1_charAt_3b067_0 1 rfl ?_
    refine jr_aload_n dJ1_charAt_3b067_1 0 rfl ?_
    refine jr_stln dJ1_charAt_3b067_2 ?_
    refine j2_callSv (As := [jl_vi i, jl_vi 199]) dJ1_charAt_3b067_3 (jt_Kchk G i hn hi s0) jv_Kchk ⟨rfl, rfl, rfl⟩ jw_568 ⟨Nat.le_of_ble_eq_true rfl, Nat.le_of_ble_eq_true rfl⟩ rfl (Nat.le_of_ble_eq_true rfl) (fun r1 s1 hr => ?_)
    refine jr_aload_n dJ1_charAt_3b067_6 0 rfl ?_
    refine jr_iload_n dJ1_charAt_3b067_7 1 rfl ?_
    refine jr_stb dJ1_charAt_3b067_8 hn hi ?_
    refine jr_sipush dJ1_charAt_3b067_9 (by decide) ?_
    have q1 : (Value.int (jl_byt.getD i.toNat 0)) = jl_vi (jl_ch i) := (jl_vi_to _).symm
    rw [q1]
    refine jr_iand dJ1_charAt_3b067_12 ?_
    have q2 : jl_vi (jl_and (jl_ch i) 255) = .int (jl_byt.getD i.toNat 0 &&& 255) := by rw [jl_and, jl_vi_to, jl_ch, jl_i3_to]; rfl
    rw [q2]
    refine jr_i2c dJ1_charAt_3b067_13 ?_
    rw [(jl_chr i.toNat (by omega)).1, q1]
    exact jr_ret_n rfl rfl (jl_ch_n i) (by rw [← q1]; exact (jl_chr i.toNat (by omega)).2) dJ1_charAt_3b067_14
  exact z
def jM_Kat : jl_MC := (yJ0_charAt_5068e, cJ0_charAt_5068e, 2, some .char, { frames := 4, cells := 0, slots := 0, locals := 400 })
theorem jv_Kat : jl_MV jM_Kat 1 := ⟨jw_558, jw_559, jw_14, jw_560, by decide +kernel, by decide +kernel, by decide +kernel⟩
theorem jt_Kat (G : jl_GC) (i : Int) (hn : jl_n3 i) (hi : 0 ≤ i ∧ i < 199) (s0 : jl_Mm) : jC2 G jM_Kat [Value.ref G.2.2.2.2.2.1, jl_vi i] s0 (some (jl_ch i, s0)) := by
  refine jl_met (plainFor_of_name rfl) (Nat.le_of_ble_eq_true rfl) ?_
  show j2 G jM_Kat 0 [(0, Value.ref G.2.2.2.2.2.1), (1, jl_vi i)] [] s0 _
  refine jr_aload_n dJ0_charAt_5068e_0 0 rfl ?_
  refine j2_callK (As := []) dJ0_charAt_5068e_1 (jt_Klatin G s0) jv_Klatin rfl ⟨rfl, rfl⟩ rfl jw_561 ⟨Nat.le_of_ble_eq_true rfl, Nat.le_of_ble_eq_true rfl⟩ rfl (Nat.le_of_ble_eq_true rfl) ?_
  have z : j2 G jM_Kat 4 [(0, Value.ref G.2.2.2.2.2.1), (1, jl_vi i)] [jl_vi 1] s0 (if (1 : Int) = 0 then none else some (jl_ch i, s0)) := by
    refine jr_if_eq (t := 16) dJ0_charAt_5068e_4 (by decide) (jl_nlit rfl) (fun q => absurd q (by decide)) (fun _ => ?_)
    refine jr_aload_n dJ0_charAt_5068e_7 0 rfl ?_
    refine jr_sval dJ0_charAt_5068e_8 jw_2108 ?_
    refine jr_iload_n dJ0_charAt_5068e_11 1 rfl ?_
    refine j2_callSx (As := [Value.ref G.2.2.2.2.2.2.1, jl_vi i]) dJ0_charAt_5068e_12 (jt_Kat1 G i hn hi s0) jv_Kat1 ⟨rfl, rfl⟩ rfl jw_565 ⟨Nat.le_of_ble_eq_true rfl, Nat.le_of_ble_eq_true rfl⟩ rfl (Nat.le_of_ble_eq_true rfl) ?_
    exact jr_ret_n rfl rfl (jl_ch_n i) (by rw [jl_ch, jl_vi_to]; exact (jl_chr i.toNat (by omega)).2) dJ0_charAt_5068e_15
  exact z
theorem jr_ldcs {lk : jl_LK} {G : jl_GC} {M : jl_MC} {E : jl_EC} {nx ce sl pc : Nat} {ls : List (Nat × Value)} {st : List Value} {σ : jl_Mm} {o : jl_O} (d : decode M.2.1 pc = .ok (.ldc 137, 2)) (hM : M.1.cls = RX4) (k : jl_J lk G M E nx ce sl (pc + 2) ls (.ref G.2.2.2.2.2.1 :: st) σ o) : jl_J lk G M E nx ce sl pc ls st σ o := by
  intro r τ ho p e s m args below meth c H locs la C X S L
  exact va_ldcS C.1 C.2.1 (own := RX4) (by rw [← hM]; exact C.2.2.2.2.1) C.2.2.2.2.2.2.2.1.2.1 d (k r τ ho p e s m args below meth c H locs la C X S L)
theorem jr_slen {G : jl_GC} {M : jl_MC} {pc idx : Nat} {ls : List (Nat × Value)} {st : List Value} {σ : jl_Mm} {o : jl_O} (d : decode M.2.1 pc = .ok (.invokevirtual idx, 3)) (hl : Cond.methodLink M.1.cls idx yJ0_length_8abf5 ∈ jl_tbl) (h1 : 5 ≤ M.2.2.2.2.frames) (h2 : 500 ≤ M.2.2.2.2.locals) (h3 : (st.map fun v => v.category).sum ≤ 8) (k : j2 G M (pc + 3) ls (jl_vi 199 :: st) σ o) : j2 G M pc ls (.ref G.2.2.2.2.2.1 :: st) σ o :=
  j2_callK (As := []) d (jt_Klen G σ) jv_Klen rfl ⟨rfl, rfl⟩ rfl hl ⟨Nat.le_trans (Nat.le_of_ble_eq_true rfl) h1, Nat.le_trans (Nat.le_of_ble_eq_true rfl) h2⟩ rfl h3 k
theorem jr_sat {G : jl_GC} {M : jl_MC} {pc idx : Nat} {ls : List (Nat × Value)} {st : List Value} {σ : jl_Mm} {o : jl_O} {i : Int} (d : decode M.2.1 pc = .ok (.invokevirtual idx, 3)) (hn : jl_n3 i) (hi : 0 ≤ i ∧ i < 199) (hl : Cond.methodLink M.1.cls idx yJ0_charAt_5068e ∈ jl_tbl) (h1 : 5 ≤ M.2.2.2.2.frames) (h2 : 500 ≤ M.2.2.2.2.locals) (h3 : (st.map fun v => v.category).sum ≤ 8) (k : j2 G M (pc + 3) ls (jl_vi (jl_ch i) :: st) σ o) : j2 G M pc ls (jl_vi i :: .ref G.2.2.2.2.2.1 :: st) σ o :=
  j2_callK (As := [jl_vi i]) d (jt_Kat G i hn hi σ) jv_Kat rfl ⟨rfl, rfl⟩ rfl hl ⟨Nat.le_trans (Nat.le_of_ble_eq_true rfl) h1, Nat.le_trans (Nat.le_of_ble_eq_true rfl) h2⟩ rfl h3 k
