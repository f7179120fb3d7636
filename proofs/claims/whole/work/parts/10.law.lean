/-! THE CLAIM OUT OF ONE WALK OF THE LAW'S BODY. Your part is whole_start (and what it stands on); all else here is the same for every law, but numbers. -/
def R_law : String := "LieCandlesLaw"
def lw_P (b : Addr) (xs : List Int32) (args : Array Value) (s : State) : Prop := args = #[.ref b] ∧ s.IntsAt b xs ∧ xs.length ≤ 3072 ∧ (Jvm.Cond.and given_1 narrow_1).before args s = true
def lw_Q (_ : Array Value) (s : State) (o : Outcome) (t : State) : Prop := o = .returned (some (.int 1)) ∧ Framed s o t [] 600000 7302250
def lw_Z (below : List Frame) (a : Array Value) (s : State) : State → Prop := fun t => ∃ o, t.status = .running ∧ Ended t below o ∧ lw_Q a s o t
/-- the law's own end, with 1 on the stack, nothing written that was there before, its room as the claim has it -/
theorem lw_ret {p : Program} {l : Launch} {e : Env} {s : State} {m : MethodId} {below : List Frame} {meth : Method} {c : Code} {b : Nat} (hx : p.tables.exec = Jvm.exec) (hb : c.code = code) (hr : meth.sig.returnType = ret) (hlocks : meth.locks = false) {pc : Nat} {H : Heap} {ls : Array Slot} (hdg : decode code pc = .ok (.ireturn, 1)) : W p l e room_1 s m #[Value.ref b] below meth c H [] 600000 7302250 (lw_Z below #[Value.ref b] s) (F0 m pc ls [.int 1]) := by
  intro T hT X
  obtain ⟨fs, hret, hrun, hended, hW, hframe⟩ := X.leave (v := some (.int 1)) (hlocks := hlocks) (fun h => by rw [hr] at h; cases h)
  have hmeth' : T.vm.method? m = some meth := X.method'
  refine ⟨T.setFrames fs, ?_, .returned (some (.int 1)), hrun, hended, rfl, ⟨_, rfl⟩, hW, hframe⟩
  jvm_step X.here [X.here.top, hx, hb, hdg, hmeth', hr, ret, narrow_b1]
  (try refine ⟨rfl, ?_⟩); (try refine ⟨rfl, ?_⟩)
  first | (intro acts; rw [hret _ acts rfl rfl rfl]) | rw [hret _ _ rfl rfl rfl]
  exact Steps.refl _
/-- what holds at the law's entry: the machine, the code, the tables' words (any of lw_tbl by 'hts w (by decide +kernel)'), the script of L ints xs at the cell b, what the Statement gives of the start (any of its parts by flat_of_before) -/
def lw_At (p : Program) (s : State) (m : MethodId) (meth : Method) (c : Code) (b L : Nat) (xs : Nat → Int32) : Prop :=
  p.tables.exec = Jvm.exec ∧ c.code = code ∧ meth.sig.returnType = ret ∧ c.maxLocals = 4 ∧ s.vm.findClass R_law = some m.cls ∧ (∀ w ∈ lw_tbl, w.before #[Value.ref b] s = true) ∧ va_X b L xs s s.heap ∧ b < s.heap.size ∧ meth.locks = false ∧ (Jvm.Cond.and given_1 narrow_1).before #[Value.ref b] s = true

def jM_L_law : jl_MC := (yL_law, cL_law, 4, ret, room_1)
def jl_EL (b : Nat) (B : Nat) : jl_EC := fun _ _ args s below t => args = #[Value.ref b] → s.heap.size = B → lw_Z below #[Value.ref b] s t
abbrev jL (G : jl_GC) (pc : Nat) (ls : List (Nat × Value)) (st : List Value) (σ : jl_Mm) (o : jl_O) : Prop := jl_J jl_lk G jM_L_law (jl_EL (jl_sb G) (jl_B G)) 286 286 117037 pc ls st σ o
theorem jr_sld {lk : jl_LK} {G : jl_GC} {M : jl_MC} {E : jl_EC} {nx ce sl pc : Nat} {ls : List (Nat × Value)} {st : List Value} {σ : jl_Mm} {o : jl_O} {i : Int} {xs : Nat → Int32} (hxs : jl_sx G = xs) (d : decode M.2.1 pc = .ok (.iaload, 1)) (hn : jl_n3 i) (hi : 0 ≤ i ∧ i < ((jl_sL G : Nat) : Int)) (k : jl_J lk G M E nx ce sl (pc + 1) ls (jl_vi ((xs i.toNat).toInt) :: st) σ o) : jl_J lk G M E nx ce sl pc ls (jl_vi i :: .ref (jl_sb G) :: st) σ o := by
  subst hxs
  intro r τ ho p e s m args below meth c H locs la C X S L
  have K := C.2.2.2.2.2.2.2.1.2.2.2.2.2.2
  have hH := C.2.2.2.2.2.2.2.2
  refine va_sld C.1 C.2.1 (K.1.kept (hH.2 _ K.2.1)) (Nat.lt_of_lt_of_le K.2.1 hH.1) (fun z => Nat.not_le.mpr K.2.1 z) S (jl_in3 hn hi) d ?_
  have z := k r τ ho p e s m args below meth c H locs la C X S L
  rw [jl_vi_to] at z
  rw [jl_cl3 hn]
  exact z
theorem jr_sln {lk : jl_LK} {G : jl_GC} {M : jl_MC} {E : jl_EC} {nx ce sl pc : Nat} {ls : List (Nat × Value)} {st : List Value} {σ : jl_Mm} {o : jl_O} {L0 : Nat} (hL : jl_sL G = L0) (d : decode M.2.1 pc = .ok (.arraylength, 1)) (k : jl_J lk G M E nx ce sl (pc + 1) ls (jl_vi ((L0 : Nat) : Int) :: st) σ o) : jl_J lk G M E nx ce sl pc ls (.ref (jl_sb G) :: st) σ o := by
  subst hL
  intro r τ ho p e s m args below meth c H locs la C X S L
  have K := C.2.2.2.2.2.2.2.1.2.2.2.2.2.2
  have hH := C.2.2.2.2.2.2.2.2
  exact va_slen C.1 C.2.1 (K.1.kept (hH.2 _ K.2.1)) (Nat.lt_of_lt_of_le K.2.1 hH.1) (fun z => Nat.not_le.mpr K.2.1 z) S d (k r τ ho p e s m args below meth c H locs la C X S L)
theorem jL_ret {G : jl_GC} {pc : Nat} {ls : List (Nat × Value)} {σ : jl_Mm} (d : decode cL_law pc = .ok (.ireturn, 1)) : jL G pc ls [jl_vi 1] σ (some (1, σ)) := by
  intro r τ ho p e s m args below meth c H locs la C X S L
  by_cases h : args = #[Value.ref (jl_sb G)] ∧ s.heap.size = jl_B G
  · obtain ⟨rfl, h2⟩ := h
    refine va_forget (fun q hq => by rw [h2]; exact S.2.2 q hq) ?_
    refine W.widen (k := 600000) (n := 7302250) (Nat.le_of_ble_eq_true rfl) (Nat.le_of_ble_eq_true rfl) ?_
    intro T hT XX
    obtain ⟨t, a1, b1⟩ := lw_ret (b := jl_sb G) (H := H) (ls := la) C.1 C.2.1 C.2.2.1.1 C.2.2.2.2.2.2.1 d T hT XX
    exact ⟨t, a1, fun _ _ => b1⟩
  · intro T hT XX
    exact ⟨_, Steps.refl _, fun h1 h2 => absurd ⟨h1, h2⟩ h⟩
theorem jL_callVi {G : jl_GC} {Y : jl_MC} {pc idx x ci n : Nat} {ls : List (Nat × Value)} {st stk As : List Value} {σ : jl_Mm} {o : jl_O} {kf : Int → jl_Mm → jl_O} (d : decode cL_law pc = .ok (.invokevirtual idx, 3)) (hct : jC2 G Y (jl_vr G x :: As) σ o) (hY : jl_MV Y As.length) (hz : jl_z0 Y (some .int)) (hl : Cond.methodLink RL idx Y.1 ∈ jl_tbl) (hk : jl_kd x = (ci, n)) (hci : ci < 20) (hx : x < 286) (hcl : (vwCl[ci]?).map (fun q => q.1) = some Y.1.cls) (hR : jl_fit jM_L_law Y) (hs : stk = As.reverse ++ jl_vr G x :: st) (hw : (st.map fun v => v.category).sum ≤ 8) (k : ∀ (r : Int) (τ : jl_Mm), jl_n3 r → jL G (pc + 3) ls (jl_vi r :: st) τ (kf r τ)) : jL G pc ls stk σ (jl_bd o kf) := by
  refine jr_callV hct hY hl hk hci hx hcl hR hs hw (by rw [hz.1, hz.2.1]; exact ⟨Nat.le_of_ble_eq_true rfl, Nat.le_of_ble_eq_true rfl⟩) d (fun r τ hn => ?_)
  rw [hz.2.2] at hn
  rw [hz.1, hz.2.1, hz.2.2]
  exact k r τ hn
theorem jL_callVz {G : jl_GC} {Y : jl_MC} {pc idx x ci n : Nat} {ls : List (Nat × Value)} {st stk As : List Value} {σ : jl_Mm} {o : jl_O} {kf : Int → jl_Mm → jl_O} (d : decode cL_law pc = .ok (.invokevirtual idx, 3)) (hct : jC2 G Y (jl_vr G x :: As) σ o) (hY : jl_MV Y As.length) (hz : jl_z0 Y (some .boolean)) (hl : Cond.methodLink RL idx Y.1 ∈ jl_tbl) (hk : jl_kd x = (ci, n)) (hci : ci < 20) (hx : x < 286) (hcl : (vwCl[ci]?).map (fun q => q.1) = some Y.1.cls) (hR : jl_fit jM_L_law Y) (hs : stk = As.reverse ++ jl_vr G x :: st) (hw : (st.map fun v => v.category).sum ≤ 8) (k : ∀ (r : Int) (τ : jl_Mm), (r = 0 ∨ r = 1) → jL G (pc + 3) ls (jl_vi r :: st) τ (kf r τ)) : jL G pc ls stk σ (jl_bd o kf) := by
  refine jr_callV hct hY hl hk hci hx hcl hR hs hw (by rw [hz.1, hz.2.1]; exact ⟨Nat.le_of_ble_eq_true rfl, Nat.le_of_ble_eq_true rfl⟩) d (fun r τ hn => ?_)
  rw [hz.2.2] at hn
  rw [hz.1, hz.2.1, hz.2.2]
  exact k r τ hn
theorem jL_callVl {G : jl_GC} {Y : jl_MC} {pc idx x ci n : Nat} {ls : List (Nat × Value)} {st stk As : List Value} {σ : jl_Mm} {o : jl_O} {kf : Int → jl_Mm → jl_O} (d : decode cL_law pc = .ok (.invokevirtual idx, 3)) (hct : jC2 G Y (jl_vr G x :: As) σ o) (hY : jl_MV Y As.length) (hz : jl_z0 Y (some .long)) (hl : Cond.methodLink RL idx Y.1 ∈ jl_tbl) (hk : jl_kd x = (ci, n)) (hci : ci < 20) (hx : x < 286) (hcl : (vwCl[ci]?).map (fun q => q.1) = some Y.1.cls) (hR : jl_fit jM_L_law Y) (hs : stk = As.reverse ++ jl_vr G x :: st) (hw : (st.map fun v => v.category).sum ≤ 8) (k : ∀ (r : Int) (τ : jl_Mm), jl_n6 r → jL G (pc + 3) ls (jl_vl r :: st) τ (kf r τ)) : jL G pc ls stk σ (jl_bd o kf) := by
  refine jr_callV hct hY hl hk hci hx hcl hR hs hw (by rw [hz.1, hz.2.1]; exact ⟨Nat.le_of_ble_eq_true rfl, Nat.le_of_ble_eq_true rfl⟩) d (fun r τ hn => ?_)
  rw [hz.2.2] at hn
  rw [hz.1, hz.2.1, hz.2.2]
  exact k r τ hn
def jf_L_law_B1181 (L : Nat) (xs : Nat → Int32) (R18 : Int → jl_Mm → jl_O) (l3 : Int) (s0 : jl_Mm) : jl_O :=
  R18 (jl_add l3 6) s0
set_option maxRecDepth 20000 in
set_option maxHeartbeats 8000000 in
theorem jj_L_law_B1181 (G : jl_GC) (L : Nat) (xs : Nat → Int32) (hL : jl_sL G = L) (hxs : jl_sx G = xs) (hL3 : jl_n3 ((L : Nat) : Int)) (R18 : Int → jl_Mm → jl_O) (hR18 : ∀ (l3 : Int) (_hl3 : jl_n3 l3) (s0 : jl_Mm), jL G 18 [(0, Value.ref (jl_sb G)), (1, jl_vr G 0), (2, jl_vr G 206), (3, jl_vi l3)] [] s0 (R18 l3 s0)) (l3 : Int) (hl3 : jl_n3 l3) (s0 : jl_Mm) : jL G 1181 [(0, Value.ref (jl_sb G)), (1, jl_vr G 0), (2, jl_vr G 206), (3, jl_vi l3)] [] s0 (jf_L_law_B1181 L xs R18 l3 s0) := by
  refine jr_iinc (j := 3) (lv := [(3, jl_vi (jl_add l3 6)), (0, Value.ref (jl_sb G)), (1, jl_vr G 0), (2, jl_vr G 206)]) dL_law_1181 rfl (Nat.le_of_ble_eq_true rfl) rfl ?_
  refine jr_goto (t := 18) dL_law_1184 (by decide) ?_
  refine jr_sub [1, 2, 3, 0] rfl ?_
  exact hR18 (jl_add l3 6) (jl_n3_to _) s0
def jf_L_law_L18 (L : Nat) (xs : Nat → Int32) : Nat → Int → jl_Mm → jl_O
  | 0, _, _ => none
  | n + 1, l3, s0 =>
    if jl_sub ((L : Nat) : Int) (6 : Int) < l3 then (some (1, s0)) else (if 0 ≤ l3 ∧ l3 < ((L : Nat) : Int) then jl_let (jl_and ((xs (l3).toNat).toInt) (63 : Int)) fun x3 => if x3 = 0 then (if 0 ≤ jl_add l3 (1 : Int) ∧ jl_add l3 (1 : Int) < ((L : Nat) : Int) then if 0 ≤ jl_add l3 (2 : Int) ∧ jl_add l3 (2 : Int) < ((L : Nat) : Int) then if 0 ≤ jl_add l3 (3 : Int) ∧ jl_add l3 (3 : Int) < ((L : Nat) : Int) then if 0 ≤ jl_add l3 (4 : Int) ∧ jl_add l3 (4 : Int) < ((L : Nat) : Int) then if 0 ≤ jl_add l3 (5 : Int) ∧ jl_add l3 (5 : Int) < ((L : Nat) : Int) then jl_bd (jf_X11_feed ((xs (jl_add l3 (1 : Int)).toNat).toInt) ((xs (jl_add l3 (2 : Int)).toNat).toInt) ((xs (jl_add l3 (3 : Int)).toNat).toInt) ((xs (jl_add l3 (4 : Int)).toNat).toInt) ((xs (jl_add l3 (5 : Int)).toNat).toInt) s0) fun r10 s11 => if 0 ≤ jl_add l3 (1 : Int) ∧ jl_add l3 (1 : Int) < ((L : Nat) : Int) then if 0 ≤ jl_add l3 (2 : Int) ∧ jl_add l3 (2 : Int) < ((L : Nat) : Int) then if 0 ≤ jl_add l3 (3 : Int) ∧ jl_add l3 (3 : Int) < ((L : Nat) : Int) then if 0 ≤ jl_add l3 (4 : Int) ∧ jl_add l3 (4 : Int) < ((L : Nat) : Int) then if 0 ≤ jl_add l3 (5 : Int) ∧ jl_add l3 (5 : Int) < ((L : Nat) : Int) then jl_bd (jf_X12_feed ((xs (jl_add l3 (1 : Int)).toNat).toInt) ((xs (jl_add l3 (2 : Int)).toNat).toInt) ((xs (jl_add l3 (3 : Int)).toNat).toInt) ((xs (jl_add l3 (4 : Int)).toNat).toInt) ((xs (jl_add l3 (5 : Int)).toNat).toInt) s11) fun r17 s18 => if r10 = r17 then (jf_L_law_B1181 L xs (jf_L_law_L18 L xs n) l3 s18) else none else none else none else none else none else none else none else none else none else none else none) else if x3 = 1 then (if 0 ≤ jl_add l3 (1 : Int) ∧ jl_add l3 (1 : Int) < ((L : Nat) : Int) then jl_bd (jf_X11_end ((xs (jl_add l3 (1 : Int)).toNat).toInt) s0) fun r22 s23 => if 0 ≤ jl_add l3 (1 : Int) ∧ jl_add l3 (1 : Int) < ((L : Nat) : Int) then jl_bd (jf_X12_end ((xs (jl_add l3 (1 : Int)).toNat).toInt) s23) fun r25 s26 => if r22 = r25 then (jf_L_law_B1181 L xs (jf_L_law_L18 L xs n) l3 s26) else none else none else none) else if x3 = 2 then (jl_bd (jf_X11_street s0) fun r29 s30 => jl_bd (jf_X12_street s30) fun r31 s32 => if r29 = r31 then (jf_L_law_B1181 L xs (jf_L_law_L18 L xs n) l3 s32) else none) else if x3 = 3 then (if 0 ≤ jl_add l3 (1 : Int) ∧ jl_add l3 (1 : Int) < ((L : Nat) : Int) then jl_bd (jf_X11_fault ((xs (jl_add l3 (1 : Int)).toNat).toInt) s0) fun r36 s37 => if 0 ≤ jl_add l3 (1 : Int) ∧ jl_add l3 (1 : Int) < ((L : Nat) : Int) then jl_bd (jf_X12_fault ((xs (jl_add l3 (1 : Int)).toNat).toInt) s37) fun r39 s40 => if r36 = r39 then (jf_L_law_B1181 L xs (jf_L_law_L18 L xs n) l3 s40) else none else none else none) else if x3 = 4 then (if 0 ≤ jl_add l3 (1 : Int) ∧ jl_add l3 (1 : Int) < ((L : Nat) : Int) then jl_bd (jf_X11_has ((xs (jl_add l3 (1 : Int)).toNat).toInt) s0) fun r44 s45 => if 0 ≤ jl_add l3 (1 : Int) ∧ jl_add l3 (1 : Int) < ((L : Nat) : Int) then jl_bd (jf_X12_has ((xs (jl_add l3 (1 : Int)).toNat).toInt) s45) fun r47 s48 => if r44 = r47 then (jf_L_law_B1181 L xs (jf_L_law_L18 L xs n) l3 s48) else none else none else none) else if x3 = 5 then (if 0 ≤ jl_add l3 (1 : Int) ∧ jl_add l3 (1 : Int) < ((L : Nat) : Int) then if 0 ≤ jl_add l3 (2 : Int) ∧ jl_add l3 (2 : Int) < ((L : Nat) : Int) then if 0 ≤ jl_add l3 (3 : Int) ∧ jl_add l3 (3 : Int) < ((L : Nat) : Int) then jl_bd (jf_X11_letter ((xs (jl_add l3 (1 : Int)).toNat).toInt) ((xs (jl_add l3 (2 : Int)).toNat).toInt) ((xs (jl_add l3 (3 : Int)).toNat).toInt) s0) fun r54 s55 => if 0 ≤ jl_add l3 (1 : Int) ∧ jl_add l3 (1 : Int) < ((L : Nat) : Int) then if 0 ≤ jl_add l3 (2 : Int) ∧ jl_add l3 (2 : Int) < ((L : Nat) : Int) then if 0 ≤ jl_add l3 (3 : Int) ∧ jl_add l3 (3 : Int) < ((L : Nat) : Int) then jl_bd (jf_X12_letter ((xs (jl_add l3 (1 : Int)).toNat).toInt) ((xs (jl_add l3 (2 : Int)).toNat).toInt) ((xs (jl_add l3 (3 : Int)).toNat).toInt) s55) fun r59 s60 => if r54 = r59 then (jf_L_law_B1181 L xs (jf_L_law_L18 L xs n) l3 s60) else none else none else none else none else none else none else none) else if x3 = 6 then (if 0 ≤ jl_add l3 (1 : Int) ∧ jl_add l3 (1 : Int) < ((L : Nat) : Int) then if 0 ≤ jl_add l3 (2 : Int) ∧ jl_add l3 (2 : Int) < ((L : Nat) : Int) then jl_bd (jf_X11_person ((xs (jl_add l3 (1 : Int)).toNat).toInt) ((xs (jl_add l3 (2 : Int)).toNat).toInt) s0) fun r65 s66 => if 0 ≤ jl_add l3 (1 : Int) ∧ jl_add l3 (1 : Int) < ((L : Nat) : Int) then if 0 ≤ jl_add l3 (2 : Int) ∧ jl_add l3 (2 : Int) < ((L : Nat) : Int) then jl_bd (jf_X12_person ((xs (jl_add l3 (1 : Int)).toNat).toInt) ((xs (jl_add l3 (2 : Int)).toNat).toInt) s66) fun r69 s70 => if r65 = r69 then (jf_L_law_B1181 L xs (jf_L_law_L18 L xs n) l3 s70) else none else none else none else none else none) else if x3 = 7 then (if 0 ≤ jl_add l3 (1 : Int) ∧ jl_add l3 (1 : Int) < ((L : Nat) : Int) then if 0 ≤ jl_add l3 (2 : Int) ∧ jl_add l3 (2 : Int) < ((L : Nat) : Int) then jl_bd (jf_X11_lie ((xs (jl_add l3 (1 : Int)).toNat).toInt) ((xs (jl_add l3 (2 : Int)).toNat).toInt) s0) fun r75 s76 => if 0 ≤ jl_add l3 (1 : Int) ∧ jl_add l3 (1 : Int) < ((L : Nat) : Int) then if 0 ≤ jl_add l3 (2 : Int) ∧ jl_add l3 (2 : Int) < ((L : Nat) : Int) then jl_bd (jf_X12_lie ((xs (jl_add l3 (1 : Int)).toNat).toInt) ((xs (jl_add l3 (2 : Int)).toNat).toInt) s76) fun r79 s80 => if r75 = r79 then (jf_L_law_B1181 L xs (jf_L_law_L18 L xs n) l3 s80) else none else none else none else none else none) else if x3 = 8 then (if 0 ≤ jl_add l3 (1 : Int) ∧ jl_add l3 (1 : Int) < ((L : Nat) : Int) then if 0 ≤ jl_add l3 (2 : Int) ∧ jl_add l3 (2 : Int) < ((L : Nat) : Int) then jl_bd (jf_X11_draft ((xs (jl_add l3 (1 : Int)).toNat).toInt) ((xs (jl_add l3 (2 : Int)).toNat).toInt) s0) fun r85 s86 => if 0 ≤ jl_add l3 (1 : Int) ∧ jl_add l3 (1 : Int) < ((L : Nat) : Int) then if 0 ≤ jl_add l3 (2 : Int) ∧ jl_add l3 (2 : Int) < ((L : Nat) : Int) then jl_bd (jf_X12_draft ((xs (jl_add l3 (1 : Int)).toNat).toInt) ((xs (jl_add l3 (2 : Int)).toNat).toInt) s86) fun r89 s90 => if r85 = r89 then (jf_L_law_B1181 L xs (jf_L_law_L18 L xs n) l3 s90) else none else none else none else none else none) else if x3 = 9 then (if 0 ≤ jl_add l3 (1 : Int) ∧ jl_add l3 (1 : Int) < ((L : Nat) : Int) then if 0 ≤ jl_add l3 (2 : Int) ∧ jl_add l3 (2 : Int) < ((L : Nat) : Int) then jl_bd (jf_X11_plan ((xs (jl_add l3 (1 : Int)).toNat).toInt) ((xs (jl_add l3 (2 : Int)).toNat).toInt) s0) fun r95 s96 => if 0 ≤ jl_add l3 (1 : Int) ∧ jl_add l3 (1 : Int) < ((L : Nat) : Int) then if 0 ≤ jl_add l3 (2 : Int) ∧ jl_add l3 (2 : Int) < ((L : Nat) : Int) then jl_bd (jf_X12_plan ((xs (jl_add l3 (1 : Int)).toNat).toInt) ((xs (jl_add l3 (2 : Int)).toNat).toInt) s96) fun r99 s100 => if r95 = r99 then (jf_L_law_B1181 L xs (jf_L_law_L18 L xs n) l3 s100) else none else none else none else none else none) else if x3 = 10 then (if 0 ≤ jl_add l3 (1 : Int) ∧ jl_add l3 (1 : Int) < ((L : Nat) : Int) then if 0 ≤ jl_add l3 (2 : Int) ∧ jl_add l3 (2 : Int) < ((L : Nat) : Int) then jl_bd (jf_X11_kept ((xs (jl_add l3 (1 : Int)).toNat).toInt) ((xs (jl_add l3 (2 : Int)).toNat).toInt) s0) fun r105 s106 => if 0 ≤ jl_add l3 (1 : Int) ∧ jl_add l3 (1 : Int) < ((L : Nat) : Int) then if 0 ≤ jl_add l3 (2 : Int) ∧ jl_add l3 (2 : Int) < ((L : Nat) : Int) then jl_bd (jf_X12_kept ((xs (jl_add l3 (1 : Int)).toNat).toInt) ((xs (jl_add l3 (2 : Int)).toNat).toInt) s106) fun r109 s110 => if r105 = r109 then (jf_L_law_B1181 L xs (jf_L_law_L18 L xs n) l3 s110) else none else none else none else none else none) else if x3 = 11 then (if 0 ≤ jl_add l3 (1 : Int) ∧ jl_add l3 (1 : Int) < ((L : Nat) : Int) then if 0 ≤ jl_add l3 (2 : Int) ∧ jl_add l3 (2 : Int) < ((L : Nat) : Int) then jl_bd (jf_X11_later ((xs (jl_add l3 (1 : Int)).toNat).toInt) ((xs (jl_add l3 (2 : Int)).toNat).toInt) s0) fun r115 s116 => if 0 ≤ jl_add l3 (1 : Int) ∧ jl_add l3 (1 : Int) < ((L : Nat) : Int) then if 0 ≤ jl_add l3 (2 : Int) ∧ jl_add l3 (2 : Int) < ((L : Nat) : Int) then jl_bd (jf_X12_later ((xs (jl_add l3 (1 : Int)).toNat).toInt) ((xs (jl_add l3 (2 : Int)).toNat).toInt) s116) fun r119 s120 => if r115 = r119 then (jf_L_law_B1181 L xs (jf_L_law_L18 L xs n) l3 s120) else none else none else none else none else none) else if x3 = 12 then (if 0 ≤ jl_add l3 (1 : Int) ∧ jl_add l3 (1 : Int) < ((L : Nat) : Int) then if 0 ≤ jl_add l3 (2 : Int) ∧ jl_add l3 (2 : Int) < ((L : Nat) : Int) then jl_bd (jf_X11_held ((xs (jl_add l3 (1 : Int)).toNat).toInt) ((xs (jl_add l3 (2 : Int)).toNat).toInt) s0) fun r125 s126 => if 0 ≤ jl_add l3 (1 : Int) ∧ jl_add l3 (1 : Int) < ((L : Nat) : Int) then if 0 ≤ jl_add l3 (2 : Int) ∧ jl_add l3 (2 : Int) < ((L : Nat) : Int) then jl_bd (jf_X12_held ((xs (jl_add l3 (1 : Int)).toNat).toInt) ((xs (jl_add l3 (2 : Int)).toNat).toInt) s126) fun r129 s130 => if r125 = r129 then (jf_L_law_B1181 L xs (jf_L_law_L18 L xs n) l3 s130) else none else none else none else none else none) else if x3 = 13 then (if 0 ≤ jl_add l3 (1 : Int) ∧ jl_add l3 (1 : Int) < ((L : Nat) : Int) then jl_bd (jf_X11_out ((xs (jl_add l3 (1 : Int)).toNat).toInt) s0) fun r134 s135 => if 0 ≤ jl_add l3 (1 : Int) ∧ jl_add l3 (1 : Int) < ((L : Nat) : Int) then jl_bd (jf_X12_out ((xs (jl_add l3 (1 : Int)).toNat).toInt) s135) fun r137 s138 => if r134 = r137 then (jf_L_law_B1181 L xs (jf_L_law_L18 L xs n) l3 s138) else none else none else none) else if x3 = 14 then (if 0 ≤ jl_add l3 (1 : Int) ∧ jl_add l3 (1 : Int) < ((L : Nat) : Int) then if 0 ≤ jl_add l3 (2 : Int) ∧ jl_add l3 (2 : Int) < ((L : Nat) : Int) then jl_bd (jf_X11_trusted ((xs (jl_add l3 (1 : Int)).toNat).toInt) ((xs (jl_add l3 (2 : Int)).toNat).toInt) s0) fun r143 s144 => if 0 ≤ jl_add l3 (1 : Int) ∧ jl_add l3 (1 : Int) < ((L : Nat) : Int) then if 0 ≤ jl_add l3 (2 : Int) ∧ jl_add l3 (2 : Int) < ((L : Nat) : Int) then jl_bd (jf_X12_trusted ((xs (jl_add l3 (1 : Int)).toNat).toInt) ((xs (jl_add l3 (2 : Int)).toNat).toInt) s144) fun r147 s148 => if r143 = r147 then (jf_L_law_B1181 L xs (jf_L_law_L18 L xs n) l3 s148) else none else none else none else none else none) else if x3 = 15 then (if 0 ≤ jl_add l3 (1 : Int) ∧ jl_add l3 (1 : Int) < ((L : Nat) : Int) then if 0 ≤ jl_add l3 (2 : Int) ∧ jl_add l3 (2 : Int) < ((L : Nat) : Int) then jl_bd (jf_X11_shorts ((xs (jl_add l3 (1 : Int)).toNat).toInt) ((xs (jl_add l3 (2 : Int)).toNat).toInt) s0) fun r153 s154 => if 0 ≤ jl_add l3 (1 : Int) ∧ jl_add l3 (1 : Int) < ((L : Nat) : Int) then if 0 ≤ jl_add l3 (2 : Int) ∧ jl_add l3 (2 : Int) < ((L : Nat) : Int) then jl_bd (jf_X12_shorts ((xs (jl_add l3 (1 : Int)).toNat).toInt) ((xs (jl_add l3 (2 : Int)).toNat).toInt) s154) fun r157 s158 => if r153 = r157 then (jf_L_law_B1181 L xs (jf_L_law_L18 L xs n) l3 s158) else none else none else none else none else none) else if x3 = 16 then (if 0 ≤ jl_add l3 (1 : Int) ∧ jl_add l3 (1 : Int) < ((L : Nat) : Int) then if 0 ≤ jl_add l3 (2 : Int) ∧ jl_add l3 (2 : Int) < ((L : Nat) : Int) then jl_bd (jf_X11_together ((xs (jl_add l3 (1 : Int)).toNat).toInt) ((xs (jl_add l3 (2 : Int)).toNat).toInt) s0) fun r163 s164 => if 0 ≤ jl_add l3 (1 : Int) ∧ jl_add l3 (1 : Int) < ((L : Nat) : Int) then if 0 ≤ jl_add l3 (2 : Int) ∧ jl_add l3 (2 : Int) < ((L : Nat) : Int) then jl_bd (jf_X12_together ((xs (jl_add l3 (1 : Int)).toNat).toInt) ((xs (jl_add l3 (2 : Int)).toNat).toInt) s164) fun r167 s168 => if r163 = r167 then (jf_L_law_B1181 L xs (jf_L_law_L18 L xs n) l3 s168) else none else none else none else none else none) else if x3 = 17 then (if 0 ≤ jl_add l3 (1 : Int) ∧ jl_add l3 (1 : Int) < ((L : Nat) : Int) then if 0 ≤ jl_add l3 (2 : Int) ∧ jl_add l3 (2 : Int) < ((L : Nat) : Int) then jl_bd (jf_X11_keystone ((xs (jl_add l3 (1 : Int)).toNat).toInt) ((xs (jl_add l3 (2 : Int)).toNat).toInt) s0) fun r173 s174 => if 0 ≤ jl_add l3 (1 : Int) ∧ jl_add l3 (1 : Int) < ((L : Nat) : Int) then if 0 ≤ jl_add l3 (2 : Int) ∧ jl_add l3 (2 : Int) < ((L : Nat) : Int) then jl_bd (jf_X12_keystone ((xs (jl_add l3 (1 : Int)).toNat).toInt) ((xs (jl_add l3 (2 : Int)).toNat).toInt) s174) fun r177 s178 => if r173 = r177 then (jf_L_law_B1181 L xs (jf_L_law_L18 L xs n) l3 s178) else none else none else none else none else none) else if x3 = 18 then (if 0 ≤ jl_add l3 (1 : Int) ∧ jl_add l3 (1 : Int) < ((L : Nat) : Int) then if 0 ≤ jl_add l3 (2 : Int) ∧ jl_add l3 (2 : Int) < ((L : Nat) : Int) then jl_bd (jf_X11_change ((xs (jl_add l3 (1 : Int)).toNat).toInt) ((xs (jl_add l3 (2 : Int)).toNat).toInt) s0) fun r183 s184 => if 0 ≤ jl_add l3 (1 : Int) ∧ jl_add l3 (1 : Int) < ((L : Nat) : Int) then if 0 ≤ jl_add l3 (2 : Int) ∧ jl_add l3 (2 : Int) < ((L : Nat) : Int) then jl_bd (jf_X12_change ((xs (jl_add l3 (1 : Int)).toNat).toInt) ((xs (jl_add l3 (2 : Int)).toNat).toInt) s184) fun r187 s188 => if r183 = r187 then (jf_L_law_B1181 L xs (jf_L_law_L18 L xs n) l3 s188) else none else none else none else none else none) else if x3 = 19 then (if 0 ≤ jl_add l3 (1 : Int) ∧ jl_add l3 (1 : Int) < ((L : Nat) : Int) then jl_bd (jf_X11_odds ((xs (jl_add l3 (1 : Int)).toNat).toInt) s0) fun r192 s193 => if 0 ≤ jl_add l3 (1 : Int) ∧ jl_add l3 (1 : Int) < ((L : Nat) : Int) then jl_bd (jf_X12_odds ((xs (jl_add l3 (1 : Int)).toNat).toInt) s193) fun r195 s196 => if r192 = r195 then (jf_L_law_B1181 L xs (jf_L_law_L18 L xs n) l3 s196) else none else none else none) else if x3 = 20 then (jl_bd (jf_X11_see s0) fun r199 s200 => jl_bd (jf_X12_see s200) fun r201 s202 => if r199 = r201 then (jf_L_law_B1181 L xs (jf_L_law_L18 L xs n) l3 s202) else none) else if x3 = 21 then (if 0 ≤ jl_add l3 (1 : Int) ∧ jl_add l3 (1 : Int) < ((L : Nat) : Int) then if 0 ≤ jl_add l3 (2 : Int) ∧ jl_add l3 (2 : Int) < ((L : Nat) : Int) then jl_bd (jf_X11_inches ((xs (jl_add l3 (1 : Int)).toNat).toInt) ((xs (jl_add l3 (2 : Int)).toNat).toInt) s0) fun r207 s208 => if 0 ≤ jl_add l3 (1 : Int) ∧ jl_add l3 (1 : Int) < ((L : Nat) : Int) then if 0 ≤ jl_add l3 (2 : Int) ∧ jl_add l3 (2 : Int) < ((L : Nat) : Int) then jl_bd (jf_X12_inches ((xs (jl_add l3 (1 : Int)).toNat).toInt) ((xs (jl_add l3 (2 : Int)).toNat).toInt) s208) fun r211 s212 => if r207 = r211 then (jf_L_law_B1181 L xs (jf_L_law_L18 L xs n) l3 s212) else none else none else none else none else none) else if x3 = 22 then (if 0 ≤ jl_add l3 (1 : Int) ∧ jl_add l3 (1 : Int) < ((L : Nat) : Int) then if 0 ≤ jl_add l3 (2 : Int) ∧ jl_add l3 (2 : Int) < ((L : Nat) : Int) then jl_bd (jf_X11_tells ((xs (jl_add l3 (1 : Int)).toNat).toInt) ((xs (jl_add l3 (2 : Int)).toNat).toInt) s0) fun r217 s218 => if 0 ≤ jl_add l3 (1 : Int) ∧ jl_add l3 (1 : Int) < ((L : Nat) : Int) then if 0 ≤ jl_add l3 (2 : Int) ∧ jl_add l3 (2 : Int) < ((L : Nat) : Int) then jl_bd (jf_X12_tells ((xs (jl_add l3 (1 : Int)).toNat).toInt) ((xs (jl_add l3 (2 : Int)).toNat).toInt) s218) fun r221 s222 => if r217 = r221 then (jf_L_law_B1181 L xs (jf_L_law_L18 L xs n) l3 s222) else none else none else none else none else none) else if x3 = 23 then (if 0 ≤ jl_add l3 (1 : Int) ∧ jl_add l3 (1 : Int) < ((L : Nat) : Int) then if 0 ≤ jl_add l3 (2 : Int) ∧ jl_add l3 (2 : Int) < ((L : Nat) : Int) then jl_bd (jf_X11_light ((xs (jl_add l3 (1 : Int)).toNat).toInt) ((xs (jl_add l3 (2 : Int)).toNat).toInt) s0) fun r227 s228 => if 0 ≤ jl_add l3 (1 : Int) ∧ jl_add l3 (1 : Int) < ((L : Nat) : Int) then if 0 ≤ jl_add l3 (2 : Int) ∧ jl_add l3 (2 : Int) < ((L : Nat) : Int) then jl_bd (jf_X12_light ((xs (jl_add l3 (1 : Int)).toNat).toInt) ((xs (jl_add l3 (2 : Int)).toNat).toInt) s228) fun r231 s232 => if r227 = r231 then (jf_L_law_B1181 L xs (jf_L_law_L18 L xs n) l3 s232) else none else none else none else none else none) else if x3 = 24 then (if 0 ≤ jl_add l3 (1 : Int) ∧ jl_add l3 (1 : Int) < ((L : Nat) : Int) then jl_bd (jf_X11_snuff ((xs (jl_add l3 (1 : Int)).toNat).toInt) s0) fun r236 s237 => if 0 ≤ jl_add l3 (1 : Int) ∧ jl_add l3 (1 : Int) < ((L : Nat) : Int) then jl_bd (jf_X12_snuff ((xs (jl_add l3 (1 : Int)).toNat).toInt) s237) fun r239 s240 => if r236 = r239 then (jf_L_law_B1181 L xs (jf_L_law_L18 L xs n) l3 s240) else none else none else none) else if x3 = 25 then (if 0 ≤ jl_add l3 (1 : Int) ∧ jl_add l3 (1 : Int) < ((L : Nat) : Int) then if 0 ≤ jl_add l3 (2 : Int) ∧ jl_add l3 (2 : Int) < ((L : Nat) : Int) then jl_bd (jf_X11_move ((xs (jl_add l3 (1 : Int)).toNat).toInt) ((xs (jl_add l3 (2 : Int)).toNat).toInt) s0) fun r245 s246 => if 0 ≤ jl_add l3 (1 : Int) ∧ jl_add l3 (1 : Int) < ((L : Nat) : Int) then if 0 ≤ jl_add l3 (2 : Int) ∧ jl_add l3 (2 : Int) < ((L : Nat) : Int) then jl_bd (jf_X12_move ((xs (jl_add l3 (1 : Int)).toNat).toInt) ((xs (jl_add l3 (2 : Int)).toNat).toInt) s246) fun r249 s250 => if r245 = r249 then (jf_L_law_B1181 L xs (jf_L_law_L18 L xs n) l3 s250) else none else none else none else none else none) else if x3 = 26 then (if 0 ≤ jl_add l3 (1 : Int) ∧ jl_add l3 (1 : Int) < ((L : Nat) : Int) then jl_bd (jf_X11_buy ((xs (jl_add l3 (1 : Int)).toNat).toInt) s0) fun r254 s255 => if 0 ≤ jl_add l3 (1 : Int) ∧ jl_add l3 (1 : Int) < ((L : Nat) : Int) then jl_bd (jf_X12_buy ((xs (jl_add l3 (1 : Int)).toNat).toInt) s255) fun r257 s258 => if r254 = r257 then (jf_L_law_B1181 L xs (jf_L_law_L18 L xs n) l3 s258) else none else none else none) else if x3 = 27 then (if 0 ≤ jl_add l3 (1 : Int) ∧ jl_add l3 (1 : Int) < ((L : Nat) : Int) then jl_bd (jf_X11_hours ((xs (jl_add l3 (1 : Int)).toNat).toInt) s0) fun r262 s263 => if 0 ≤ jl_add l3 (1 : Int) ∧ jl_add l3 (1 : Int) < ((L : Nat) : Int) then jl_bd (jf_X12_hours ((xs (jl_add l3 (1 : Int)).toNat).toInt) s263) fun r265 s266 => if r262 = r265 then (jf_L_law_B1181 L xs (jf_L_law_L18 L xs n) l3 s266) else none else none else none) else if x3 = 28 then (if 0 ≤ jl_add l3 (1 : Int) ∧ jl_add l3 (1 : Int) < ((L : Nat) : Int) then jl_bd (jf_X11_chance ((xs (jl_add l3 (1 : Int)).toNat).toInt) s0) fun r270 s271 => if 0 ≤ jl_add l3 (1 : Int) ∧ jl_add l3 (1 : Int) < ((L : Nat) : Int) then jl_bd (jf_X12_chance ((xs (jl_add l3 (1 : Int)).toNat).toInt) s271) fun r273 s274 => if r270 = r273 then (jf_L_law_B1181 L xs (jf_L_law_L18 L xs n) l3 s274) else none else none else none) else if x3 = 29 then (jl_bd (jf_X11_undo s0) fun r277 s278 => jl_bd (jf_X12_undo s278) fun r279 s280 => if r277 = r279 then (jf_L_law_B1181 L xs (jf_L_law_L18 L xs n) l3 s280) else none) else if x3 = 30 then (if 0 ≤ jl_add l3 (1 : Int) ∧ jl_add l3 (1 : Int) < ((L : Nat) : Int) then jl_bd (jf_X11_seed ((xs (jl_add l3 (1 : Int)).toNat).toInt) s0) fun r284 s285 => if 0 ≤ jl_add l3 (1 : Int) ∧ jl_add l3 (1 : Int) < ((L : Nat) : Int) then jl_bd (jf_X12_seed ((xs (jl_add l3 (1 : Int)).toNat).toInt) s285) fun r287 s288 => if r284 = r287 then (jf_L_law_B1181 L xs (jf_L_law_L18 L xs n) l3 s288) else none else none else none) else if x3 = 31 then (jl_bd (jf_X11_ask s0) fun r291 s292 => jl_bd (jf_X12_ask s292) fun r293 s294 => if jl_lcmp r291 r293 = (0 : Int) then (jf_L_law_B1181 L xs (jf_L_law_L18 L xs n) l3 s294) else none) else if x3 = 32 then (jl_bd (jf_X11_image s0) fun r297 s298 => jl_bd (jf_X12_image s298) fun r299 s300 => if r297 = r299 then (jf_L_law_B1181 L xs (jf_L_law_L18 L xs n) l3 s300) else none) else if x3 = 33 then (if 0 ≤ jl_add l3 (1 : Int) ∧ jl_add l3 (1 : Int) < ((L : Nat) : Int) then jl_bd (jf_X11_octet ((xs (jl_add l3 (1 : Int)).toNat).toInt) s0) fun r304 s305 => if 0 ≤ jl_add l3 (1 : Int) ∧ jl_add l3 (1 : Int) < ((L : Nat) : Int) then jl_bd (jf_X12_octet ((xs (jl_add l3 (1 : Int)).toNat).toInt) s305) fun r307 s308 => if r304 = r307 then (jf_L_law_B1181 L xs (jf_L_law_L18 L xs n) l3 s308) else none else none else none) else if x3 = 34 then (jl_bd (jf_X11_on s0) fun r311 s312 => jl_bd (jf_X12_on s312) fun r313 s314 => if r311 = r313 then (jf_L_law_B1181 L xs (jf_L_law_L18 L xs n) l3 s314) else none) else if x3 = 35 then (if 0 ≤ jl_add l3 (1 : Int) ∧ jl_add l3 (1 : Int) < ((L : Nat) : Int) then jl_bd (jf_X11_status ((xs (jl_add l3 (1 : Int)).toNat).toInt) s0) fun r318 s319 => if 0 ≤ jl_add l3 (1 : Int) ∧ jl_add l3 (1 : Int) < ((L : Nat) : Int) then jl_bd (jf_X12_status ((xs (jl_add l3 (1 : Int)).toNat).toInt) s319) fun r321 s322 => if r318 = r321 then (jf_L_law_B1181 L xs (jf_L_law_L18 L xs n) l3 s322) else none else none else none) else (jf_L_law_B1181 L xs (jf_L_law_L18 L xs n) l3 s0) else none)
set_option maxRecDepth 20000 in
set_option maxHeartbeats 8000000 in
theorem jj_L_law_L18 (G : jl_GC) (L : Nat) (xs : Nat → Int32) (hL : jl_sL G = L) (hxs : jl_sx G = xs) (hL3 : jl_n3 ((L : Nat) : Int)) : ∀ (n : Nat) (l3 : Int) (hl3 : jl_n3 l3) (s0 : jl_Mm), jL G 18 [(0, Value.ref (jl_sb G)), (1, jl_vr G 0), (2, jl_vr G 206), (3, jl_vi l3)] [] s0 (jf_L_law_L18 L xs n l3 s0) := by
  intro n
  induction n with
  | zero =>
    intros
    exact jr_none
  | succ n ih =>
    intro l3 hl3 s0
    refine jr_iload_n dL_law_18 3 rfl ?_
    refine jr_aload_n dL_law_19 0 rfl ?_
    refine jr_sln hL dL_law_20 ?_
    refine jr_bipush dL_law_21 (by decide) ?_
    refine jr_isub dL_law_23 ?_
    refine jr_icmp_gt (t := 1187) dL_law_24 (by decide) hl3 (jl_n3_to _) (fun c1 => ?_) (fun c1 => ?_)
    · refine jr_iconst dL_law_1187 ?_
      exact jL_ret dL_law_1188
    · refine jr_aload_n dL_law_27 0 rfl ?_
      refine jr_iload_n dL_law_28 3 rfl ?_
      refine jr_grd (fun g2 => ?_)
      refine jr_sld hxs dL_law_29 hl3 (by rw [hL]; exact g2) ?_
      refine jr_bipush dL_law_30 (by decide) ?_
      refine jr_iand dL_law_32 ?_
      refine jr_let (jl_n3_to _) (fun x3 hx3 => ?_)
      refine jr_ite (fun c4 => ?_) (fun c4 => ?_)
      · refine jr_tabIn (t := 192) dL_law_33 hx3 (by omega) (by omega) (by rw [c4]; rfl) (by decide) ?_
        refine jr_aload_n dL_law_192 1 rfl ?_
        refine jr_aload_n dL_law_193 0 rfl ?_
        refine jr_iload_n dL_law_194 3 rfl ?_
        refine jr_iconst dL_law_195 ?_
        refine jr_iadd dL_law_196 ?_
        refine jr_grd (fun g5 => ?_)
        refine jr_sld hxs dL_law_197 (jl_n3_to _) (by rw [hL]; exact g5) ?_
        refine jr_aload_n dL_law_198 0 rfl ?_
        refine jr_iload_n dL_law_199 3 rfl ?_
        refine jr_iconst dL_law_200 ?_
        refine jr_iadd dL_law_201 ?_
        refine jr_grd (fun g6 => ?_)
        refine jr_sld hxs dL_law_202 (jl_n3_to _) (by rw [hL]; exact g6) ?_
        refine jr_aload_n dL_law_203 0 rfl ?_
        refine jr_iload_n dL_law_204 3 rfl ?_
        refine jr_iconst dL_law_205 ?_
        refine jr_iadd dL_law_206 ?_
        refine jr_grd (fun g7 => ?_)
        refine jr_sld hxs dL_law_207 (jl_n3_to _) (by rw [hL]; exact g7) ?_
        refine jr_aload_n dL_law_208 0 rfl ?_
        refine jr_iload_n dL_law_209 3 rfl ?_
        refine jr_iconst dL_law_210 ?_
        refine jr_iadd dL_law_211 ?_
        refine jr_grd (fun g8 => ?_)
        refine jr_sld hxs dL_law_212 (jl_n3_to _) (by rw [hL]; exact g8) ?_
        refine jr_aload_n dL_law_213 0 rfl ?_
        refine jr_iload_n dL_law_214 3 rfl ?_
        refine jr_iconst dL_law_215 ?_
        refine jr_iadd dL_law_216 ?_
        refine jr_grd (fun g9 => ?_)
        refine jr_sld hxs dL_law_217 (jl_n3_to _) (by rw [hL]; exact g9) ?_
        refine jL_callVi (As := [jl_vi ((xs (jl_add l3 (1 : Int)).toNat).toInt), jl_vi ((xs (jl_add l3 (2 : Int)).toNat).toInt), jl_vi ((xs (jl_add l3 (3 : Int)).toNat).toInt), jl_vi ((xs (jl_add l3 (4 : Int)).toNat).toInt), jl_vi ((xs (jl_add l3 (5 : Int)).toNat).toInt)]) dL_law_218 (jt_X11_feed G ((xs (jl_add l3 (1 : Int)).toNat).toInt) ((xs (jl_add l3 (2 : Int)).toNat).toInt) ((xs (jl_add l3 (3 : Int)).toNat).toInt) ((xs (jl_add l3 (4 : Int)).toNat).toInt) ((xs (jl_add l3 (5 : Int)).toNat).toInt) (jl_n3_to _) (jl_n3_to _) (jl_n3_to _) (jl_n3_to _) (jl_n3_to _) s0) jv_X11_feed ⟨rfl, rfl, rfl⟩ jw_479 jk_0 (by decide) (by decide) rfl ⟨Nat.le_of_ble_eq_true rfl, Nat.le_of_ble_eq_true rfl⟩ rfl (Nat.le_of_ble_eq_true rfl) (fun r10 s11 hr10 => ?_)
        refine jr_aload_n dL_law_221 2 rfl ?_
        refine jr_aload_n dL_law_222 0 rfl ?_
        refine jr_iload_n dL_law_223 3 rfl ?_
        refine jr_iconst dL_law_224 ?_
        refine jr_iadd dL_law_225 ?_
        refine jr_grd (fun g12 => ?_)
        refine jr_sld hxs dL_law_226 (jl_n3_to _) (by rw [hL]; exact g12) ?_
        refine jr_aload_n dL_law_227 0 rfl ?_
        refine jr_iload_n dL_law_228 3 rfl ?_
        refine jr_iconst dL_law_229 ?_
        refine jr_iadd dL_law_230 ?_
        refine jr_grd (fun g13 => ?_)
        refine jr_sld hxs dL_law_231 (jl_n3_to _) (by rw [hL]; exact g13) ?_
        refine jr_aload_n dL_law_232 0 rfl ?_
        refine jr_iload_n dL_law_233 3 rfl ?_
        refine jr_iconst dL_law_234 ?_
        refine jr_iadd dL_law_235 ?_
        refine jr_grd (fun g14 => ?_)
        refine jr_sld hxs dL_law_236 (jl_n3_to _) (by rw [hL]; exact g14) ?_
        refine jr_aload_n dL_law_237 0 rfl ?_
        refine jr_iload_n dL_law_238 3 rfl ?_
        refine jr_iconst dL_law_239 ?_
        refine jr_iadd dL_law_240 ?_
        refine jr_grd (fun g15 => ?_)
        refine jr_sld hxs dL_law_241 (jl_n3_to _) (by rw [hL]; exact g15) ?_
        refine jr_aload_n dL_law_242 0 rfl ?_
        refine jr_iload_n dL_law_243 3 rfl ?_
        refine jr_iconst dL_law_244 ?_
        refine jr_iadd dL_law_245 ?_
        refine jr_grd (fun g16 => ?_)
        refine jr_sld hxs dL_law_246 (jl_n3_to _) (by rw [hL]; exact g16) ?_
        refine jL_callVi (As := [jl_vi ((xs (jl_add l3 (1 : Int)).toNat).toInt), jl_vi ((xs (jl_add l3 (2 : Int)).toNat).toInt), jl_vi ((xs (jl_add l3 (3 : Int)).toNat).toInt), jl_vi ((xs (jl_add l3 (4 : Int)).toNat).toInt), jl_vi ((xs (jl_add l3 (5 : Int)).toNat).toInt)]) dL_law_247 (jt_X12_feed G ((xs (jl_add l3 (1 : Int)).toNat).toInt) ((xs (jl_add l3 (2 : Int)).toNat).toInt) ((xs (jl_add l3 (3 : Int)).toNat).toInt) ((xs (jl_add l3 (4 : Int)).toNat).toInt) ((xs (jl_add l3 (5 : Int)).toNat).toInt) (jl_n3_to _) (jl_n3_to _) (jl_n3_to _) (jl_n3_to _) (jl_n3_to _) s11) jv_X12_feed ⟨rfl, rfl, rfl⟩ jw_1542 jk_206 (by decide) (by decide) rfl ⟨Nat.le_of_ble_eq_true rfl, Nat.le_of_ble_eq_true rfl⟩ rfl (Nat.le_of_ble_eq_true rfl) (fun r17 s18 hr17 => ?_)
        refine jr_icmp_eq (t := 1181) dL_law_250 (by decide) hr10 hr17 (fun c19 => ?_) (fun c19 => ?_)
        · exact jj_L_law_B1181 G L xs hL hxs hL3 (jf_L_law_L18 L xs n) (ih) l3 hl3 s18
        · refine jr_iconst dL_law_253 ?_
          exact jr_none
      · skip
        refine jr_ite (fun c20 => ?_) (fun c20 => ?_)
        · refine jr_tabIn (t := 255) dL_law_33 hx3 (by omega) (by omega) (by rw [c20]; rfl) (by decide) ?_
          refine jr_aload_n dL_law_255 1 rfl ?_
          refine jr_aload_n dL_law_256 0 rfl ?_
          refine jr_iload_n dL_law_257 3 rfl ?_
          refine jr_iconst dL_law_258 ?_
          refine jr_iadd dL_law_259 ?_
          refine jr_grd (fun g21 => ?_)
          refine jr_sld hxs dL_law_260 (jl_n3_to _) (by rw [hL]; exact g21) ?_
          refine jL_callVz (As := [jl_vi ((xs (jl_add l3 (1 : Int)).toNat).toInt)]) dL_law_261 (jt_X11_end G ((xs (jl_add l3 (1 : Int)).toNat).toInt) (jl_n3_to _) s0) jv_X11_end ⟨rfl, rfl, rfl⟩ jw_491 jk_0 (by decide) (by decide) rfl ⟨Nat.le_of_ble_eq_true rfl, Nat.le_of_ble_eq_true rfl⟩ rfl (Nat.le_of_ble_eq_true rfl) (fun r22 s23 hr22 => ?_)
          refine jr_aload_n dL_law_264 2 rfl ?_
          refine jr_aload_n dL_law_265 0 rfl ?_
          refine jr_iload_n dL_law_266 3 rfl ?_
          refine jr_iconst dL_law_267 ?_
          refine jr_iadd dL_law_268 ?_
          refine jr_grd (fun g24 => ?_)
          refine jr_sld hxs dL_law_269 (jl_n3_to _) (by rw [hL]; exact g24) ?_
          refine jL_callVz (As := [jl_vi ((xs (jl_add l3 (1 : Int)).toNat).toInt)]) dL_law_270 (jt_X12_end G ((xs (jl_add l3 (1 : Int)).toNat).toInt) (jl_n3_to _) s23) jv_X12_end ⟨rfl, rfl, rfl⟩ jw_1546 jk_206 (by decide) (by decide) rfl ⟨Nat.le_of_ble_eq_true rfl, Nat.le_of_ble_eq_true rfl⟩ rfl (Nat.le_of_ble_eq_true rfl) (fun r25 s26 hr25 => ?_)
          refine jr_icmp_eq (t := 1181) dL_law_273 (by decide) (jl_nz hr22) (jl_nz hr25) (fun c27 => ?_) (fun c27 => ?_)
          · exact jj_L_law_B1181 G L xs hL hxs hL3 (jf_L_law_L18 L xs n) (ih) l3 hl3 s26
          · refine jr_iconst dL_law_276 ?_
            exact jr_none
        · skip
          refine jr_ite (fun c28 => ?_) (fun c28 => ?_)
          · refine jr_tabIn (t := 278) dL_law_33 hx3 (by omega) (by omega) (by rw [c28]; rfl) (by decide) ?_
            refine jr_aload_n dL_law_278 1 rfl ?_
            refine jL_callVi (As := []) dL_law_279 (jt_X11_street G s0) jv_X11_street ⟨rfl, rfl, rfl⟩ jw_499 jk_0 (by decide) (by decide) rfl ⟨Nat.le_of_ble_eq_true rfl, Nat.le_of_ble_eq_true rfl⟩ rfl (Nat.le_of_ble_eq_true rfl) (fun r29 s30 hr29 => ?_)
            refine jr_aload_n dL_law_282 2 rfl ?_
            refine jL_callVi (As := []) dL_law_283 (jt_X12_street G s30) jv_X12_street ⟨rfl, rfl, rfl⟩ jw_1550 jk_206 (by decide) (by decide) rfl ⟨Nat.le_of_ble_eq_true rfl, Nat.le_of_ble_eq_true rfl⟩ rfl (Nat.le_of_ble_eq_true rfl) (fun r31 s32 hr31 => ?_)
            refine jr_icmp_eq (t := 1181) dL_law_286 (by decide) hr29 hr31 (fun c33 => ?_) (fun c33 => ?_)
            · exact jj_L_law_B1181 G L xs hL hxs hL3 (jf_L_law_L18 L xs n) (ih) l3 hl3 s32
            · refine jr_iconst dL_law_289 ?_
              exact jr_none
          · skip
            refine jr_ite (fun c34 => ?_) (fun c34 => ?_)
            · refine jr_tabIn (t := 291) dL_law_33 hx3 (by omega) (by omega) (by rw [c34]; rfl) (by decide) ?_
              refine jr_aload_n dL_law_291 1 rfl ?_
              refine jr_aload_n dL_law_292 0 rfl ?_
              refine jr_iload_n dL_law_293 3 rfl ?_
              refine jr_iconst dL_law_294 ?_
              refine jr_iadd dL_law_295 ?_
              refine jr_grd (fun g35 => ?_)
              refine jr_sld hxs dL_law_296 (jl_n3_to _) (by rw [hL]; exact g35) ?_
              refine jL_callVi (As := [jl_vi ((xs (jl_add l3 (1 : Int)).toNat).toInt)]) dL_law_297 (jt_X11_fault G ((xs (jl_add l3 (1 : Int)).toNat).toInt) (jl_n3_to _) s0) jv_X11_fault ⟨rfl, rfl, rfl⟩ jw_771 jk_0 (by decide) (by decide) rfl ⟨Nat.le_of_ble_eq_true rfl, Nat.le_of_ble_eq_true rfl⟩ rfl (Nat.le_of_ble_eq_true rfl) (fun r36 s37 hr36 => ?_)
              refine jr_aload_n dL_law_300 2 rfl ?_
              refine jr_aload_n dL_law_301 0 rfl ?_
              refine jr_iload_n dL_law_302 3 rfl ?_
              refine jr_iconst dL_law_303 ?_
              refine jr_iadd dL_law_304 ?_
              refine jr_grd (fun g38 => ?_)
              refine jr_sld hxs dL_law_305 (jl_n3_to _) (by rw [hL]; exact g38) ?_
              refine jL_callVi (As := [jl_vi ((xs (jl_add l3 (1 : Int)).toNat).toInt)]) dL_law_306 (jt_X12_fault G ((xs (jl_add l3 (1 : Int)).toNat).toInt) (jl_n3_to _) s37) jv_X12_fault ⟨rfl, rfl, rfl⟩ jw_1735 jk_206 (by decide) (by decide) rfl ⟨Nat.le_of_ble_eq_true rfl, Nat.le_of_ble_eq_true rfl⟩ rfl (Nat.le_of_ble_eq_true rfl) (fun r39 s40 hr39 => ?_)
              refine jr_icmp_eq (t := 1181) dL_law_309 (by decide) hr36 hr39 (fun c41 => ?_) (fun c41 => ?_)
              · exact jj_L_law_B1181 G L xs hL hxs hL3 (jf_L_law_L18 L xs n) (ih) l3 hl3 s40
              · refine jr_iconst dL_law_312 ?_
                exact jr_none
            · skip
              refine jr_ite (fun c42 => ?_) (fun c42 => ?_)
              · refine jr_tabIn (t := 314) dL_law_33 hx3 (by omega) (by omega) (by rw [c42]; rfl) (by decide) ?_
                refine jr_aload_n dL_law_314 1 rfl ?_
                refine jr_aload_n dL_law_315 0 rfl ?_
                refine jr_iload_n dL_law_316 3 rfl ?_
                refine jr_iconst dL_law_317 ?_
                refine jr_iadd dL_law_318 ?_
                refine jr_grd (fun g43 => ?_)
                refine jr_sld hxs dL_law_319 (jl_n3_to _) (by rw [hL]; exact g43) ?_
                refine jL_callVi (As := [jl_vi ((xs (jl_add l3 (1 : Int)).toNat).toInt)]) dL_law_320 (jt_X11_has G ((xs (jl_add l3 (1 : Int)).toNat).toInt) (jl_n3_to _) s0) jv_X11_has ⟨rfl, rfl, rfl⟩ jw_775 jk_0 (by decide) (by decide) rfl ⟨Nat.le_of_ble_eq_true rfl, Nat.le_of_ble_eq_true rfl⟩ rfl (Nat.le_of_ble_eq_true rfl) (fun r44 s45 hr44 => ?_)
                refine jr_aload_n dL_law_323 2 rfl ?_
                refine jr_aload_n dL_law_324 0 rfl ?_
                refine jr_iload_n dL_law_325 3 rfl ?_
                refine jr_iconst dL_law_326 ?_
                refine jr_iadd dL_law_327 ?_
                refine jr_grd (fun g46 => ?_)
                refine jr_sld hxs dL_law_328 (jl_n3_to _) (by rw [hL]; exact g46) ?_
                refine jL_callVi (As := [jl_vi ((xs (jl_add l3 (1 : Int)).toNat).toInt)]) dL_law_329 (jt_X12_has G ((xs (jl_add l3 (1 : Int)).toNat).toInt) (jl_n3_to _) s45) jv_X12_has ⟨rfl, rfl, rfl⟩ jw_1739 jk_206 (by decide) (by decide) rfl ⟨Nat.le_of_ble_eq_true rfl, Nat.le_of_ble_eq_true rfl⟩ rfl (Nat.le_of_ble_eq_true rfl) (fun r47 s48 hr47 => ?_)
                refine jr_icmp_eq (t := 1181) dL_law_332 (by decide) hr44 hr47 (fun c49 => ?_) (fun c49 => ?_)
                · exact jj_L_law_B1181 G L xs hL hxs hL3 (jf_L_law_L18 L xs n) (ih) l3 hl3 s48
                · refine jr_iconst dL_law_335 ?_
                  exact jr_none
              · skip
                refine jr_ite (fun c50 => ?_) (fun c50 => ?_)
                · refine jr_tabIn (t := 337) dL_law_33 hx3 (by omega) (by omega) (by rw [c50]; rfl) (by decide) ?_
                  refine jr_aload_n dL_law_337 1 rfl ?_
                  refine jr_aload_n dL_law_338 0 rfl ?_
                  refine jr_iload_n dL_law_339 3 rfl ?_
                  refine jr_iconst dL_law_340 ?_
                  refine jr_iadd dL_law_341 ?_
                  refine jr_grd (fun g51 => ?_)
                  refine jr_sld hxs dL_law_342 (jl_n3_to _) (by rw [hL]; exact g51) ?_
                  refine jr_aload_n dL_law_343 0 rfl ?_
                  refine jr_iload_n dL_law_344 3 rfl ?_
                  refine jr_iconst dL_law_345 ?_
                  refine jr_iadd dL_law_346 ?_
                  refine jr_grd (fun g52 => ?_)
                  refine jr_sld hxs dL_law_347 (jl_n3_to _) (by rw [hL]; exact g52) ?_
                  refine jr_aload_n dL_law_348 0 rfl ?_
                  refine jr_iload_n dL_law_349 3 rfl ?_
                  refine jr_iconst dL_law_350 ?_
                  refine jr_iadd dL_law_351 ?_
                  refine jr_grd (fun g53 => ?_)
                  refine jr_sld hxs dL_law_352 (jl_n3_to _) (by rw [hL]; exact g53) ?_
                  refine jL_callVi (As := [jl_vi ((xs (jl_add l3 (1 : Int)).toNat).toInt), jl_vi ((xs (jl_add l3 (2 : Int)).toNat).toInt), jl_vi ((xs (jl_add l3 (3 : Int)).toNat).toInt)]) dL_law_353 (jt_X11_letter G ((xs (jl_add l3 (1 : Int)).toNat).toInt) ((xs (jl_add l3 (2 : Int)).toNat).toInt) ((xs (jl_add l3 (3 : Int)).toNat).toInt) (jl_n3_to _) (jl_n3_to _) (jl_n3_to _) s0) jv_X11_letter ⟨rfl, rfl, rfl⟩ jw_826 jk_0 (by decide) (by decide) rfl ⟨Nat.le_of_ble_eq_true rfl, Nat.le_of_ble_eq_true rfl⟩ rfl (Nat.le_of_ble_eq_true rfl) (fun r54 s55 hr54 => ?_)
                  refine jr_aload_n dL_law_356 2 rfl ?_
                  refine jr_aload_n dL_law_357 0 rfl ?_
                  refine jr_iload_n dL_law_358 3 rfl ?_
                  refine jr_iconst dL_law_359 ?_
                  refine jr_iadd dL_law_360 ?_
                  refine jr_grd (fun g56 => ?_)
                  refine jr_sld hxs dL_law_361 (jl_n3_to _) (by rw [hL]; exact g56) ?_
                  refine jr_aload_n dL_law_362 0 rfl ?_
                  refine jr_iload_n dL_law_363 3 rfl ?_
                  refine jr_iconst dL_law_364 ?_
                  refine jr_iadd dL_law_365 ?_
                  refine jr_grd (fun g57 => ?_)
                  refine jr_sld hxs dL_law_366 (jl_n3_to _) (by rw [hL]; exact g57) ?_
                  refine jr_aload_n dL_law_367 0 rfl ?_
                  refine jr_iload_n dL_law_368 3 rfl ?_
                  refine jr_iconst dL_law_369 ?_
                  refine jr_iadd dL_law_370 ?_
                  refine jr_grd (fun g58 => ?_)
                  refine jr_sld hxs dL_law_371 (jl_n3_to _) (by rw [hL]; exact g58) ?_
                  refine jL_callVi (As := [jl_vi ((xs (jl_add l3 (1 : Int)).toNat).toInt), jl_vi ((xs (jl_add l3 (2 : Int)).toNat).toInt), jl_vi ((xs (jl_add l3 (3 : Int)).toNat).toInt)]) dL_law_372 (jt_X12_letter G ((xs (jl_add l3 (1 : Int)).toNat).toInt) ((xs (jl_add l3 (2 : Int)).toNat).toInt) ((xs (jl_add l3 (3 : Int)).toNat).toInt) (jl_n3_to _) (jl_n3_to _) (jl_n3_to _) s55) jv_X12_letter ⟨rfl, rfl, rfl⟩ jw_1830 jk_206 (by decide) (by decide) rfl ⟨Nat.le_of_ble_eq_true rfl, Nat.le_of_ble_eq_true rfl⟩ rfl (Nat.le_of_ble_eq_true rfl) (fun r59 s60 hr59 => ?_)
                  refine jr_icmp_eq (t := 1181) dL_law_375 (by decide) hr54 hr59 (fun c61 => ?_) (fun c61 => ?_)
                  · exact jj_L_law_B1181 G L xs hL hxs hL3 (jf_L_law_L18 L xs n) (ih) l3 hl3 s60
                  · refine jr_iconst dL_law_378 ?_
                    exact jr_none
                · skip
                  refine jr_ite (fun c62 => ?_) (fun c62 => ?_)
                  · refine jr_tabIn (t := 380) dL_law_33 hx3 (by omega) (by omega) (by rw [c62]; rfl) (by decide) ?_
                    refine jr_aload_n dL_law_380 1 rfl ?_
                    refine jr_aload_n dL_law_381 0 rfl ?_
                    refine jr_iload_n dL_law_382 3 rfl ?_
                    refine jr_iconst dL_law_383 ?_
                    refine jr_iadd dL_law_384 ?_
                    refine jr_grd (fun g63 => ?_)
                    refine jr_sld hxs dL_law_385 (jl_n3_to _) (by rw [hL]; exact g63) ?_
                    refine jr_aload_n dL_law_386 0 rfl ?_
                    refine jr_iload_n dL_law_387 3 rfl ?_
                    refine jr_iconst dL_law_388 ?_
                    refine jr_iadd dL_law_389 ?_
                    refine jr_grd (fun g64 => ?_)
                    refine jr_sld hxs dL_law_390 (jl_n3_to _) (by rw [hL]; exact g64) ?_
                    refine jL_callVi (As := [jl_vi ((xs (jl_add l3 (1 : Int)).toNat).toInt), jl_vi ((xs (jl_add l3 (2 : Int)).toNat).toInt)]) dL_law_391 (jt_X11_person G ((xs (jl_add l3 (1 : Int)).toNat).toInt) ((xs (jl_add l3 (2 : Int)).toNat).toInt) (jl_n3_to _) (jl_n3_to _) s0) jv_X11_person ⟨rfl, rfl, rfl⟩ jw_841 jk_0 (by decide) (by decide) rfl ⟨Nat.le_of_ble_eq_true rfl, Nat.le_of_ble_eq_true rfl⟩ rfl (Nat.le_of_ble_eq_true rfl) (fun r65 s66 hr65 => ?_)
                    refine jr_aload_n dL_law_394 2 rfl ?_
                    refine jr_aload_n dL_law_395 0 rfl ?_
                    refine jr_iload_n dL_law_396 3 rfl ?_
                    refine jr_iconst dL_law_397 ?_
                    refine jr_iadd dL_law_398 ?_
                    refine jr_grd (fun g67 => ?_)
                    refine jr_sld hxs dL_law_399 (jl_n3_to _) (by rw [hL]; exact g67) ?_
                    refine jr_aload_n dL_law_400 0 rfl ?_
                    refine jr_iload_n dL_law_401 3 rfl ?_
                    refine jr_iconst dL_law_402 ?_
                    refine jr_iadd dL_law_403 ?_
                    refine jr_grd (fun g68 => ?_)
                    refine jr_sld hxs dL_law_404 (jl_n3_to _) (by rw [hL]; exact g68) ?_
                    refine jL_callVi (As := [jl_vi ((xs (jl_add l3 (1 : Int)).toNat).toInt), jl_vi ((xs (jl_add l3 (2 : Int)).toNat).toInt)]) dL_law_405 (jt_X12_person G ((xs (jl_add l3 (1 : Int)).toNat).toInt) ((xs (jl_add l3 (2 : Int)).toNat).toInt) (jl_n3_to _) (jl_n3_to _) s66) jv_X12_person ⟨rfl, rfl, rfl⟩ jw_1834 jk_206 (by decide) (by decide) rfl ⟨Nat.le_of_ble_eq_true rfl, Nat.le_of_ble_eq_true rfl⟩ rfl (Nat.le_of_ble_eq_true rfl) (fun r69 s70 hr69 => ?_)
                    refine jr_icmp_eq (t := 1181) dL_law_408 (by decide) hr65 hr69 (fun c71 => ?_) (fun c71 => ?_)
                    · exact jj_L_law_B1181 G L xs hL hxs hL3 (jf_L_law_L18 L xs n) (ih) l3 hl3 s70
                    · refine jr_iconst dL_law_411 ?_
                      exact jr_none
                  · skip
                    refine jr_ite (fun c72 => ?_) (fun c72 => ?_)
                    · refine jr_tabIn (t := 413) dL_law_33 hx3 (by omega) (by omega) (by rw [c72]; rfl) (by decide) ?_
                      refine jr_aload_n dL_law_413 1 rfl ?_
                      refine jr_aload_n dL_law_414 0 rfl ?_
                      refine jr_iload_n dL_law_415 3 rfl ?_
                      refine jr_iconst dL_law_416 ?_
                      refine jr_iadd dL_law_417 ?_
                      refine jr_grd (fun g73 => ?_)
                      refine jr_sld hxs dL_law_418 (jl_n3_to _) (by rw [hL]; exact g73) ?_
                      refine jr_aload_n dL_law_419 0 rfl ?_
                      refine jr_iload_n dL_law_420 3 rfl ?_
                      refine jr_iconst dL_law_421 ?_
                      refine jr_iadd dL_law_422 ?_
                      refine jr_grd (fun g74 => ?_)
                      refine jr_sld hxs dL_law_423 (jl_n3_to _) (by rw [hL]; exact g74) ?_
                      refine jL_callVi (As := [jl_vi ((xs (jl_add l3 (1 : Int)).toNat).toInt), jl_vi ((xs (jl_add l3 (2 : Int)).toNat).toInt)]) dL_law_424 (jt_X11_lie G ((xs (jl_add l3 (1 : Int)).toNat).toInt) ((xs (jl_add l3 (2 : Int)).toNat).toInt) (jl_n3_to _) (jl_n3_to _) s0) jv_X11_lie ⟨rfl, rfl, rfl⟩ jw_849 jk_0 (by decide) (by decide) rfl ⟨Nat.le_of_ble_eq_true rfl, Nat.le_of_ble_eq_true rfl⟩ rfl (Nat.le_of_ble_eq_true rfl) (fun r75 s76 hr75 => ?_)
                      refine jr_aload_n dL_law_427 2 rfl ?_
                      refine jr_aload_n dL_law_428 0 rfl ?_
                      refine jr_iload_n dL_law_429 3 rfl ?_
                      refine jr_iconst dL_law_430 ?_
                      refine jr_iadd dL_law_431 ?_
                      refine jr_grd (fun g77 => ?_)
                      refine jr_sld hxs dL_law_432 (jl_n3_to _) (by rw [hL]; exact g77) ?_
                      refine jr_aload_n dL_law_433 0 rfl ?_
                      refine jr_iload_n dL_law_434 3 rfl ?_
                      refine jr_iconst dL_law_435 ?_
                      refine jr_iadd dL_law_436 ?_
                      refine jr_grd (fun g78 => ?_)
                      refine jr_sld hxs dL_law_437 (jl_n3_to _) (by rw [hL]; exact g78) ?_
                      refine jL_callVi (As := [jl_vi ((xs (jl_add l3 (1 : Int)).toNat).toInt), jl_vi ((xs (jl_add l3 (2 : Int)).toNat).toInt)]) dL_law_438 (jt_X12_lie G ((xs (jl_add l3 (1 : Int)).toNat).toInt) ((xs (jl_add l3 (2 : Int)).toNat).toInt) (jl_n3_to _) (jl_n3_to _) s76) jv_X12_lie ⟨rfl, rfl, rfl⟩ jw_1846 jk_206 (by decide) (by decide) rfl ⟨Nat.le_of_ble_eq_true rfl, Nat.le_of_ble_eq_true rfl⟩ rfl (Nat.le_of_ble_eq_true rfl) (fun r79 s80 hr79 => ?_)
                      refine jr_icmp_eq (t := 1181) dL_law_441 (by decide) hr75 hr79 (fun c81 => ?_) (fun c81 => ?_)
                      · exact jj_L_law_B1181 G L xs hL hxs hL3 (jf_L_law_L18 L xs n) (ih) l3 hl3 s80
                      · refine jr_iconst dL_law_444 ?_
                        exact jr_none
                    · skip
                      refine jr_ite (fun c82 => ?_) (fun c82 => ?_)
                      · refine jr_tabIn (t := 446) dL_law_33 hx3 (by omega) (by omega) (by rw [c82]; rfl) (by decide) ?_
                        refine jr_aload_n dL_law_446 1 rfl ?_
                        refine jr_aload_n dL_law_447 0 rfl ?_
                        refine jr_iload_n dL_law_448 3 rfl ?_
                        refine jr_iconst dL_law_449 ?_
                        refine jr_iadd dL_law_450 ?_
                        refine jr_grd (fun g83 => ?_)
                        refine jr_sld hxs dL_law_451 (jl_n3_to _) (by rw [hL]; exact g83) ?_
                        refine jr_aload_n dL_law_452 0 rfl ?_
                        refine jr_iload_n dL_law_453 3 rfl ?_
                        refine jr_iconst dL_law_454 ?_
                        refine jr_iadd dL_law_455 ?_
                        refine jr_grd (fun g84 => ?_)
                        refine jr_sld hxs dL_law_456 (jl_n3_to _) (by rw [hL]; exact g84) ?_
                        refine jL_callVi (As := [jl_vi ((xs (jl_add l3 (1 : Int)).toNat).toInt), jl_vi ((xs (jl_add l3 (2 : Int)).toNat).toInt)]) dL_law_457 (jt_X11_draft G ((xs (jl_add l3 (1 : Int)).toNat).toInt) ((xs (jl_add l3 (2 : Int)).toNat).toInt) (jl_n3_to _) (jl_n3_to _) s0) jv_X11_draft ⟨rfl, rfl, rfl⟩ jw_858 jk_0 (by decide) (by decide) rfl ⟨Nat.le_of_ble_eq_true rfl, Nat.le_of_ble_eq_true rfl⟩ rfl (Nat.le_of_ble_eq_true rfl) (fun r85 s86 hr85 => ?_)
                        refine jr_aload_n dL_law_460 2 rfl ?_
                        refine jr_aload_n dL_law_461 0 rfl ?_
                        refine jr_iload_n dL_law_462 3 rfl ?_
                        refine jr_iconst dL_law_463 ?_
                        refine jr_iadd dL_law_464 ?_
                        refine jr_grd (fun g87 => ?_)
                        refine jr_sld hxs dL_law_465 (jl_n3_to _) (by rw [hL]; exact g87) ?_
                        refine jr_aload_n dL_law_466 0 rfl ?_
                        refine jr_iload_n dL_law_467 3 rfl ?_
                        refine jr_iconst dL_law_468 ?_
                        refine jr_iadd dL_law_469 ?_
                        refine jr_grd (fun g88 => ?_)
                        refine jr_sld hxs dL_law_470 (jl_n3_to _) (by rw [hL]; exact g88) ?_
                        refine jL_callVi (As := [jl_vi ((xs (jl_add l3 (1 : Int)).toNat).toInt), jl_vi ((xs (jl_add l3 (2 : Int)).toNat).toInt)]) dL_law_471 (jt_X12_draft G ((xs (jl_add l3 (1 : Int)).toNat).toInt) ((xs (jl_add l3 (2 : Int)).toNat).toInt) (jl_n3_to _) (jl_n3_to _) s86) jv_X12_draft ⟨rfl, rfl, rfl⟩ jw_1862 jk_206 (by decide) (by decide) rfl ⟨Nat.le_of_ble_eq_true rfl, Nat.le_of_ble_eq_true rfl⟩ rfl (Nat.le_of_ble_eq_true rfl) (fun r89 s90 hr89 => ?_)
                        refine jr_icmp_eq (t := 1181) dL_law_474 (by decide) hr85 hr89 (fun c91 => ?_) (fun c91 => ?_)
                        · exact jj_L_law_B1181 G L xs hL hxs hL3 (jf_L_law_L18 L xs n) (ih) l3 hl3 s90
                        · refine jr_iconst dL_law_477 ?_
                          exact jr_none
                      · skip
                        refine jr_ite (fun c92 => ?_) (fun c92 => ?_)
                        · refine jr_tabIn (t := 479) dL_law_33 hx3 (by omega) (by omega) (by rw [c92]; rfl) (by decide) ?_
                          refine jr_aload_n dL_law_479 1 rfl ?_
                          refine jr_aload_n dL_law_480 0 rfl ?_
                          refine jr_iload_n dL_law_481 3 rfl ?_
                          refine jr_iconst dL_law_482 ?_
                          refine jr_iadd dL_law_483 ?_
                          refine jr_grd (fun g93 => ?_)
                          refine jr_sld hxs dL_law_484 (jl_n3_to _) (by rw [hL]; exact g93) ?_
                          refine jr_aload_n dL_law_485 0 rfl ?_
                          refine jr_iload_n dL_law_486 3 rfl ?_
                          refine jr_iconst dL_law_487 ?_
                          refine jr_iadd dL_law_488 ?_
                          refine jr_grd (fun g94 => ?_)
                          refine jr_sld hxs dL_law_489 (jl_n3_to _) (by rw [hL]; exact g94) ?_
                          refine jL_callVi (As := [jl_vi ((xs (jl_add l3 (1 : Int)).toNat).toInt), jl_vi ((xs (jl_add l3 (2 : Int)).toNat).toInt)]) dL_law_490 (jt_X11_plan G ((xs (jl_add l3 (1 : Int)).toNat).toInt) ((xs (jl_add l3 (2 : Int)).toNat).toInt) (jl_n3_to _) (jl_n3_to _) s0) jv_X11_plan ⟨rfl, rfl, rfl⟩ jw_879 jk_0 (by decide) (by decide) rfl ⟨Nat.le_of_ble_eq_true rfl, Nat.le_of_ble_eq_true rfl⟩ rfl (Nat.le_of_ble_eq_true rfl) (fun r95 s96 hr95 => ?_)
                          refine jr_aload_n dL_law_493 2 rfl ?_
                          refine jr_aload_n dL_law_494 0 rfl ?_
                          refine jr_iload_n dL_law_495 3 rfl ?_
                          refine jr_iconst dL_law_496 ?_
                          refine jr_iadd dL_law_497 ?_
                          refine jr_grd (fun g97 => ?_)
                          refine jr_sld hxs dL_law_498 (jl_n3_to _) (by rw [hL]; exact g97) ?_
                          refine jr_aload_n dL_law_499 0 rfl ?_
                          refine jr_iload_n dL_law_500 3 rfl ?_
                          refine jr_iconst dL_law_501 ?_
                          refine jr_iadd dL_law_502 ?_
                          refine jr_grd (fun g98 => ?_)
                          refine jr_sld hxs dL_law_503 (jl_n3_to _) (by rw [hL]; exact g98) ?_
                          refine jL_callVi (As := [jl_vi ((xs (jl_add l3 (1 : Int)).toNat).toInt), jl_vi ((xs (jl_add l3 (2 : Int)).toNat).toInt)]) dL_law_504 (jt_X12_plan G ((xs (jl_add l3 (1 : Int)).toNat).toInt) ((xs (jl_add l3 (2 : Int)).toNat).toInt) (jl_n3_to _) (jl_n3_to _) s96) jv_X12_plan ⟨rfl, rfl, rfl⟩ jw_1874 jk_206 (by decide) (by decide) rfl ⟨Nat.le_of_ble_eq_true rfl, Nat.le_of_ble_eq_true rfl⟩ rfl (Nat.le_of_ble_eq_true rfl) (fun r99 s100 hr99 => ?_)
                          refine jr_icmp_eq (t := 1181) dL_law_507 (by decide) hr95 hr99 (fun c101 => ?_) (fun c101 => ?_)
                          · exact jj_L_law_B1181 G L xs hL hxs hL3 (jf_L_law_L18 L xs n) (ih) l3 hl3 s100
                          · refine jr_iconst dL_law_510 ?_
                            exact jr_none
                        · skip
                          refine jr_ite (fun c102 => ?_) (fun c102 => ?_)
                          · refine jr_tabIn (t := 512) dL_law_33 hx3 (by omega) (by omega) (by rw [c102]; rfl) (by decide) ?_
                            refine jr_aload_n dL_law_512 1 rfl ?_
                            refine jr_aload_n dL_law_513 0 rfl ?_
                            refine jr_iload_n dL_law_514 3 rfl ?_
                            refine jr_iconst dL_law_515 ?_
                            refine jr_iadd dL_law_516 ?_
                            refine jr_grd (fun g103 => ?_)
                            refine jr_sld hxs dL_law_517 (jl_n3_to _) (by rw [hL]; exact g103) ?_
                            refine jr_aload_n dL_law_518 0 rfl ?_
                            refine jr_iload_n dL_law_519 3 rfl ?_
                            refine jr_iconst dL_law_520 ?_
                            refine jr_iadd dL_law_521 ?_
                            refine jr_grd (fun g104 => ?_)
                            refine jr_sld hxs dL_law_522 (jl_n3_to _) (by rw [hL]; exact g104) ?_
                            refine jL_callVi (As := [jl_vi ((xs (jl_add l3 (1 : Int)).toNat).toInt), jl_vi ((xs (jl_add l3 (2 : Int)).toNat).toInt)]) dL_law_523 (jt_X11_kept G ((xs (jl_add l3 (1 : Int)).toNat).toInt) ((xs (jl_add l3 (2 : Int)).toNat).toInt) (jl_n3_to _) (jl_n3_to _) s0) jv_X11_kept ⟨rfl, rfl, rfl⟩ jw_883 jk_0 (by decide) (by decide) rfl ⟨Nat.le_of_ble_eq_true rfl, Nat.le_of_ble_eq_true rfl⟩ rfl (Nat.le_of_ble_eq_true rfl) (fun r105 s106 hr105 => ?_)
                            refine jr_aload_n dL_law_526 2 rfl ?_
                            refine jr_aload_n dL_law_527 0 rfl ?_
                            refine jr_iload_n dL_law_528 3 rfl ?_
                            refine jr_iconst dL_law_529 ?_
                            refine jr_iadd dL_law_530 ?_
                            refine jr_grd (fun g107 => ?_)
                            refine jr_sld hxs dL_law_531 (jl_n3_to _) (by rw [hL]; exact g107) ?_
                            refine jr_aload_n dL_law_532 0 rfl ?_
                            refine jr_iload_n dL_law_533 3 rfl ?_
                            refine jr_iconst dL_law_534 ?_
                            refine jr_iadd dL_law_535 ?_
                            refine jr_grd (fun g108 => ?_)
                            refine jr_sld hxs dL_law_536 (jl_n3_to _) (by rw [hL]; exact g108) ?_
                            refine jL_callVi (As := [jl_vi ((xs (jl_add l3 (1 : Int)).toNat).toInt), jl_vi ((xs (jl_add l3 (2 : Int)).toNat).toInt)]) dL_law_537 (jt_X12_kept G ((xs (jl_add l3 (1 : Int)).toNat).toInt) ((xs (jl_add l3 (2 : Int)).toNat).toInt) (jl_n3_to _) (jl_n3_to _) s106) jv_X12_kept ⟨rfl, rfl, rfl⟩ jw_1878 jk_206 (by decide) (by decide) rfl ⟨Nat.le_of_ble_eq_true rfl, Nat.le_of_ble_eq_true rfl⟩ rfl (Nat.le_of_ble_eq_true rfl) (fun r109 s110 hr109 => ?_)
                            refine jr_icmp_eq (t := 1181) dL_law_540 (by decide) hr105 hr109 (fun c111 => ?_) (fun c111 => ?_)
                            · exact jj_L_law_B1181 G L xs hL hxs hL3 (jf_L_law_L18 L xs n) (ih) l3 hl3 s110
                            · refine jr_iconst dL_law_543 ?_
                              exact jr_none
                          · skip
                            refine jr_ite (fun c112 => ?_) (fun c112 => ?_)
                            · refine jr_tabIn (t := 545) dL_law_33 hx3 (by omega) (by omega) (by rw [c112]; rfl) (by decide) ?_
                              refine jr_aload_n dL_law_545 1 rfl ?_
                              refine jr_aload_n dL_law_546 0 rfl ?_
                              refine jr_iload_n dL_law_547 3 rfl ?_
                              refine jr_iconst dL_law_548 ?_
                              refine jr_iadd dL_law_549 ?_
                              refine jr_grd (fun g113 => ?_)
                              refine jr_sld hxs dL_law_550 (jl_n3_to _) (by rw [hL]; exact g113) ?_
                              refine jr_aload_n dL_law_551 0 rfl ?_
                              refine jr_iload_n dL_law_552 3 rfl ?_
                              refine jr_iconst dL_law_553 ?_
                              refine jr_iadd dL_law_554 ?_
                              refine jr_grd (fun g114 => ?_)
                              refine jr_sld hxs dL_law_555 (jl_n3_to _) (by rw [hL]; exact g114) ?_
                              refine jL_callVi (As := [jl_vi ((xs (jl_add l3 (1 : Int)).toNat).toInt), jl_vi ((xs (jl_add l3 (2 : Int)).toNat).toInt)]) dL_law_556 (jt_X11_later G ((xs (jl_add l3 (1 : Int)).toNat).toInt) ((xs (jl_add l3 (2 : Int)).toNat).toInt) (jl_n3_to _) (jl_n3_to _) s0) jv_X11_later ⟨rfl, rfl, rfl⟩ jw_895 jk_0 (by decide) (by decide) rfl ⟨Nat.le_of_ble_eq_true rfl, Nat.le_of_ble_eq_true rfl⟩ rfl (Nat.le_of_ble_eq_true rfl) (fun r115 s116 hr115 => ?_)
                              refine jr_aload_n dL_law_559 2 rfl ?_
                              refine jr_aload_n dL_law_560 0 rfl ?_
                              refine jr_iload_n dL_law_561 3 rfl ?_
                              refine jr_iconst dL_law_562 ?_
                              refine jr_iadd dL_law_563 ?_
                              refine jr_grd (fun g117 => ?_)
                              refine jr_sld hxs dL_law_564 (jl_n3_to _) (by rw [hL]; exact g117) ?_
                              refine jr_aload_n dL_law_565 0 rfl ?_
                              refine jr_iload_n dL_law_566 3 rfl ?_
                              refine jr_iconst dL_law_567 ?_
                              refine jr_iadd dL_law_568 ?_
                              refine jr_grd (fun g118 => ?_)
                              refine jr_sld hxs dL_law_569 (jl_n3_to _) (by rw [hL]; exact g118) ?_
                              refine jL_callVi (As := [jl_vi ((xs (jl_add l3 (1 : Int)).toNat).toInt), jl_vi ((xs (jl_add l3 (2 : Int)).toNat).toInt)]) dL_law_570 (jt_X12_later G ((xs (jl_add l3 (1 : Int)).toNat).toInt) ((xs (jl_add l3 (2 : Int)).toNat).toInt) (jl_n3_to _) (jl_n3_to _) s116) jv_X12_later ⟨rfl, rfl, rfl⟩ jw_1882 jk_206 (by decide) (by decide) rfl ⟨Nat.le_of_ble_eq_true rfl, Nat.le_of_ble_eq_true rfl⟩ rfl (Nat.le_of_ble_eq_true rfl) (fun r119 s120 hr119 => ?_)
                              refine jr_icmp_eq (t := 1181) dL_law_573 (by decide) hr115 hr119 (fun c121 => ?_) (fun c121 => ?_)
                              · exact jj_L_law_B1181 G L xs hL hxs hL3 (jf_L_law_L18 L xs n) (ih) l3 hl3 s120
                              · refine jr_iconst dL_law_576 ?_
                                exact jr_none
                            · skip
                              refine jr_ite (fun c122 => ?_) (fun c122 => ?_)
                              · refine jr_tabIn (t := 578) dL_law_33 hx3 (by omega) (by omega) (by rw [c122]; rfl) (by decide) ?_
                                refine jr_aload_n dL_law_578 1 rfl ?_
                                refine jr_aload_n dL_law_579 0 rfl ?_
                                refine jr_iload_n dL_law_580 3 rfl ?_
                                refine jr_iconst dL_law_581 ?_
                                refine jr_iadd dL_law_582 ?_
                                refine jr_grd (fun g123 => ?_)
                                refine jr_sld hxs dL_law_583 (jl_n3_to _) (by rw [hL]; exact g123) ?_
                                refine jr_aload_n dL_law_584 0 rfl ?_
                                refine jr_iload_n dL_law_585 3 rfl ?_
                                refine jr_iconst dL_law_586 ?_
                                refine jr_iadd dL_law_587 ?_
                                refine jr_grd (fun g124 => ?_)
                                refine jr_sld hxs dL_law_588 (jl_n3_to _) (by rw [hL]; exact g124) ?_
                                refine jL_callVi (As := [jl_vi ((xs (jl_add l3 (1 : Int)).toNat).toInt), jl_vi ((xs (jl_add l3 (2 : Int)).toNat).toInt)]) dL_law_589 (jt_X11_held G ((xs (jl_add l3 (1 : Int)).toNat).toInt) ((xs (jl_add l3 (2 : Int)).toNat).toInt) (jl_n3_to _) (jl_n3_to _) s0) jv_X11_held ⟨rfl, rfl, rfl⟩ jw_926 jk_0 (by decide) (by decide) rfl ⟨Nat.le_of_ble_eq_true rfl, Nat.le_of_ble_eq_true rfl⟩ rfl (Nat.le_of_ble_eq_true rfl) (fun r125 s126 hr125 => ?_)
                                refine jr_aload_n dL_law_592 2 rfl ?_
                                refine jr_aload_n dL_law_593 0 rfl ?_
                                refine jr_iload_n dL_law_594 3 rfl ?_
                                refine jr_iconst dL_law_595 ?_
                                refine jr_iadd dL_law_596 ?_
                                refine jr_grd (fun g127 => ?_)
                                refine jr_sld hxs dL_law_597 (jl_n3_to _) (by rw [hL]; exact g127) ?_
                                refine jr_aload_n dL_law_598 0 rfl ?_
                                refine jr_iload_n dL_law_599 3 rfl ?_
                                refine jr_iconst dL_law_600 ?_
                                refine jr_iadd dL_law_601 ?_
                                refine jr_grd (fun g128 => ?_)
                                refine jr_sld hxs dL_law_602 (jl_n3_to _) (by rw [hL]; exact g128) ?_
                                refine jL_callVi (As := [jl_vi ((xs (jl_add l3 (1 : Int)).toNat).toInt), jl_vi ((xs (jl_add l3 (2 : Int)).toNat).toInt)]) dL_law_603 (jt_X12_held G ((xs (jl_add l3 (1 : Int)).toNat).toInt) ((xs (jl_add l3 (2 : Int)).toNat).toInt) (jl_n3_to _) (jl_n3_to _) s126) jv_X12_held ⟨rfl, rfl, rfl⟩ jw_1926 jk_206 (by decide) (by decide) rfl ⟨Nat.le_of_ble_eq_true rfl, Nat.le_of_ble_eq_true rfl⟩ rfl (Nat.le_of_ble_eq_true rfl) (fun r129 s130 hr129 => ?_)
                                refine jr_icmp_eq (t := 1181) dL_law_606 (by decide) hr125 hr129 (fun c131 => ?_) (fun c131 => ?_)
                                · exact jj_L_law_B1181 G L xs hL hxs hL3 (jf_L_law_L18 L xs n) (ih) l3 hl3 s130
                                · refine jr_iconst dL_law_609 ?_
                                  exact jr_none
                              · skip
                                refine jr_ite (fun c132 => ?_) (fun c132 => ?_)
                                · refine jr_tabIn (t := 611) dL_law_33 hx3 (by omega) (by omega) (by rw [c132]; rfl) (by decide) ?_
                                  refine jr_aload_n dL_law_611 1 rfl ?_
                                  refine jr_aload_n dL_law_612 0 rfl ?_
                                  refine jr_iload_n dL_law_613 3 rfl ?_
                                  refine jr_iconst dL_law_614 ?_
                                  refine jr_iadd dL_law_615 ?_
                                  refine jr_grd (fun g133 => ?_)
                                  refine jr_sld hxs dL_law_616 (jl_n3_to _) (by rw [hL]; exact g133) ?_
                                  refine jL_callVi (As := [jl_vi ((xs (jl_add l3 (1 : Int)).toNat).toInt)]) dL_law_617 (jt_X11_out G ((xs (jl_add l3 (1 : Int)).toNat).toInt) (jl_n3_to _) s0) jv_X11_out ⟨rfl, rfl, rfl⟩ jw_936 jk_0 (by decide) (by decide) rfl ⟨Nat.le_of_ble_eq_true rfl, Nat.le_of_ble_eq_true rfl⟩ rfl (Nat.le_of_ble_eq_true rfl) (fun r134 s135 hr134 => ?_)
                                  refine jr_aload_n dL_law_620 2 rfl ?_
                                  refine jr_aload_n dL_law_621 0 rfl ?_
                                  refine jr_iload_n dL_law_622 3 rfl ?_
                                  refine jr_iconst dL_law_623 ?_
                                  refine jr_iadd dL_law_624 ?_
                                  refine jr_grd (fun g136 => ?_)
                                  refine jr_sld hxs dL_law_625 (jl_n3_to _) (by rw [hL]; exact g136) ?_
                                  refine jL_callVi (As := [jl_vi ((xs (jl_add l3 (1 : Int)).toNat).toInt)]) dL_law_626 (jt_X12_out G ((xs (jl_add l3 (1 : Int)).toNat).toInt) (jl_n3_to _) s135) jv_X12_out ⟨rfl, rfl, rfl⟩ jw_1930 jk_206 (by decide) (by decide) rfl ⟨Nat.le_of_ble_eq_true rfl, Nat.le_of_ble_eq_true rfl⟩ rfl (Nat.le_of_ble_eq_true rfl) (fun r137 s138 hr137 => ?_)
                                  refine jr_icmp_eq (t := 1181) dL_law_629 (by decide) hr134 hr137 (fun c139 => ?_) (fun c139 => ?_)
                                  · exact jj_L_law_B1181 G L xs hL hxs hL3 (jf_L_law_L18 L xs n) (ih) l3 hl3 s138
                                  · refine jr_iconst dL_law_632 ?_
                                    exact jr_none
                                · skip
                                  refine jr_ite (fun c140 => ?_) (fun c140 => ?_)
                                  · refine jr_tabIn (t := 634) dL_law_33 hx3 (by omega) (by omega) (by rw [c140]; rfl) (by decide) ?_
                                    refine jr_aload_n dL_law_634 1 rfl ?_
                                    refine jr_aload_n dL_law_635 0 rfl ?_
                                    refine jr_iload_n dL_law_636 3 rfl ?_
                                    refine jr_iconst dL_law_637 ?_
                                    refine jr_iadd dL_law_638 ?_
                                    refine jr_grd (fun g141 => ?_)
                                    refine jr_sld hxs dL_law_639 (jl_n3_to _) (by rw [hL]; exact g141) ?_
                                    refine jr_aload_n dL_law_640 0 rfl ?_
                                    refine jr_iload_n dL_law_641 3 rfl ?_
                                    refine jr_iconst dL_law_642 ?_
                                    refine jr_iadd dL_law_643 ?_
                                    refine jr_grd (fun g142 => ?_)
                                    refine jr_sld hxs dL_law_644 (jl_n3_to _) (by rw [hL]; exact g142) ?_
                                    refine jL_callVi (As := [jl_vi ((xs (jl_add l3 (1 : Int)).toNat).toInt), jl_vi ((xs (jl_add l3 (2 : Int)).toNat).toInt)]) dL_law_645 (jt_X11_trusted G ((xs (jl_add l3 (1 : Int)).toNat).toInt) ((xs (jl_add l3 (2 : Int)).toNat).toInt) (jl_n3_to _) (jl_n3_to _) s0) jv_X11_trusted ⟨rfl, rfl, rfl⟩ jw_949 jk_0 (by decide) (by decide) rfl ⟨Nat.le_of_ble_eq_true rfl, Nat.le_of_ble_eq_true rfl⟩ rfl (Nat.le_of_ble_eq_true rfl) (fun r143 s144 hr143 => ?_)
                                    refine jr_aload_n dL_law_648 2 rfl ?_
                                    refine jr_aload_n dL_law_649 0 rfl ?_
                                    refine jr_iload_n dL_law_650 3 rfl ?_
                                    refine jr_iconst dL_law_651 ?_
                                    refine jr_iadd dL_law_652 ?_
                                    refine jr_grd (fun g145 => ?_)
                                    refine jr_sld hxs dL_law_653 (jl_n3_to _) (by rw [hL]; exact g145) ?_
                                    refine jr_aload_n dL_law_654 0 rfl ?_
                                    refine jr_iload_n dL_law_655 3 rfl ?_
                                    refine jr_iconst dL_law_656 ?_
                                    refine jr_iadd dL_law_657 ?_
                                    refine jr_grd (fun g146 => ?_)
                                    refine jr_sld hxs dL_law_658 (jl_n3_to _) (by rw [hL]; exact g146) ?_
                                    refine jL_callVi (As := [jl_vi ((xs (jl_add l3 (1 : Int)).toNat).toInt), jl_vi ((xs (jl_add l3 (2 : Int)).toNat).toInt)]) dL_law_659 (jt_X12_trusted G ((xs (jl_add l3 (1 : Int)).toNat).toInt) ((xs (jl_add l3 (2 : Int)).toNat).toInt) (jl_n3_to _) (jl_n3_to _) s144) jv_X12_trusted ⟨rfl, rfl, rfl⟩ jw_1934 jk_206 (by decide) (by decide) rfl ⟨Nat.le_of_ble_eq_true rfl, Nat.le_of_ble_eq_true rfl⟩ rfl (Nat.le_of_ble_eq_true rfl) (fun r147 s148 hr147 => ?_)
                                    refine jr_icmp_eq (t := 1181) dL_law_662 (by decide) hr143 hr147 (fun c149 => ?_) (fun c149 => ?_)
                                    · exact jj_L_law_B1181 G L xs hL hxs hL3 (jf_L_law_L18 L xs n) (ih) l3 hl3 s148
                                    · refine jr_iconst dL_law_665 ?_
                                      exact jr_none
                                  · skip
                                    refine jr_ite (fun c150 => ?_) (fun c150 => ?_)
                                    · refine jr_tabIn (t := 667) dL_law_33 hx3 (by omega) (by omega) (by rw [c150]; rfl) (by decide) ?_
                                      refine jr_aload_n dL_law_667 1 rfl ?_
                                      refine jr_aload_n dL_law_668 0 rfl ?_
                                      refine jr_iload_n dL_law_669 3 rfl ?_
                                      refine jr_iconst dL_law_670 ?_
                                      refine jr_iadd dL_law_671 ?_
                                      refine jr_grd (fun g151 => ?_)
                                      refine jr_sld hxs dL_law_672 (jl_n3_to _) (by rw [hL]; exact g151) ?_
                                      refine jr_aload_n dL_law_673 0 rfl ?_
                                      refine jr_iload_n dL_law_674 3 rfl ?_
                                      refine jr_iconst dL_law_675 ?_
                                      refine jr_iadd dL_law_676 ?_
                                      refine jr_grd (fun g152 => ?_)
                                      refine jr_sld hxs dL_law_677 (jl_n3_to _) (by rw [hL]; exact g152) ?_
                                      refine jL_callVi (As := [jl_vi ((xs (jl_add l3 (1 : Int)).toNat).toInt), jl_vi ((xs (jl_add l3 (2 : Int)).toNat).toInt)]) dL_law_678 (jt_X11_shorts G ((xs (jl_add l3 (1 : Int)).toNat).toInt) ((xs (jl_add l3 (2 : Int)).toNat).toInt) (jl_n3_to _) (jl_n3_to _) s0) jv_X11_shorts ⟨rfl, rfl, rfl⟩ jw_957 jk_0 (by decide) (by decide) rfl ⟨Nat.le_of_ble_eq_true rfl, Nat.le_of_ble_eq_true rfl⟩ rfl (Nat.le_of_ble_eq_true rfl) (fun r153 s154 hr153 => ?_)
                                      refine jr_aload_n dL_law_681 2 rfl ?_
                                      refine jr_aload_n dL_law_682 0 rfl ?_
                                      refine jr_iload_n dL_law_683 3 rfl ?_
                                      refine jr_iconst dL_law_684 ?_
                                      refine jr_iadd dL_law_685 ?_
                                      refine jr_grd (fun g155 => ?_)
                                      refine jr_sld hxs dL_law_686 (jl_n3_to _) (by rw [hL]; exact g155) ?_
                                      refine jr_aload_n dL_law_687 0 rfl ?_
                                      refine jr_iload_n dL_law_688 3 rfl ?_
                                      refine jr_iconst dL_law_689 ?_
                                      refine jr_iadd dL_law_690 ?_
                                      refine jr_grd (fun g156 => ?_)
                                      refine jr_sld hxs dL_law_691 (jl_n3_to _) (by rw [hL]; exact g156) ?_
                                      refine jL_callVi (As := [jl_vi ((xs (jl_add l3 (1 : Int)).toNat).toInt), jl_vi ((xs (jl_add l3 (2 : Int)).toNat).toInt)]) dL_law_692 (jt_X12_shorts G ((xs (jl_add l3 (1 : Int)).toNat).toInt) ((xs (jl_add l3 (2 : Int)).toNat).toInt) (jl_n3_to _) (jl_n3_to _) s154) jv_X12_shorts ⟨rfl, rfl, rfl⟩ jw_1938 jk_206 (by decide) (by decide) rfl ⟨Nat.le_of_ble_eq_true rfl, Nat.le_of_ble_eq_true rfl⟩ rfl (Nat.le_of_ble_eq_true rfl) (fun r157 s158 hr157 => ?_)
                                      refine jr_icmp_eq (t := 1181) dL_law_695 (by decide) hr153 hr157 (fun c159 => ?_) (fun c159 => ?_)
                                      · exact jj_L_law_B1181 G L xs hL hxs hL3 (jf_L_law_L18 L xs n) (ih) l3 hl3 s158
                                      · refine jr_iconst dL_law_698 ?_
                                        exact jr_none
                                    · skip
                                      refine jr_ite (fun c160 => ?_) (fun c160 => ?_)
                                      · refine jr_tabIn (t := 700) dL_law_33 hx3 (by omega) (by omega) (by rw [c160]; rfl) (by decide) ?_
                                        refine jr_aload_n dL_law_700 1 rfl ?_
                                        refine jr_aload_n dL_law_701 0 rfl ?_
                                        refine jr_iload_n dL_law_702 3 rfl ?_
                                        refine jr_iconst dL_law_703 ?_
                                        refine jr_iadd dL_law_704 ?_
                                        refine jr_grd (fun g161 => ?_)
                                        refine jr_sld hxs dL_law_705 (jl_n3_to _) (by rw [hL]; exact g161) ?_
                                        refine jr_aload_n dL_law_706 0 rfl ?_
                                        refine jr_iload_n dL_law_707 3 rfl ?_
                                        refine jr_iconst dL_law_708 ?_
                                        refine jr_iadd dL_law_709 ?_
                                        refine jr_grd (fun g162 => ?_)
                                        refine jr_sld hxs dL_law_710 (jl_n3_to _) (by rw [hL]; exact g162) ?_
                                        refine jL_callVi (As := [jl_vi ((xs (jl_add l3 (1 : Int)).toNat).toInt), jl_vi ((xs (jl_add l3 (2 : Int)).toNat).toInt)]) dL_law_711 (jt_X11_together G ((xs (jl_add l3 (1 : Int)).toNat).toInt) ((xs (jl_add l3 (2 : Int)).toNat).toInt) (jl_n3_to _) (jl_n3_to _) s0) jv_X11_together ⟨rfl, rfl, rfl⟩ jw_968 jk_0 (by decide) (by decide) rfl ⟨Nat.le_of_ble_eq_true rfl, Nat.le_of_ble_eq_true rfl⟩ rfl (Nat.le_of_ble_eq_true rfl) (fun r163 s164 hr163 => ?_)
                                        refine jr_aload_n dL_law_714 2 rfl ?_
                                        refine jr_aload_n dL_law_715 0 rfl ?_
                                        refine jr_iload_n dL_law_716 3 rfl ?_
                                        refine jr_iconst dL_law_717 ?_
                                        refine jr_iadd dL_law_718 ?_
                                        refine jr_grd (fun g165 => ?_)
                                        refine jr_sld hxs dL_law_719 (jl_n3_to _) (by rw [hL]; exact g165) ?_
                                        refine jr_aload_n dL_law_720 0 rfl ?_
                                        refine jr_iload_n dL_law_721 3 rfl ?_
                                        refine jr_iconst dL_law_722 ?_
                                        refine jr_iadd dL_law_723 ?_
                                        refine jr_grd (fun g166 => ?_)
                                        refine jr_sld hxs dL_law_724 (jl_n3_to _) (by rw [hL]; exact g166) ?_
                                        refine jL_callVi (As := [jl_vi ((xs (jl_add l3 (1 : Int)).toNat).toInt), jl_vi ((xs (jl_add l3 (2 : Int)).toNat).toInt)]) dL_law_725 (jt_X12_together G ((xs (jl_add l3 (1 : Int)).toNat).toInt) ((xs (jl_add l3 (2 : Int)).toNat).toInt) (jl_n3_to _) (jl_n3_to _) s164) jv_X12_together ⟨rfl, rfl, rfl⟩ jw_1950 jk_206 (by decide) (by decide) rfl ⟨Nat.le_of_ble_eq_true rfl, Nat.le_of_ble_eq_true rfl⟩ rfl (Nat.le_of_ble_eq_true rfl) (fun r167 s168 hr167 => ?_)
                                        refine jr_icmp_eq (t := 1181) dL_law_728 (by decide) hr163 hr167 (fun c169 => ?_) (fun c169 => ?_)
                                        · exact jj_L_law_B1181 G L xs hL hxs hL3 (jf_L_law_L18 L xs n) (ih) l3 hl3 s168
                                        · refine jr_iconst dL_law_731 ?_
                                          exact jr_none
                                      · skip
                                        refine jr_ite (fun c170 => ?_) (fun c170 => ?_)
                                        · refine jr_tabIn (t := 733) dL_law_33 hx3 (by omega) (by omega) (by rw [c170]; rfl) (by decide) ?_
                                          refine jr_aload_n dL_law_733 1 rfl ?_
                                          refine jr_aload_n dL_law_734 0 rfl ?_
                                          refine jr_iload_n dL_law_735 3 rfl ?_
                                          refine jr_iconst dL_law_736 ?_
                                          refine jr_iadd dL_law_737 ?_
                                          refine jr_grd (fun g171 => ?_)
                                          refine jr_sld hxs dL_law_738 (jl_n3_to _) (by rw [hL]; exact g171) ?_
                                          refine jr_aload_n dL_law_739 0 rfl ?_
                                          refine jr_iload_n dL_law_740 3 rfl ?_
                                          refine jr_iconst dL_law_741 ?_
                                          refine jr_iadd dL_law_742 ?_
                                          refine jr_grd (fun g172 => ?_)
                                          refine jr_sld hxs dL_law_743 (jl_n3_to _) (by rw [hL]; exact g172) ?_
                                          refine jL_callVi (As := [jl_vi ((xs (jl_add l3 (1 : Int)).toNat).toInt), jl_vi ((xs (jl_add l3 (2 : Int)).toNat).toInt)]) dL_law_744 (jt_X11_keystone G ((xs (jl_add l3 (1 : Int)).toNat).toInt) ((xs (jl_add l3 (2 : Int)).toNat).toInt) (jl_n3_to _) (jl_n3_to _) s0) jv_X11_keystone ⟨rfl, rfl, rfl⟩ jw_972 jk_0 (by decide) (by decide) rfl ⟨Nat.le_of_ble_eq_true rfl, Nat.le_of_ble_eq_true rfl⟩ rfl (Nat.le_of_ble_eq_true rfl) (fun r173 s174 hr173 => ?_)
                                          refine jr_aload_n dL_law_747 2 rfl ?_
                                          refine jr_aload_n dL_law_748 0 rfl ?_
                                          refine jr_iload_n dL_law_749 3 rfl ?_
                                          refine jr_iconst dL_law_750 ?_
                                          refine jr_iadd dL_law_751 ?_
                                          refine jr_grd (fun g175 => ?_)
                                          refine jr_sld hxs dL_law_752 (jl_n3_to _) (by rw [hL]; exact g175) ?_
                                          refine jr_aload_n dL_law_753 0 rfl ?_
                                          refine jr_iload_n dL_law_754 3 rfl ?_
                                          refine jr_iconst dL_law_755 ?_
                                          refine jr_iadd dL_law_756 ?_
                                          refine jr_grd (fun g176 => ?_)
                                          refine jr_sld hxs dL_law_757 (jl_n3_to _) (by rw [hL]; exact g176) ?_
                                          refine jL_callVi (As := [jl_vi ((xs (jl_add l3 (1 : Int)).toNat).toInt), jl_vi ((xs (jl_add l3 (2 : Int)).toNat).toInt)]) dL_law_758 (jt_X12_keystone G ((xs (jl_add l3 (1 : Int)).toNat).toInt) ((xs (jl_add l3 (2 : Int)).toNat).toInt) (jl_n3_to _) (jl_n3_to _) s174) jv_X12_keystone ⟨rfl, rfl, rfl⟩ jw_1954 jk_206 (by decide) (by decide) rfl ⟨Nat.le_of_ble_eq_true rfl, Nat.le_of_ble_eq_true rfl⟩ rfl (Nat.le_of_ble_eq_true rfl) (fun r177 s178 hr177 => ?_)
                                          refine jr_icmp_eq (t := 1181) dL_law_761 (by decide) hr173 hr177 (fun c179 => ?_) (fun c179 => ?_)
                                          · exact jj_L_law_B1181 G L xs hL hxs hL3 (jf_L_law_L18 L xs n) (ih) l3 hl3 s178
                                          · refine jr_iconst dL_law_764 ?_
                                            exact jr_none
                                        · skip
                                          refine jr_ite (fun c180 => ?_) (fun c180 => ?_)
                                          · refine jr_tabIn (t := 766) dL_law_33 hx3 (by omega) (by omega) (by rw [c180]; rfl) (by decide) ?_
                                            refine jr_aload_n dL_law_766 1 rfl ?_
                                            refine jr_aload_n dL_law_767 0 rfl ?_
                                            refine jr_iload_n dL_law_768 3 rfl ?_
                                            refine jr_iconst dL_law_769 ?_
                                            refine jr_iadd dL_law_770 ?_
                                            refine jr_grd (fun g181 => ?_)
                                            refine jr_sld hxs dL_law_771 (jl_n3_to _) (by rw [hL]; exact g181) ?_
                                            refine jr_aload_n dL_law_772 0 rfl ?_
                                            refine jr_iload_n dL_law_773 3 rfl ?_
                                            refine jr_iconst dL_law_774 ?_
                                            refine jr_iadd dL_law_775 ?_
                                            refine jr_grd (fun g182 => ?_)
                                            refine jr_sld hxs dL_law_776 (jl_n3_to _) (by rw [hL]; exact g182) ?_
                                            refine jL_callVi (As := [jl_vi ((xs (jl_add l3 (1 : Int)).toNat).toInt), jl_vi ((xs (jl_add l3 (2 : Int)).toNat).toInt)]) dL_law_777 (jt_X11_change G ((xs (jl_add l3 (1 : Int)).toNat).toInt) ((xs (jl_add l3 (2 : Int)).toNat).toInt) (jl_n3_to _) (jl_n3_to _) s0) jv_X11_change ⟨rfl, rfl, rfl⟩ jw_989 jk_0 (by decide) (by decide) rfl ⟨Nat.le_of_ble_eq_true rfl, Nat.le_of_ble_eq_true rfl⟩ rfl (Nat.le_of_ble_eq_true rfl) (fun r183 s184 hr183 => ?_)
                                            refine jr_aload_n dL_law_780 2 rfl ?_
                                            refine jr_aload_n dL_law_781 0 rfl ?_
                                            refine jr_iload_n dL_law_782 3 rfl ?_
                                            refine jr_iconst dL_law_783 ?_
                                            refine jr_iadd dL_law_784 ?_
                                            refine jr_grd (fun g185 => ?_)
                                            refine jr_sld hxs dL_law_785 (jl_n3_to _) (by rw [hL]; exact g185) ?_
                                            refine jr_aload_n dL_law_786 0 rfl ?_
                                            refine jr_iload_n dL_law_787 3 rfl ?_
                                            refine jr_iconst dL_law_788 ?_
                                            refine jr_iadd dL_law_789 ?_
                                            refine jr_grd (fun g186 => ?_)
                                            refine jr_sld hxs dL_law_790 (jl_n3_to _) (by rw [hL]; exact g186) ?_
                                            refine jL_callVi (As := [jl_vi ((xs (jl_add l3 (1 : Int)).toNat).toInt), jl_vi ((xs (jl_add l3 (2 : Int)).toNat).toInt)]) dL_law_791 (jt_X12_change G ((xs (jl_add l3 (1 : Int)).toNat).toInt) ((xs (jl_add l3 (2 : Int)).toNat).toInt) (jl_n3_to _) (jl_n3_to _) s184) jv_X12_change ⟨rfl, rfl, rfl⟩ jw_1962 jk_206 (by decide) (by decide) rfl ⟨Nat.le_of_ble_eq_true rfl, Nat.le_of_ble_eq_true rfl⟩ rfl (Nat.le_of_ble_eq_true rfl) (fun r187 s188 hr187 => ?_)
                                            refine jr_icmp_eq (t := 1181) dL_law_794 (by decide) hr183 hr187 (fun c189 => ?_) (fun c189 => ?_)
                                            · exact jj_L_law_B1181 G L xs hL hxs hL3 (jf_L_law_L18 L xs n) (ih) l3 hl3 s188
                                            · refine jr_iconst dL_law_797 ?_
                                              exact jr_none
                                          · skip
                                            refine jr_ite (fun c190 => ?_) (fun c190 => ?_)
                                            · refine jr_tabIn (t := 799) dL_law_33 hx3 (by omega) (by omega) (by rw [c190]; rfl) (by decide) ?_
                                              refine jr_aload_n dL_law_799 1 rfl ?_
                                              refine jr_aload_n dL_law_800 0 rfl ?_
                                              refine jr_iload_n dL_law_801 3 rfl ?_
                                              refine jr_iconst dL_law_802 ?_
                                              refine jr_iadd dL_law_803 ?_
                                              refine jr_grd (fun g191 => ?_)
                                              refine jr_sld hxs dL_law_804 (jl_n3_to _) (by rw [hL]; exact g191) ?_
                                              refine jL_callVi (As := [jl_vi ((xs (jl_add l3 (1 : Int)).toNat).toInt)]) dL_law_805 (jt_X11_odds G ((xs (jl_add l3 (1 : Int)).toNat).toInt) (jl_n3_to _) s0) jv_X11_odds ⟨rfl, rfl, rfl⟩ jw_1005 jk_0 (by decide) (by decide) rfl ⟨Nat.le_of_ble_eq_true rfl, Nat.le_of_ble_eq_true rfl⟩ rfl (Nat.le_of_ble_eq_true rfl) (fun r192 s193 hr192 => ?_)
                                              refine jr_aload_n dL_law_808 2 rfl ?_
                                              refine jr_aload_n dL_law_809 0 rfl ?_
                                              refine jr_iload_n dL_law_810 3 rfl ?_
                                              refine jr_iconst dL_law_811 ?_
                                              refine jr_iadd dL_law_812 ?_
                                              refine jr_grd (fun g194 => ?_)
                                              refine jr_sld hxs dL_law_813 (jl_n3_to _) (by rw [hL]; exact g194) ?_
                                              refine jL_callVi (As := [jl_vi ((xs (jl_add l3 (1 : Int)).toNat).toInt)]) dL_law_814 (jt_X12_odds G ((xs (jl_add l3 (1 : Int)).toNat).toInt) (jl_n3_to _) s193) jv_X12_odds ⟨rfl, rfl, rfl⟩ jw_1966 jk_206 (by decide) (by decide) rfl ⟨Nat.le_of_ble_eq_true rfl, Nat.le_of_ble_eq_true rfl⟩ rfl (Nat.le_of_ble_eq_true rfl) (fun r195 s196 hr195 => ?_)
                                              refine jr_icmp_eq (t := 1181) dL_law_817 (by decide) hr192 hr195 (fun c197 => ?_) (fun c197 => ?_)
                                              · exact jj_L_law_B1181 G L xs hL hxs hL3 (jf_L_law_L18 L xs n) (ih) l3 hl3 s196
                                              · refine jr_iconst dL_law_820 ?_
                                                exact jr_none
                                            · skip
                                              refine jr_ite (fun c198 => ?_) (fun c198 => ?_)
                                              · refine jr_tabIn (t := 822) dL_law_33 hx3 (by omega) (by omega) (by rw [c198]; rfl) (by decide) ?_
                                                refine jr_aload_n dL_law_822 1 rfl ?_
                                                refine jL_callVi (As := []) dL_law_823 (jt_X11_see G s0) jv_X11_see ⟨rfl, rfl, rfl⟩ jw_1017 jk_0 (by decide) (by decide) rfl ⟨Nat.le_of_ble_eq_true rfl, Nat.le_of_ble_eq_true rfl⟩ rfl (Nat.le_of_ble_eq_true rfl) (fun r199 s200 hr199 => ?_)
                                                refine jr_aload_n dL_law_826 2 rfl ?_
                                                refine jL_callVi (As := []) dL_law_827 (jt_X12_see G s200) jv_X12_see ⟨rfl, rfl, rfl⟩ jw_1974 jk_206 (by decide) (by decide) rfl ⟨Nat.le_of_ble_eq_true rfl, Nat.le_of_ble_eq_true rfl⟩ rfl (Nat.le_of_ble_eq_true rfl) (fun r201 s202 hr201 => ?_)
                                                refine jr_icmp_eq (t := 1181) dL_law_830 (by decide) hr199 hr201 (fun c203 => ?_) (fun c203 => ?_)
                                                · exact jj_L_law_B1181 G L xs hL hxs hL3 (jf_L_law_L18 L xs n) (ih) l3 hl3 s202
                                                · refine jr_iconst dL_law_833 ?_
                                                  exact jr_none
                                              · skip
                                                refine jr_ite (fun c204 => ?_) (fun c204 => ?_)
                                                · refine jr_tabIn (t := 835) dL_law_33 hx3 (by omega) (by omega) (by rw [c204]; rfl) (by decide) ?_
                                                  refine jr_aload_n dL_law_835 1 rfl ?_
                                                  refine jr_aload_n dL_law_836 0 rfl ?_
                                                  refine jr_iload_n dL_law_837 3 rfl ?_
                                                  refine jr_iconst dL_law_838 ?_
                                                  refine jr_iadd dL_law_839 ?_
                                                  refine jr_grd (fun g205 => ?_)
                                                  refine jr_sld hxs dL_law_840 (jl_n3_to _) (by rw [hL]; exact g205) ?_
                                                  refine jr_aload_n dL_law_841 0 rfl ?_
                                                  refine jr_iload_n dL_law_842 3 rfl ?_
                                                  refine jr_iconst dL_law_843 ?_
                                                  refine jr_iadd dL_law_844 ?_
                                                  refine jr_grd (fun g206 => ?_)
                                                  refine jr_sld hxs dL_law_845 (jl_n3_to _) (by rw [hL]; exact g206) ?_
                                                  refine jL_callVi (As := [jl_vi ((xs (jl_add l3 (1 : Int)).toNat).toInt), jl_vi ((xs (jl_add l3 (2 : Int)).toNat).toInt)]) dL_law_846 (jt_X11_inches G ((xs (jl_add l3 (1 : Int)).toNat).toInt) ((xs (jl_add l3 (2 : Int)).toNat).toInt) (jl_n3_to _) (jl_n3_to _) s0) jv_X11_inches ⟨rfl, rfl, rfl⟩ jw_1027 jk_0 (by decide) (by decide) rfl ⟨Nat.le_of_ble_eq_true rfl, Nat.le_of_ble_eq_true rfl⟩ rfl (Nat.le_of_ble_eq_true rfl) (fun r207 s208 hr207 => ?_)
                                                  refine jr_aload_n dL_law_849 2 rfl ?_
                                                  refine jr_aload_n dL_law_850 0 rfl ?_
                                                  refine jr_iload_n dL_law_851 3 rfl ?_
                                                  refine jr_iconst dL_law_852 ?_
                                                  refine jr_iadd dL_law_853 ?_
                                                  refine jr_grd (fun g209 => ?_)
                                                  refine jr_sld hxs dL_law_854 (jl_n3_to _) (by rw [hL]; exact g209) ?_
                                                  refine jr_aload_n dL_law_855 0 rfl ?_
                                                  refine jr_iload_n dL_law_856 3 rfl ?_
                                                  refine jr_iconst dL_law_857 ?_
                                                  refine jr_iadd dL_law_858 ?_
                                                  refine jr_grd (fun g210 => ?_)
                                                  refine jr_sld hxs dL_law_859 (jl_n3_to _) (by rw [hL]; exact g210) ?_
                                                  refine jL_callVi (As := [jl_vi ((xs (jl_add l3 (1 : Int)).toNat).toInt), jl_vi ((xs (jl_add l3 (2 : Int)).toNat).toInt)]) dL_law_860 (jt_X12_inches G ((xs (jl_add l3 (1 : Int)).toNat).toInt) ((xs (jl_add l3 (2 : Int)).toNat).toInt) (jl_n3_to _) (jl_n3_to _) s208) jv_X12_inches ⟨rfl, rfl, rfl⟩ jw_1978 jk_206 (by decide) (by decide) rfl ⟨Nat.le_of_ble_eq_true rfl, Nat.le_of_ble_eq_true rfl⟩ rfl (Nat.le_of_ble_eq_true rfl) (fun r211 s212 hr211 => ?_)
                                                  refine jr_icmp_eq (t := 1181) dL_law_863 (by decide) hr207 hr211 (fun c213 => ?_) (fun c213 => ?_)
                                                  · exact jj_L_law_B1181 G L xs hL hxs hL3 (jf_L_law_L18 L xs n) (ih) l3 hl3 s212
                                                  · refine jr_iconst dL_law_866 ?_
                                                    exact jr_none
                                                · skip
                                                  refine jr_ite (fun c214 => ?_) (fun c214 => ?_)
                                                  · refine jr_tabIn (t := 868) dL_law_33 hx3 (by omega) (by omega) (by rw [c214]; rfl) (by decide) ?_
                                                    refine jr_aload_n dL_law_868 1 rfl ?_
                                                    refine jr_aload_n dL_law_869 0 rfl ?_
                                                    refine jr_iload_n dL_law_870 3 rfl ?_
                                                    refine jr_iconst dL_law_871 ?_
                                                    refine jr_iadd dL_law_872 ?_
                                                    refine jr_grd (fun g215 => ?_)
                                                    refine jr_sld hxs dL_law_873 (jl_n3_to _) (by rw [hL]; exact g215) ?_
                                                    refine jr_aload_n dL_law_874 0 rfl ?_
                                                    refine jr_iload_n dL_law_875 3 rfl ?_
                                                    refine jr_iconst dL_law_876 ?_
                                                    refine jr_iadd dL_law_877 ?_
                                                    refine jr_grd (fun g216 => ?_)
                                                    refine jr_sld hxs dL_law_878 (jl_n3_to _) (by rw [hL]; exact g216) ?_
                                                    refine jL_callVi (As := [jl_vi ((xs (jl_add l3 (1 : Int)).toNat).toInt), jl_vi ((xs (jl_add l3 (2 : Int)).toNat).toInt)]) dL_law_879 (jt_X11_tells G ((xs (jl_add l3 (1 : Int)).toNat).toInt) ((xs (jl_add l3 (2 : Int)).toNat).toInt) (jl_n3_to _) (jl_n3_to _) s0) jv_X11_tells ⟨rfl, rfl, rfl⟩ jw_1051 jk_0 (by decide) (by decide) rfl ⟨Nat.le_of_ble_eq_true rfl, Nat.le_of_ble_eq_true rfl⟩ rfl (Nat.le_of_ble_eq_true rfl) (fun r217 s218 hr217 => ?_)
                                                    refine jr_aload_n dL_law_882 2 rfl ?_
                                                    refine jr_aload_n dL_law_883 0 rfl ?_
                                                    refine jr_iload_n dL_law_884 3 rfl ?_
                                                    refine jr_iconst dL_law_885 ?_
                                                    refine jr_iadd dL_law_886 ?_
                                                    refine jr_grd (fun g219 => ?_)
                                                    refine jr_sld hxs dL_law_887 (jl_n3_to _) (by rw [hL]; exact g219) ?_
                                                    refine jr_aload_n dL_law_888 0 rfl ?_
                                                    refine jr_iload_n dL_law_889 3 rfl ?_
                                                    refine jr_iconst dL_law_890 ?_
                                                    refine jr_iadd dL_law_891 ?_
                                                    refine jr_grd (fun g220 => ?_)
                                                    refine jr_sld hxs dL_law_892 (jl_n3_to _) (by rw [hL]; exact g220) ?_
                                                    refine jL_callVi (As := [jl_vi ((xs (jl_add l3 (1 : Int)).toNat).toInt), jl_vi ((xs (jl_add l3 (2 : Int)).toNat).toInt)]) dL_law_893 (jt_X12_tells G ((xs (jl_add l3 (1 : Int)).toNat).toInt) ((xs (jl_add l3 (2 : Int)).toNat).toInt) (jl_n3_to _) (jl_n3_to _) s218) jv_X12_tells ⟨rfl, rfl, rfl⟩ jw_1994 jk_206 (by decide) (by decide) rfl ⟨Nat.le_of_ble_eq_true rfl, Nat.le_of_ble_eq_true rfl⟩ rfl (Nat.le_of_ble_eq_true rfl) (fun r221 s222 hr221 => ?_)
                                                    refine jr_icmp_eq (t := 1181) dL_law_896 (by decide) hr217 hr221 (fun c223 => ?_) (fun c223 => ?_)
                                                    · exact jj_L_law_B1181 G L xs hL hxs hL3 (jf_L_law_L18 L xs n) (ih) l3 hl3 s222
                                                    · refine jr_iconst dL_law_899 ?_
                                                      exact jr_none
                                                  · skip
                                                    refine jr_ite (fun c224 => ?_) (fun c224 => ?_)
                                                    · refine jr_tabIn (t := 901) dL_law_33 hx3 (by omega) (by omega) (by rw [c224]; rfl) (by decide) ?_
                                                      refine jr_aload_n dL_law_901 1 rfl ?_
                                                      refine jr_aload_n dL_law_902 0 rfl ?_
                                                      refine jr_iload_n dL_law_903 3 rfl ?_
                                                      refine jr_iconst dL_law_904 ?_
                                                      refine jr_iadd dL_law_905 ?_
                                                      refine jr_grd (fun g225 => ?_)
                                                      refine jr_sld hxs dL_law_906 (jl_n3_to _) (by rw [hL]; exact g225) ?_
                                                      refine jr_aload_n dL_law_907 0 rfl ?_
                                                      refine jr_iload_n dL_law_908 3 rfl ?_
                                                      refine jr_iconst dL_law_909 ?_
                                                      refine jr_iadd dL_law_910 ?_
                                                      refine jr_grd (fun g226 => ?_)
                                                      refine jr_sld hxs dL_law_911 (jl_n3_to _) (by rw [hL]; exact g226) ?_
                                                      refine jL_callVz (As := [jl_vi ((xs (jl_add l3 (1 : Int)).toNat).toInt), jl_vi ((xs (jl_add l3 (2 : Int)).toNat).toInt)]) dL_law_912 (jt_X11_light G ((xs (jl_add l3 (1 : Int)).toNat).toInt) ((xs (jl_add l3 (2 : Int)).toNat).toInt) (jl_n3_to _) (jl_n3_to _) s0) jv_X11_light ⟨rfl, rfl, rfl⟩ jw_1070 jk_0 (by decide) (by decide) rfl ⟨Nat.le_of_ble_eq_true rfl, Nat.le_of_ble_eq_true rfl⟩ rfl (Nat.le_of_ble_eq_true rfl) (fun r227 s228 hr227 => ?_)
                                                      refine jr_aload_n dL_law_915 2 rfl ?_
                                                      refine jr_aload_n dL_law_916 0 rfl ?_
                                                      refine jr_iload_n dL_law_917 3 rfl ?_
                                                      refine jr_iconst dL_law_918 ?_
                                                      refine jr_iadd dL_law_919 ?_
                                                      refine jr_grd (fun g229 => ?_)
                                                      refine jr_sld hxs dL_law_920 (jl_n3_to _) (by rw [hL]; exact g229) ?_
                                                      refine jr_aload_n dL_law_921 0 rfl ?_
                                                      refine jr_iload_n dL_law_922 3 rfl ?_
                                                      refine jr_iconst dL_law_923 ?_
                                                      refine jr_iadd dL_law_924 ?_
                                                      refine jr_grd (fun g230 => ?_)
                                                      refine jr_sld hxs dL_law_925 (jl_n3_to _) (by rw [hL]; exact g230) ?_
                                                      refine jL_callVz (As := [jl_vi ((xs (jl_add l3 (1 : Int)).toNat).toInt), jl_vi ((xs (jl_add l3 (2 : Int)).toNat).toInt)]) dL_law_926 (jt_X12_light G ((xs (jl_add l3 (1 : Int)).toNat).toInt) ((xs (jl_add l3 (2 : Int)).toNat).toInt) (jl_n3_to _) (jl_n3_to _) s228) jv_X12_light ⟨rfl, rfl, rfl⟩ jw_2006 jk_206 (by decide) (by decide) rfl ⟨Nat.le_of_ble_eq_true rfl, Nat.le_of_ble_eq_true rfl⟩ rfl (Nat.le_of_ble_eq_true rfl) (fun r231 s232 hr231 => ?_)
                                                      refine jr_icmp_eq (t := 1181) dL_law_929 (by decide) (jl_nz hr227) (jl_nz hr231) (fun c233 => ?_) (fun c233 => ?_)
                                                      · exact jj_L_law_B1181 G L xs hL hxs hL3 (jf_L_law_L18 L xs n) (ih) l3 hl3 s232
                                                      · refine jr_iconst dL_law_932 ?_
                                                        exact jr_none
                                                    · skip
                                                      refine jr_ite (fun c234 => ?_) (fun c234 => ?_)
                                                      · refine jr_tabIn (t := 934) dL_law_33 hx3 (by omega) (by omega) (by rw [c234]; rfl) (by decide) ?_
                                                        refine jr_aload_n dL_law_934 1 rfl ?_
                                                        refine jr_aload_n dL_law_935 0 rfl ?_
                                                        refine jr_iload_n dL_law_936 3 rfl ?_
                                                        refine jr_iconst dL_law_937 ?_
                                                        refine jr_iadd dL_law_938 ?_
                                                        refine jr_grd (fun g235 => ?_)
                                                        refine jr_sld hxs dL_law_939 (jl_n3_to _) (by rw [hL]; exact g235) ?_
                                                        refine jL_callVi (As := [jl_vi ((xs (jl_add l3 (1 : Int)).toNat).toInt)]) dL_law_940 (jt_X11_snuff G ((xs (jl_add l3 (1 : Int)).toNat).toInt) (jl_n3_to _) s0) jv_X11_snuff ⟨rfl, rfl, rfl⟩ jw_1086 jk_0 (by decide) (by decide) rfl ⟨Nat.le_of_ble_eq_true rfl, Nat.le_of_ble_eq_true rfl⟩ rfl (Nat.le_of_ble_eq_true rfl) (fun r236 s237 hr236 => ?_)
                                                        refine jr_aload_n dL_law_943 2 rfl ?_
                                                        refine jr_aload_n dL_law_944 0 rfl ?_
                                                        refine jr_iload_n dL_law_945 3 rfl ?_
                                                        refine jr_iconst dL_law_946 ?_
                                                        refine jr_iadd dL_law_947 ?_
                                                        refine jr_grd (fun g238 => ?_)
                                                        refine jr_sld hxs dL_law_948 (jl_n3_to _) (by rw [hL]; exact g238) ?_
                                                        refine jL_callVi (As := [jl_vi ((xs (jl_add l3 (1 : Int)).toNat).toInt)]) dL_law_949 (jt_X12_snuff G ((xs (jl_add l3 (1 : Int)).toNat).toInt) (jl_n3_to _) s237) jv_X12_snuff ⟨rfl, rfl, rfl⟩ jw_2019 jk_206 (by decide) (by decide) rfl ⟨Nat.le_of_ble_eq_true rfl, Nat.le_of_ble_eq_true rfl⟩ rfl (Nat.le_of_ble_eq_true rfl) (fun r239 s240 hr239 => ?_)
                                                        refine jr_icmp_eq (t := 1181) dL_law_952 (by decide) hr236 hr239 (fun c241 => ?_) (fun c241 => ?_)
                                                        · exact jj_L_law_B1181 G L xs hL hxs hL3 (jf_L_law_L18 L xs n) (ih) l3 hl3 s240
                                                        · refine jr_iconst dL_law_955 ?_
                                                          exact jr_none
                                                      · skip
                                                        refine jr_ite (fun c242 => ?_) (fun c242 => ?_)
                                                        · refine jr_tabIn (t := 957) dL_law_33 hx3 (by omega) (by omega) (by rw [c242]; rfl) (by decide) ?_
                                                          refine jr_aload_n dL_law_957 1 rfl ?_
                                                          refine jr_aload_n dL_law_958 0 rfl ?_
                                                          refine jr_iload_n dL_law_959 3 rfl ?_
                                                          refine jr_iconst dL_law_960 ?_
                                                          refine jr_iadd dL_law_961 ?_
                                                          refine jr_grd (fun g243 => ?_)
                                                          refine jr_sld hxs dL_law_962 (jl_n3_to _) (by rw [hL]; exact g243) ?_
                                                          refine jr_aload_n dL_law_963 0 rfl ?_
                                                          refine jr_iload_n dL_law_964 3 rfl ?_
                                                          refine jr_iconst dL_law_965 ?_
                                                          refine jr_iadd dL_law_966 ?_
                                                          refine jr_grd (fun g244 => ?_)
                                                          refine jr_sld hxs dL_law_967 (jl_n3_to _) (by rw [hL]; exact g244) ?_
                                                          refine jL_callVz (As := [jl_vi ((xs (jl_add l3 (1 : Int)).toNat).toInt), jl_vi ((xs (jl_add l3 (2 : Int)).toNat).toInt)]) dL_law_968 (jt_X11_move G ((xs (jl_add l3 (1 : Int)).toNat).toInt) ((xs (jl_add l3 (2 : Int)).toNat).toInt) (jl_n3_to _) (jl_n3_to _) s0) jv_X11_move ⟨rfl, rfl, rfl⟩ jw_1091 jk_0 (by decide) (by decide) rfl ⟨Nat.le_of_ble_eq_true rfl, Nat.le_of_ble_eq_true rfl⟩ rfl (Nat.le_of_ble_eq_true rfl) (fun r245 s246 hr245 => ?_)
                                                          refine jr_aload_n dL_law_971 2 rfl ?_
                                                          refine jr_aload_n dL_law_972 0 rfl ?_
                                                          refine jr_iload_n dL_law_973 3 rfl ?_
                                                          refine jr_iconst dL_law_974 ?_
                                                          refine jr_iadd dL_law_975 ?_
                                                          refine jr_grd (fun g247 => ?_)
                                                          refine jr_sld hxs dL_law_976 (jl_n3_to _) (by rw [hL]; exact g247) ?_
                                                          refine jr_aload_n dL_law_977 0 rfl ?_
                                                          refine jr_iload_n dL_law_978 3 rfl ?_
                                                          refine jr_iconst dL_law_979 ?_
                                                          refine jr_iadd dL_law_980 ?_
                                                          refine jr_grd (fun g248 => ?_)
                                                          refine jr_sld hxs dL_law_981 (jl_n3_to _) (by rw [hL]; exact g248) ?_
                                                          refine jL_callVz (As := [jl_vi ((xs (jl_add l3 (1 : Int)).toNat).toInt), jl_vi ((xs (jl_add l3 (2 : Int)).toNat).toInt)]) dL_law_982 (jt_X12_move G ((xs (jl_add l3 (1 : Int)).toNat).toInt) ((xs (jl_add l3 (2 : Int)).toNat).toInt) (jl_n3_to _) (jl_n3_to _) s246) jv_X12_move ⟨rfl, rfl, rfl⟩ jw_2023 jk_206 (by decide) (by decide) rfl ⟨Nat.le_of_ble_eq_true rfl, Nat.le_of_ble_eq_true rfl⟩ rfl (Nat.le_of_ble_eq_true rfl) (fun r249 s250 hr249 => ?_)
                                                          refine jr_icmp_eq (t := 1181) dL_law_985 (by decide) (jl_nz hr245) (jl_nz hr249) (fun c251 => ?_) (fun c251 => ?_)
                                                          · exact jj_L_law_B1181 G L xs hL hxs hL3 (jf_L_law_L18 L xs n) (ih) l3 hl3 s250
                                                          · refine jr_iconst dL_law_988 ?_
                                                            exact jr_none
                                                        · skip
                                                          refine jr_ite (fun c252 => ?_) (fun c252 => ?_)
                                                          · refine jr_tabIn (t := 990) dL_law_33 hx3 (by omega) (by omega) (by rw [c252]; rfl) (by decide) ?_
                                                            refine jr_aload_n dL_law_990 1 rfl ?_
                                                            refine jr_aload_n dL_law_991 0 rfl ?_
                                                            refine jr_iload_n dL_law_992 3 rfl ?_
                                                            refine jr_iconst dL_law_993 ?_
                                                            refine jr_iadd dL_law_994 ?_
                                                            refine jr_grd (fun g253 => ?_)
                                                            refine jr_sld hxs dL_law_995 (jl_n3_to _) (by rw [hL]; exact g253) ?_
                                                            refine jL_callVi (As := [jl_vi ((xs (jl_add l3 (1 : Int)).toNat).toInt)]) dL_law_996 (jt_X11_buy G ((xs (jl_add l3 (1 : Int)).toNat).toInt) (jl_n3_to _) s0) jv_X11_buy ⟨rfl, rfl, rfl⟩ jw_1095 jk_0 (by decide) (by decide) rfl ⟨Nat.le_of_ble_eq_true rfl, Nat.le_of_ble_eq_true rfl⟩ rfl (Nat.le_of_ble_eq_true rfl) (fun r254 s255 hr254 => ?_)
                                                            refine jr_aload_n dL_law_999 2 rfl ?_
                                                            refine jr_aload_n dL_law_1000 0 rfl ?_
                                                            refine jr_iload_n dL_law_1001 3 rfl ?_
                                                            refine jr_iconst dL_law_1002 ?_
                                                            refine jr_iadd dL_law_1003 ?_
                                                            refine jr_grd (fun g256 => ?_)
                                                            refine jr_sld hxs dL_law_1004 (jl_n3_to _) (by rw [hL]; exact g256) ?_
                                                            refine jL_callVi (As := [jl_vi ((xs (jl_add l3 (1 : Int)).toNat).toInt)]) dL_law_1005 (jt_X12_buy G ((xs (jl_add l3 (1 : Int)).toNat).toInt) (jl_n3_to _) s255) jv_X12_buy ⟨rfl, rfl, rfl⟩ jw_2027 jk_206 (by decide) (by decide) rfl ⟨Nat.le_of_ble_eq_true rfl, Nat.le_of_ble_eq_true rfl⟩ rfl (Nat.le_of_ble_eq_true rfl) (fun r257 s258 hr257 => ?_)
                                                            refine jr_icmp_eq (t := 1181) dL_law_1008 (by decide) hr254 hr257 (fun c259 => ?_) (fun c259 => ?_)
                                                            · exact jj_L_law_B1181 G L xs hL hxs hL3 (jf_L_law_L18 L xs n) (ih) l3 hl3 s258
                                                            · refine jr_iconst dL_law_1011 ?_
                                                              exact jr_none
                                                          · skip
                                                            refine jr_ite (fun c260 => ?_) (fun c260 => ?_)
                                                            · refine jr_tabIn (t := 1013) dL_law_33 hx3 (by omega) (by omega) (by rw [c260]; rfl) (by decide) ?_
                                                              refine jr_aload_n dL_law_1013 1 rfl ?_
                                                              refine jr_aload_n dL_law_1014 0 rfl ?_
                                                              refine jr_iload_n dL_law_1015 3 rfl ?_
                                                              refine jr_iconst dL_law_1016 ?_
                                                              refine jr_iadd dL_law_1017 ?_
                                                              refine jr_grd (fun g261 => ?_)
                                                              refine jr_sld hxs dL_law_1018 (jl_n3_to _) (by rw [hL]; exact g261) ?_
                                                              refine jL_callVi (As := [jl_vi ((xs (jl_add l3 (1 : Int)).toNat).toInt)]) dL_law_1019 (jt_X11_hours G ((xs (jl_add l3 (1 : Int)).toNat).toInt) (jl_n3_to _) s0) jv_X11_hours ⟨rfl, rfl, rfl⟩ jw_1100 jk_0 (by decide) (by decide) rfl ⟨Nat.le_of_ble_eq_true rfl, Nat.le_of_ble_eq_true rfl⟩ rfl (Nat.le_of_ble_eq_true rfl) (fun r262 s263 hr262 => ?_)
                                                              refine jr_aload_n dL_law_1022 2 rfl ?_
                                                              refine jr_aload_n dL_law_1023 0 rfl ?_
                                                              refine jr_iload_n dL_law_1024 3 rfl ?_
                                                              refine jr_iconst dL_law_1025 ?_
                                                              refine jr_iadd dL_law_1026 ?_
                                                              refine jr_grd (fun g264 => ?_)
                                                              refine jr_sld hxs dL_law_1027 (jl_n3_to _) (by rw [hL]; exact g264) ?_
                                                              refine jL_callVi (As := [jl_vi ((xs (jl_add l3 (1 : Int)).toNat).toInt)]) dL_law_1028 (jt_X12_hours G ((xs (jl_add l3 (1 : Int)).toNat).toInt) (jl_n3_to _) s263) jv_X12_hours ⟨rfl, rfl, rfl⟩ jw_2032 jk_206 (by decide) (by decide) rfl ⟨Nat.le_of_ble_eq_true rfl, Nat.le_of_ble_eq_true rfl⟩ rfl (Nat.le_of_ble_eq_true rfl) (fun r265 s266 hr265 => ?_)
                                                              refine jr_icmp_eq (t := 1181) dL_law_1031 (by decide) hr262 hr265 (fun c267 => ?_) (fun c267 => ?_)
                                                              · exact jj_L_law_B1181 G L xs hL hxs hL3 (jf_L_law_L18 L xs n) (ih) l3 hl3 s266
                                                              · refine jr_iconst dL_law_1034 ?_
                                                                exact jr_none
                                                            · skip
                                                              refine jr_ite (fun c268 => ?_) (fun c268 => ?_)
                                                              · refine jr_tabIn (t := 1036) dL_law_33 hx3 (by omega) (by omega) (by rw [c268]; rfl) (by decide) ?_
                                                                refine jr_aload_n dL_law_1036 1 rfl ?_
                                                                refine jr_aload_n dL_law_1037 0 rfl ?_
                                                                refine jr_iload_n dL_law_1038 3 rfl ?_
                                                                refine jr_iconst dL_law_1039 ?_
                                                                refine jr_iadd dL_law_1040 ?_
                                                                refine jr_grd (fun g269 => ?_)
                                                                refine jr_sld hxs dL_law_1041 (jl_n3_to _) (by rw [hL]; exact g269) ?_
                                                                refine jL_callVi (As := [jl_vi ((xs (jl_add l3 (1 : Int)).toNat).toInt)]) dL_law_1042 (jt_X11_chance G ((xs (jl_add l3 (1 : Int)).toNat).toInt) (jl_n3_to _) s0) jv_X11_chance ⟨rfl, rfl, rfl⟩ jw_1116 jk_0 (by decide) (by decide) rfl ⟨Nat.le_of_ble_eq_true rfl, Nat.le_of_ble_eq_true rfl⟩ rfl (Nat.le_of_ble_eq_true rfl) (fun r270 s271 hr270 => ?_)
                                                                refine jr_aload_n dL_law_1045 2 rfl ?_
                                                                refine jr_aload_n dL_law_1046 0 rfl ?_
                                                                refine jr_iload_n dL_law_1047 3 rfl ?_
                                                                refine jr_iconst dL_law_1048 ?_
                                                                refine jr_iadd dL_law_1049 ?_
                                                                refine jr_grd (fun g272 => ?_)
                                                                refine jr_sld hxs dL_law_1050 (jl_n3_to _) (by rw [hL]; exact g272) ?_
                                                                refine jL_callVi (As := [jl_vi ((xs (jl_add l3 (1 : Int)).toNat).toInt)]) dL_law_1051 (jt_X12_chance G ((xs (jl_add l3 (1 : Int)).toNat).toInt) (jl_n3_to _) s271) jv_X12_chance ⟨rfl, rfl, rfl⟩ jw_2040 jk_206 (by decide) (by decide) rfl ⟨Nat.le_of_ble_eq_true rfl, Nat.le_of_ble_eq_true rfl⟩ rfl (Nat.le_of_ble_eq_true rfl) (fun r273 s274 hr273 => ?_)
                                                                refine jr_icmp_eq (t := 1181) dL_law_1054 (by decide) hr270 hr273 (fun c275 => ?_) (fun c275 => ?_)
                                                                · exact jj_L_law_B1181 G L xs hL hxs hL3 (jf_L_law_L18 L xs n) (ih) l3 hl3 s274
                                                                · refine jr_iconst dL_law_1057 ?_
                                                                  exact jr_none
                                                              · skip
                                                                refine jr_ite (fun c276 => ?_) (fun c276 => ?_)
                                                                · refine jr_tabIn (t := 1059) dL_law_33 hx3 (by omega) (by omega) (by rw [c276]; rfl) (by decide) ?_
                                                                  refine jr_aload_n dL_law_1059 1 rfl ?_
                                                                  refine jL_callVz (As := []) dL_law_1060 (jt_X11_undo G s0) jv_X11_undo ⟨rfl, rfl, rfl⟩ jw_1128 jk_0 (by decide) (by decide) rfl ⟨Nat.le_of_ble_eq_true rfl, Nat.le_of_ble_eq_true rfl⟩ rfl (Nat.le_of_ble_eq_true rfl) (fun r277 s278 hr277 => ?_)
                                                                  refine jr_aload_n dL_law_1063 2 rfl ?_
                                                                  refine jL_callVz (As := []) dL_law_1064 (jt_X12_undo G s278) jv_X12_undo ⟨rfl, rfl, rfl⟩ jw_2002 jk_206 (by decide) (by decide) rfl ⟨Nat.le_of_ble_eq_true rfl, Nat.le_of_ble_eq_true rfl⟩ rfl (Nat.le_of_ble_eq_true rfl) (fun r279 s280 hr279 => ?_)
                                                                  refine jr_icmp_eq (t := 1181) dL_law_1067 (by decide) (jl_nz hr277) (jl_nz hr279) (fun c281 => ?_) (fun c281 => ?_)
                                                                  · exact jj_L_law_B1181 G L xs hL hxs hL3 (jf_L_law_L18 L xs n) (ih) l3 hl3 s280
                                                                  · refine jr_iconst dL_law_1070 ?_
                                                                    exact jr_none
                                                                · skip
                                                                  refine jr_ite (fun c282 => ?_) (fun c282 => ?_)
                                                                  · refine jr_tabIn (t := 1072) dL_law_33 hx3 (by omega) (by omega) (by rw [c282]; rfl) (by decide) ?_
                                                                    refine jr_aload_n dL_law_1072 1 rfl ?_
                                                                    refine jr_aload_n dL_law_1073 0 rfl ?_
                                                                    refine jr_iload_n dL_law_1074 3 rfl ?_
                                                                    refine jr_iconst dL_law_1075 ?_
                                                                    refine jr_iadd dL_law_1076 ?_
                                                                    refine jr_grd (fun g283 => ?_)
                                                                    refine jr_sld hxs dL_law_1077 (jl_n3_to _) (by rw [hL]; exact g283) ?_
                                                                    refine jL_callVz (As := [jl_vi ((xs (jl_add l3 (1 : Int)).toNat).toInt)]) dL_law_1078 (jt_X11_seed G ((xs (jl_add l3 (1 : Int)).toNat).toInt) (jl_n3_to _) s0) jv_X11_seed ⟨rfl, rfl, rfl⟩ jw_1136 jk_0 (by decide) (by decide) rfl ⟨Nat.le_of_ble_eq_true rfl, Nat.le_of_ble_eq_true rfl⟩ rfl (Nat.le_of_ble_eq_true rfl) (fun r284 s285 hr284 => ?_)
                                                                    refine jr_aload_n dL_law_1081 2 rfl ?_
                                                                    refine jr_aload_n dL_law_1082 0 rfl ?_
                                                                    refine jr_iload_n dL_law_1083 3 rfl ?_
                                                                    refine jr_iconst dL_law_1084 ?_
                                                                    refine jr_iadd dL_law_1085 ?_
                                                                    refine jr_grd (fun g286 => ?_)
                                                                    refine jr_sld hxs dL_law_1086 (jl_n3_to _) (by rw [hL]; exact g286) ?_
                                                                    refine jL_callVz (As := [jl_vi ((xs (jl_add l3 (1 : Int)).toNat).toInt)]) dL_law_1087 (jt_X12_seed G ((xs (jl_add l3 (1 : Int)).toNat).toInt) (jl_n3_to _) s285) jv_X12_seed ⟨rfl, rfl, rfl⟩ jw_2036 jk_206 (by decide) (by decide) rfl ⟨Nat.le_of_ble_eq_true rfl, Nat.le_of_ble_eq_true rfl⟩ rfl (Nat.le_of_ble_eq_true rfl) (fun r287 s288 hr287 => ?_)
                                                                    refine jr_icmp_eq (t := 1181) dL_law_1090 (by decide) (jl_nz hr284) (jl_nz hr287) (fun c289 => ?_) (fun c289 => ?_)
                                                                    · exact jj_L_law_B1181 G L xs hL hxs hL3 (jf_L_law_L18 L xs n) (ih) l3 hl3 s288
                                                                    · refine jr_iconst dL_law_1093 ?_
                                                                      exact jr_none
                                                                  · skip
                                                                    refine jr_ite (fun c290 => ?_) (fun c290 => ?_)
                                                                    · refine jr_tabIn (t := 1095) dL_law_33 hx3 (by omega) (by omega) (by rw [c290]; rfl) (by decide) ?_
                                                                      refine jr_aload_n dL_law_1095 1 rfl ?_
                                                                      refine jL_callVl (As := []) dL_law_1096 (jt_X11_ask G s0) jv_X11_ask ⟨rfl, rfl, rfl⟩ jw_1140 jk_0 (by decide) (by decide) rfl ⟨Nat.le_of_ble_eq_true rfl, Nat.le_of_ble_eq_true rfl⟩ rfl (Nat.le_of_ble_eq_true rfl) (fun r291 s292 hr291 => ?_)
                                                                      refine jr_aload_n dL_law_1099 2 rfl ?_
                                                                      refine jL_callVl (As := []) dL_law_1100 (jt_X12_ask G s292) jv_X12_ask ⟨rfl, rfl, rfl⟩ jw_2052 jk_206 (by decide) (by decide) rfl ⟨Nat.le_of_ble_eq_true rfl, Nat.le_of_ble_eq_true rfl⟩ rfl (Nat.le_of_ble_eq_true rfl) (fun r293 s294 hr293 => ?_)
                                                                      refine jr_lcmp dL_law_1103 ?_
                                                                      refine jr_if_eq (t := 1181) dL_law_1104 (by decide) (jl_n3_to _) (fun c295 => ?_) (fun c295 => ?_)
                                                                      · exact jj_L_law_B1181 G L xs hL hxs hL3 (jf_L_law_L18 L xs n) (ih) l3 hl3 s294
                                                                      · refine jr_iconst dL_law_1107 ?_
                                                                        exact jr_none
                                                                    · skip
                                                                      refine jr_ite (fun c296 => ?_) (fun c296 => ?_)
                                                                      · refine jr_tabIn (t := 1109) dL_law_33 hx3 (by omega) (by omega) (by rw [c296]; rfl) (by decide) ?_
                                                                        refine jr_aload_n dL_law_1109 1 rfl ?_
                                                                        refine jL_callVi (As := []) dL_law_1110 (jt_X11_image G s0) jv_X11_image ⟨rfl, rfl, rfl⟩ jw_1162 jk_0 (by decide) (by decide) rfl ⟨Nat.le_of_ble_eq_true rfl, Nat.le_of_ble_eq_true rfl⟩ rfl (Nat.le_of_ble_eq_true rfl) (fun r297 s298 hr297 => ?_)
                                                                        refine jr_aload_n dL_law_1113 2 rfl ?_
                                                                        refine jL_callVi (As := []) dL_law_1114 (jt_X12_image G s298) jv_X12_image ⟨rfl, rfl, rfl⟩ jw_2081 jk_206 (by decide) (by decide) rfl ⟨Nat.le_of_ble_eq_true rfl, Nat.le_of_ble_eq_true rfl⟩ rfl (Nat.le_of_ble_eq_true rfl) (fun r299 s300 hr299 => ?_)
                                                                        refine jr_icmp_eq (t := 1181) dL_law_1117 (by decide) hr297 hr299 (fun c301 => ?_) (fun c301 => ?_)
                                                                        · exact jj_L_law_B1181 G L xs hL hxs hL3 (jf_L_law_L18 L xs n) (ih) l3 hl3 s300
                                                                        · refine jr_iconst dL_law_1120 ?_
                                                                          exact jr_none
                                                                      · skip
                                                                        refine jr_ite (fun c302 => ?_) (fun c302 => ?_)
                                                                        · refine jr_tabIn (t := 1122) dL_law_33 hx3 (by omega) (by omega) (by rw [c302]; rfl) (by decide) ?_
                                                                          refine jr_aload_n dL_law_1122 1 rfl ?_
                                                                          refine jr_aload_n dL_law_1123 0 rfl ?_
                                                                          refine jr_iload_n dL_law_1124 3 rfl ?_
                                                                          refine jr_iconst dL_law_1125 ?_
                                                                          refine jr_iadd dL_law_1126 ?_
                                                                          refine jr_grd (fun g303 => ?_)
                                                                          refine jr_sld hxs dL_law_1127 (jl_n3_to _) (by rw [hL]; exact g303) ?_
                                                                          refine jL_callVi (As := [jl_vi ((xs (jl_add l3 (1 : Int)).toNat).toInt)]) dL_law_1128 (jt_X11_octet G ((xs (jl_add l3 (1 : Int)).toNat).toInt) (jl_n3_to _) s0) jv_X11_octet ⟨rfl, rfl, rfl⟩ jw_1170 jk_0 (by decide) (by decide) rfl ⟨Nat.le_of_ble_eq_true rfl, Nat.le_of_ble_eq_true rfl⟩ rfl (Nat.le_of_ble_eq_true rfl) (fun r304 s305 hr304 => ?_)
                                                                          refine jr_aload_n dL_law_1131 2 rfl ?_
                                                                          refine jr_aload_n dL_law_1132 0 rfl ?_
                                                                          refine jr_iload_n dL_law_1133 3 rfl ?_
                                                                          refine jr_iconst dL_law_1134 ?_
                                                                          refine jr_iadd dL_law_1135 ?_
                                                                          refine jr_grd (fun g306 => ?_)
                                                                          refine jr_sld hxs dL_law_1136 (jl_n3_to _) (by rw [hL]; exact g306) ?_
                                                                          refine jL_callVi (As := [jl_vi ((xs (jl_add l3 (1 : Int)).toNat).toInt)]) dL_law_1137 (jt_X12_octet G ((xs (jl_add l3 (1 : Int)).toNat).toInt) (jl_n3_to _) s305) jv_X12_octet ⟨rfl, rfl, rfl⟩ jw_2073 jk_206 (by decide) (by decide) rfl ⟨Nat.le_of_ble_eq_true rfl, Nat.le_of_ble_eq_true rfl⟩ rfl (Nat.le_of_ble_eq_true rfl) (fun r307 s308 hr307 => ?_)
                                                                          refine jr_icmp_eq (t := 1181) dL_law_1140 (by decide) hr304 hr307 (fun c309 => ?_) (fun c309 => ?_)
                                                                          · exact jj_L_law_B1181 G L xs hL hxs hL3 (jf_L_law_L18 L xs n) (ih) l3 hl3 s308
                                                                          · refine jr_iconst dL_law_1143 ?_
                                                                            exact jr_none
                                                                        · skip
                                                                          refine jr_ite (fun c310 => ?_) (fun c310 => ?_)
                                                                          · refine jr_tabIn (t := 1145) dL_law_33 hx3 (by omega) (by omega) (by rw [c310]; rfl) (by decide) ?_
                                                                            refine jr_aload_n dL_law_1145 1 rfl ?_
                                                                            refine jL_callVz (As := []) dL_law_1146 (jt_X11_on G s0) jv_X11_on ⟨rfl, rfl, rfl⟩ jw_1174 jk_0 (by decide) (by decide) rfl ⟨Nat.le_of_ble_eq_true rfl, Nat.le_of_ble_eq_true rfl⟩ rfl (Nat.le_of_ble_eq_true rfl) (fun r311 s312 hr311 => ?_)
                                                                            refine jr_aload_n dL_law_1149 2 rfl ?_
                                                                            refine jL_callVz (As := []) dL_law_1150 (jt_X12_on G s312) jv_X12_on ⟨rfl, rfl, rfl⟩ jw_2096 jk_206 (by decide) (by decide) rfl ⟨Nat.le_of_ble_eq_true rfl, Nat.le_of_ble_eq_true rfl⟩ rfl (Nat.le_of_ble_eq_true rfl) (fun r313 s314 hr313 => ?_)
                                                                            refine jr_icmp_eq (t := 1181) dL_law_1153 (by decide) (jl_nz hr311) (jl_nz hr313) (fun c315 => ?_) (fun c315 => ?_)
                                                                            · exact jj_L_law_B1181 G L xs hL hxs hL3 (jf_L_law_L18 L xs n) (ih) l3 hl3 s314
                                                                            · refine jr_iconst dL_law_1156 ?_
                                                                              exact jr_none
                                                                          · skip
                                                                            refine jr_ite (fun c316 => ?_) (fun c316 => ?_)
                                                                            · refine jr_tabIn (t := 1158) dL_law_33 hx3 (by omega) (by omega) (by rw [c316]; rfl) (by decide) ?_
                                                                              refine jr_aload_n dL_law_1158 1 rfl ?_
                                                                              refine jr_aload_n dL_law_1159 0 rfl ?_
                                                                              refine jr_iload_n dL_law_1160 3 rfl ?_
                                                                              refine jr_iconst dL_law_1161 ?_
                                                                              refine jr_iadd dL_law_1162 ?_
                                                                              refine jr_grd (fun g317 => ?_)
                                                                              refine jr_sld hxs dL_law_1163 (jl_n3_to _) (by rw [hL]; exact g317) ?_
                                                                              refine jL_callVi (As := [jl_vi ((xs (jl_add l3 (1 : Int)).toNat).toInt)]) dL_law_1164 (jt_X11_status G ((xs (jl_add l3 (1 : Int)).toNat).toInt) (jl_n3_to _) s0) jv_X11_status ⟨rfl, rfl, rfl⟩ jw_1194 jk_0 (by decide) (by decide) rfl ⟨Nat.le_of_ble_eq_true rfl, Nat.le_of_ble_eq_true rfl⟩ rfl (Nat.le_of_ble_eq_true rfl) (fun r318 s319 hr318 => ?_)
                                                                              refine jr_aload_n dL_law_1167 2 rfl ?_
                                                                              refine jr_aload_n dL_law_1168 0 rfl ?_
                                                                              refine jr_iload_n dL_law_1169 3 rfl ?_
                                                                              refine jr_iconst dL_law_1170 ?_
                                                                              refine jr_iadd dL_law_1171 ?_
                                                                              refine jr_grd (fun g320 => ?_)
                                                                              refine jr_sld hxs dL_law_1172 (jl_n3_to _) (by rw [hL]; exact g320) ?_
                                                                              refine jL_callVi (As := [jl_vi ((xs (jl_add l3 (1 : Int)).toNat).toInt)]) dL_law_1173 (jt_X12_status G ((xs (jl_add l3 (1 : Int)).toNat).toInt) (jl_n3_to _) s319) jv_X12_status ⟨rfl, rfl, rfl⟩ jw_2077 jk_206 (by decide) (by decide) rfl ⟨Nat.le_of_ble_eq_true rfl, Nat.le_of_ble_eq_true rfl⟩ rfl (Nat.le_of_ble_eq_true rfl) (fun r321 s322 hr321 => ?_)
                                                                              refine jr_icmp_eq (t := 1181) dL_law_1176 (by decide) hr318 hr321 (fun c323 => ?_) (fun c323 => ?_)
                                                                              · exact jj_L_law_B1181 G L xs hL hxs hL3 (jf_L_law_L18 L xs n) (ih) l3 hl3 s322
                                                                              · refine jr_iconst dL_law_1179 ?_
                                                                                exact jr_none
                                                                            · skip
                                                                              refine jr_tabOut (t := 1181) dL_law_33 hx3 (by omega) (by decide) ?_
                                                                              exact jj_L_law_B1181 G L xs hL hxs hL3 (jf_L_law_L18 L xs n) (ih) l3 hl3 s0
