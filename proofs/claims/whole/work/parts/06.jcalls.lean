/-! ENDS, CONTRACTS, CALLS -/
def jl_rv (G : jl_GC) (ret : Option FieldType) (r : Int) : Option Value := match ret with
  | none => none
  | some .long => some (jl_vl r)
  | some (.object _) => some (jl_vr G r.toNat)
  | some _ => some (jl_vi r)
def jl_nr (ret : Option FieldType) (r : Int) : Prop := match ret with
  | none => True
  | some .long => jl_n6 r
  | some (.object _) => 0 ≤ r
  | some .boolean => r = 0 ∨ r = 1
  | some _ => jl_n3 r
def jl_Q (lk : jl_LK) (G : jl_GC) (M : jl_MC) (r : Int) (τ : jl_Mm) (nf : Nat) : Array Value → State → Outcome → State → Prop := fun _ st oc t => oc = .returned (jl_rv G M.2.2.2.1 r) ∧ jl_nr M.2.2.2.1 r ∧ jl_R lk G τ nf t.heap ∧ va_F (jl_A G) st t
def jl_E (lk : jl_LK) (G : jl_GC) (M : jl_MC) (nf mc ms : Nat) : jl_EC := fun r τ args s below => MQ below (jl_Q lk G M r τ nf) args s mc ms (jl_A G)
def jl_pc (lk : jl_LK) (G : jl_GC) (av : List Value) (nx : Nat) (σ : jl_Mm) : Array Value → State → Prop := va_Pc av (fun U => jl_R lk G σ nx U.heap ∧ jl_K G U ∧ jl_H G U.heap)
def jl_Ct (lk : jl_LK) (G : jl_GC) (M : jl_MC) (av : List Value) (nx nf : Nat) (σ : jl_Mm) (o : jl_O) : Prop := ∀ (r : Int) (τ : jl_Mm), o = some (r, τ) →
  Met G.1 M.1 (Cond.code M.1 M.2.1 M.2.2.1 M.2.2.2.1 :: jl_tbl) M.2.2.2.2 (jl_pc lk G av nx σ) (jl_Q lk G M r τ nf) M.2.2.2.2.cells M.2.2.2.2.slots (jl_A G)
theorem jl_ofWF {l : Launch} {y : MethodName} {ws ws' : List Cond} {rm : Room} {Pc : Array Value → State → Prop} {Qc : Array Value → State → Outcome → State → Prop} {mc ms : Nat} {free : Addr → Prop} {cc : ByteArray} {maxL : Nat} {ret : Option FieldType}
    (hy : plainFor y = true) (hw : ws = Cond.code y cc maxL ret :: ws')
    (body : ∀ p e s m args below meth c s₁, BodyLoose p l y (headSpec ws rm) cc maxL ret e s m args below meth c s₁ → c.maxLocals = maxL → Pc args s →
      W p l e (headSpec ws rm).room s m args below meth c s.heap [] 0 0 (MQ below Qc args s mc ms free) (entryFrame m args maxL)) : Met l y ws rm Pc Qc mc ms free := by
  refine MetFree.of_bodySF (code := cc) (maxLocals := maxL) (ret := ret) hy ?_ ?_
  · intro args s m h hn
    obtain ⟨meth, c, h1, h2, h3, h4, h5, h6, -, -⟩ := Cond.code_spec hn (atoms_spec (ws := ws) h _ (by rw [hw]; exact List.mem_cons_self))
    exact ⟨meth, c, h1, h2, h3, h4, h5, h6⟩
  · intro p e s m args below meth c s₁ B hml hP _
    have hh0 : s₁.heap = s.heap := by rw [B.state]; rfl
    obtain ⟨t, a1, o, b1, b2, b3⟩ := body p e s m args below meth c s₁ B hml hP s₁ hh0 (Stand.of_body B)
    exact ⟨t, o, a1, b1, b2, ⟨b3.1, b3.2⟩⟩
theorem jl_met {lk : jl_LK} {G : jl_GC} {M : jl_MC} {av : List Value} {nx nf : Nat} {σ : jl_Mm} {o : jl_O} (hp : plainFor M.1 = true) (hlen : (lg_sl av).length ≤ M.2.2.1) (k : jl_J lk G M (jl_E lk G M nf M.2.2.2.2.cells M.2.2.2.2.slots) nx 0 0 0 (lv_args 0 av) [] σ o) : jl_Ct lk G M av nx nf σ o := by
  intro r τ ho
  refine jl_ofWF (cc := M.2.1) (maxL := M.2.2.1) (ret := M.2.2.2.1) hp rfl ?_
  intro p e s m args below meth c s₁ B hml hv
  obtain ⟨rfl, hX, hK, hH⟩ := hv
  have hts := atoms_spec (ws := Cond.code M.1 M.2.1 M.2.2.1 M.2.2.2.1 :: jl_tbl) B.pre
  have hl := lv_entry av (n := M.2.2.1) hlen
  rw [lg_entry_eq]
  generalize (lg_sl av ++ List.replicate (M.2.2.1 - (lg_sl av).length) Slot.unset).toArray = la at hl ⊢
  exact k r τ ho p e s m _ below meth c s.heap [] la ⟨B.exec, B.bytes, ⟨B.returns, (name_of_methodNamed B.named B.method).1⟩, hml, findClass_of_methodNamed B.named, fun w h => hts w (List.mem_cons_of_mem _ h), B.notSynchronized, hK, hH⟩ hX va_S.rf hl
theorem jr_ret_i {lk : jl_LK} {G : jl_GC} {M : jl_MC} {nx ce sl pc : Nat} {ls : List (Nat × Value)} {σ : jl_Mm} {a : Int} (hr : M.2.2.2.1 = some .int) (hn : jl_n3 a) (d : decode M.2.1 pc = .ok (.ireturn, 1)) : jl_J lk G M (jl_E lk G M nx ce sl) nx ce sl pc ls [jl_vi a] σ (some (a, σ)) := by
  intro r τ ho p e s m args below meth c H locs la C X S L
  cases ho
  exact W.iret C.1 C.2.1 (C.2.2.1.1.trans hr) (fun t ht hW => ⟨by rw [hr]; rfl, by rw [hr]; exact hn, by rw [ht]; exact X, S.F ht⟩) S.2.2 d C.2.2.2.2.2.2.1
theorem jr_ret_v {lk : jl_LK} {G : jl_GC} {M : jl_MC} {nx ce sl pc : Nat} {ls : List (Nat × Value)} {σ : jl_Mm} (hr : M.2.2.2.1 = none) (d : decode M.2.1 pc = .ok (.return_, 1)) : jl_J lk G M (jl_E lk G M nx ce sl) nx ce sl pc ls [] σ (some (0, σ)) := by
  intro r τ ho p e s m args below meth c H locs la C X S L
  cases ho
  exact W.vret C.1 C.2.1 (C.2.2.1.1.trans hr) (fun t ht hW => ⟨by rw [hr]; rfl, by rw [hr]; exact trivial, by rw [ht]; exact X, S.F ht⟩) S.2.2 d C.2.2.2.2.2.2.1
theorem jr_ret_l {lk : jl_LK} {G : jl_GC} {M : jl_MC} {nx ce sl pc : Nat} {ls : List (Nat × Value)} {σ : jl_Mm} {a : Int} (hr : M.2.2.2.1 = some .long) (hn : jl_n6 a) (d : decode M.2.1 pc = .ok (.lreturn, 1)) : jl_J lk G M (jl_E lk G M nx ce sl) nx ce sl pc ls [jl_vl a] σ (some (a, σ)) := by
  intro r τ ho p e s m args below meth c H locs la C X S L
  cases ho
  exact W.lret C.1 C.2.1 (C.2.2.1.1.trans hr) (fun t ht hW => ⟨by rw [hr]; rfl, by rw [hr]; exact hn, by rw [ht]; exact X, S.F ht⟩) S.2.2 d C.2.2.2.2.2.2.1
theorem jr_ret_a {lk : jl_LK} {G : jl_GC} {M : jl_MC} {nx ce sl pc x : Nat} {ls : List (Nat × Value)} {σ : jl_Mm} {Cn : String} (hr : M.2.2.2.1 = some (.object Cn)) (d : decode M.2.1 pc = .ok (.areturn, 1)) : jl_J lk G M (jl_E lk G M nx ce sl) nx ce sl pc ls [jl_vr G x] σ (some ((x : Int), σ)) := by
  intro r τ ho p e s m args below meth c H locs la C X S L
  cases ho
  exact W.aret C.1 C.2.1 (C.2.2.1.1.trans hr) (Or.inl ⟨_, rfl⟩) (Or.inr ⟨_, rfl⟩) (fun t ht hW => ⟨by rw [hr]; rfl, by rw [hr]; exact Int.natCast_nonneg x, by rw [ht]; exact X, S.F ht⟩) S.2.2 d C.2.2.2.2.2.2.1
/-- the end of a method that answers true or false -/
def jl_zb (a : Int) (σ : jl_Mm) : jl_O := if a = 0 ∨ a = 1 then some (a, σ) else none
theorem jr_ret_z {lk : jl_LK} {G : jl_GC} {M : jl_MC} {nx ce sl pc : Nat} {ls : List (Nat × Value)} {σ : jl_Mm} {a : Int} (hr : M.2.2.2.1 = some .boolean) (d : decode M.2.1 pc = .ok (.ireturn, 1)) : jl_J lk G M (jl_E lk G M nx ce sl) nx ce sl pc ls [jl_vi a] σ (jl_zb a σ) := by
  intro r τ ho p e s m args below meth c H locs la C X S L
  by_cases h : a = 0 ∨ a = 1
  · rw [jl_zb, if_pos h] at ho
    cases ho
    exact W.zret C.1 C.2.1 (C.2.2.1.1.trans hr) (by rcases h with rfl | rfl <;> decide) (fun t ht hW => ⟨by rw [hr]; rfl, by rw [hr]; exact h, by rw [ht]; exact X, S.F ht⟩) S.2.2 d C.2.2.2.2.2.2.1
  · rw [jl_zb, if_neg h] at ho
    cases ho
/-- a guard: nothing is said where it doesn't hold -/
theorem jr_grd {lk : jl_LK} {G : jl_GC} {M : jl_MC} {E : jl_EC} {nx ce sl pc : Nat} {ls : List (Nat × Value)} {st : List Value} {σ : jl_Mm} {o : jl_O} {P : Prop} [Decidable P] (k : P → jl_J lk G M E nx ce sl pc ls st σ o) : jl_J lk G M E nx ce sl pc ls st σ (if P then o else none) := by
  intro r τ ho p e s m args below meth c H locs la C X S L
  by_cases h : P
  · rw [if_pos h] at ho
    exact k h r τ ho p e s m args below meth c H locs la C X S L
  · rw [if_neg h] at ho
    cases ho
theorem jr_none {lk : jl_LK} {G : jl_GC} {M : jl_MC} {E : jl_EC} {nx ce sl pc : Nat} {ls : List (Nat × Value)} {st : List Value} {σ : jl_Mm} : jl_J lk G M E nx ce sl pc ls st σ none := by
  intro r τ ho p e s m args below meth c H locs la C X S L
  cases ho
theorem jl_bd_some {o : jl_O} {kf : Int → jl_Mm → jl_O} {r : Int} {τ : jl_Mm} (h : jl_bd o kf = some (r, τ)) : ∃ r1 τ1, o = some (r1, τ1) ∧ kf r1 τ1 = some (r, τ) := by
  cases o with
  | none => cases h
  | some q => exact ⟨q.1, q.2, rfl, h⟩
/-- what the tables say of a method that is called on an object, of n arguments -/
def jl_MV (Y : jl_MC) (n : Nat) : Prop := Cond.instanceMethod Y.1 ∈ jl_tbl ∧ Cond.selects Y.1.cls Y.1 Y.1 ∈ jl_tbl ∧ Cond.initialized Y.1.cls ∈ jl_tbl ∧ Cond.code Y.1 Y.2.1 Y.2.2.1 Y.2.2.2.1 ∈ jl_tbl ∧ (Y.1.cls ≠ "java/lang/invoke/MethodHandle" ∧ Y.1.cls ≠ "java/lang/invoke/VarHandle" ∧ (parseMethodDescriptor Y.1.desc).map (fun d => d.parameters.length) = some n)
def jl_MS (Y : jl_MC) (n : Nat) : Prop := Cond.static Y.1 ∈ jl_tbl ∧ Cond.initialized Y.1.cls ∈ jl_tbl ∧ Cond.code Y.1 Y.2.1 Y.2.2.1 Y.2.2.2.1 ∈ jl_tbl ∧ (Y.1.cls ≠ "java/lang/invoke/MethodHandle" ∧ Y.1.cls ≠ "java/lang/invoke/VarHandle" ∧ (parseMethodDescriptor Y.1.desc).map (fun d => d.parameters.length) = some n)
def jl_fit (M Y : jl_MC) : Prop := Y.2.2.2.2.frames + 1 ≤ M.2.2.2.2.frames ∧ 8 + (Y.2.2.1 + 11) + Y.2.2.2.2.locals ≤ M.2.2.2.2.locals
theorem jl_ws_in {w0 : Cond} (h : w0 ∈ jl_tbl) : ∀ w ∈ w0 :: jl_tbl, w ∈ jl_tbl := fun w hw => (List.mem_cons.mp hw).elim (fun q => q ▸ h) id
theorem jl_H.S {G : jl_GC} {H0 H : Heap} {locs : List Loc} (h : jl_H G H0) (S : va_S (jl_A G) H0 H locs) : jl_H G H := ⟨Nat.le_trans h.1 S.1, fun q hq => (S.2.1 q (Nat.lt_of_lt_of_le hq h.1) (fun z => Nat.not_le.mpr hq z)).trans (h.2 q hq)⟩
theorem jl_blind {lk : jl_LK} {G : jl_GC} {av : List Value} {nx : Nat} {σ : jl_Mm} : FrameBlind (jl_pc lk G av nx σ) := by
  intro a U g mk q
  obtain ⟨q0, q1, q2, q3⟩ := q
  exact ⟨q0, q1, ⟨va_K.moved (u := U) (U := U.calling g mk a) (Vm.Alike.refl U.vm) q2.1, vk_R.same (u := U) (U := U.calling g mk a) rfl q2.2.1, vk_S.moved (u := U) (U := U.calling g mk a) (Vm.Alike.refl U.vm) q2.2.2.1, jl_nw_same (u := U) (U := U.calling g mk a) rfl q2.2.2.2.1, q2.2.2.2.2.1.moved (u := U) (U := U.calling g mk a) (Vm.Alike.refl U.vm), q2.2.2.2.2.2.1.moved (u := U) (U := U.calling g mk a) (Vm.Alike.refl U.vm), q2.2.2.2.2.2.2.1.moved (u := U) (U := U.calling g mk a) (Vm.Alike.refl U.vm), q2.2.2.2.2.2.2.2⟩, q3⟩
/-- a call that runs, and what comes behind it -/
theorem jl_run {lk : jl_LK} {G : jl_GC} {M Y : jl_MC} {E : jl_EC} {nx nf ce sl pc mc ms : Nat} {ls : List (Nat × Value)} {st stk : List Value} {σ : jl_Mm} {o : jl_O} {kf : Int → jl_Mm → jl_O} {r r1 : Int} {τ τ1 : jl_Mm} {p : Program} {e : Env} {s : State} {m : MethodId} {args : Array Value} {below : List Frame} {meth : Method} {c : Code} {H : Heap} {locs : List Loc} {la : Array Slot} {a : Array Value}
    (C : jl_C G M p s m args meth c) (X : jl_R lk G σ nx H) (S : va_S (jl_A G) s.heap H locs) (_ : Int → Int)
    (hr : va_Run p G.1 e M.2.2.2.2 s m args below meth c H locs ce sl mc ms (F0 m pc la stk) st (jl_Q lk G Y r1 τ1 nf a) (jl_A G)) (ho1 : o = some (r1, τ1))
    (k : ∀ (r : Int) (τ : jl_Mm), jl_nr Y.2.2.2.1 r → jl_J lk G M E nf (ce + mc) (sl + ms) (pc + 3) ls ((jl_rv G Y.2.2.2.1 r).toList ++ st) τ (kf r τ)) (ho2 : kf r1 τ1 = some (r, τ)) (L : lv_has la M.2.2.1 ls) :
    W p G.1 e M.2.2.2.2 s m args below meth c H locs ce sl (E r τ args s below) (F0 m pc la stk) := by
  intro T hT XX
  obtain ⟨v, st₀, t, T', L1, h0, X', hL, e1, e2, ⟨hv, hn, hR, hz, hk⟩, stp⟩ := hr T hT XX
  cases hv
  rw [h0] at hz hk
  have S1 : va_S (jl_A G) s.heap T'.heap (locs ++ L1) := ⟨Nat.le_trans S.1 (by rw [e1]; exact hz), fun q h1 h2 => by rw [e1, hk q (Nat.lt_of_lt_of_le h1 S.1) h2]; exact S.2.1 q h1 h2, fun q hq => by
      rcases List.mem_append.mp hq with h | h
      · exact S.2.2 q h
      · exact hL q h⟩
  obtain ⟨t2, a1, b1⟩ := k r1 τ1 hn r τ ho2 p e s m args below meth c T'.heap (locs ++ L1) la C (by rw [e1]; exact hR) S1 L T' rfl X'
  exact ⟨t2, stp t2 a1, b1⟩
theorem jr_callV {lk : jl_LK} {G : jl_GC} {M Y : jl_MC} {E : jl_EC} {nx nf ce sl pc x ci n idx : Nat} {ls : List (Nat × Value)} {st stk As : List Value} {σ : jl_Mm} {o : jl_O} {kf : Int → jl_Mm → jl_O} (hct : jl_Ct lk G Y (jl_vr G x :: As) nx nf σ o) (hY : jl_MV Y As.length) (hl : Cond.methodLink M.1.cls idx Y.1 ∈ jl_tbl) (hk : jl_kd x = (ci, n)) (hci : ci < 20) (hx : x < nx) (hcl : (vwCl[ci]?).map (fun q => q.1) = some Y.1.cls) (hR : jl_fit M Y) (hs : stk = As.reverse ++ jl_vr G x :: st) (hw : (st.map fun v => v.category).sum ≤ 8) (hf : ce + Y.2.2.2.2.cells ≤ M.2.2.2.2.cells ∧ sl + Y.2.2.2.2.slots ≤ M.2.2.2.2.slots) (d : decode M.2.1 pc = .ok (.invokevirtual idx, 3)) (k : ∀ (r : Int) (τ : jl_Mm), jl_nr Y.2.2.2.1 r → jl_J lk G M E nf (ce + Y.2.2.2.2.cells) (sl + Y.2.2.2.2.slots) (pc + 3) ls ((jl_rv G Y.2.2.2.1 r).toList ++ st) τ (kf r τ)) : jl_J lk G M E nx ce sl pc ls stk σ (jl_bd o kf) := by
  subst hs
  intro r τ ho p e s m args below meth c H locs la C X S L
  obtain ⟨r1, τ1, ho1, ho2⟩ := jl_bd_some ho
  obtain ⟨hi1, hi2, hi3, hi4, hi5⟩ := hY
  have hts := C.2.2.2.2.2.1
  obtain ⟨q, hq, hq2⟩ : ∃ q, vwCl[ci]? = some q ∧ q.1 = Y.1.cls := by
    cases h9 : vwCl[ci]? with
    | none => rw [h9] at hcl; cases hcl
    | some q => rw [h9] at hcl; exact ⟨q, rfl, Option.some.inj hcl⟩
  have hrecv := va_recv C.2.2.2.2.2.2.2.1.1 X.2.1 hq (jl_he hx hk hci)
  rw [hq2] at hrecv
  refine jl_run (a := (Value.ref (G.2.2.2.2.1 x) :: As).toArray) C X S (fun r => r) ?_ ho1 (k := fun r τ hn => k r τ hn) ho2 L
  exact va_runV ⟨C.1, C.2.1, C.2.2.2.1, C.2.2.2.2.1, hts⟩ (hct r1 τ1 ho1) ⟨callB_of As.length hts (jl_goodIn (jl_ws_in hi4)) rfl rfl rfl (hts _ hi3) (hts _ hl) hi5 hR, hts _ hi1, hts _ hi2⟩ ⟨jl_blind, hrecv, fun U hU hW => ⟨rfl, by rw [hU]; exact X, C.2.2.2.2.2.2.2.1.warm hW, by rw [hU]; exact jl_H.S C.2.2.2.2.2.2.2.2 S⟩⟩ rfl rfl L.1 rfl (lv_room hw) d hf
theorem jr_callVN {lk : jl_LK} {G : jl_GC} {M Y : jl_MC} {E : jl_EC} {nx nf ce sl pc x ci n idx : Nat} {ls : List (Nat × Value)} {st stk As : List Value} {σ : jl_Mm} {o : jl_O} {kf : Int → jl_Mm → jl_O} {host : String} (hct : jl_Ct lk G Y (jl_vr G x :: As) nx nf σ o) (hY : jl_MV Y As.length) (hl : Cond.methodLinkNest M.1.cls idx Y.1 host ∈ jl_nw) (hk : jl_kd x = (ci, n)) (hci : ci < 20) (hx : x < nx) (hcl : (vwCl[ci]?).map (fun q => q.1) = some Y.1.cls) (hR : jl_fit M Y) (hs : stk = As.reverse ++ jl_vr G x :: st) (hw : (st.map fun v => v.category).sum ≤ 8) (hf : ce + Y.2.2.2.2.cells ≤ M.2.2.2.2.cells ∧ sl + Y.2.2.2.2.slots ≤ M.2.2.2.2.slots) (d : decode M.2.1 pc = .ok (.invokevirtual idx, 3)) (k : ∀ (r : Int) (τ : jl_Mm), jl_nr Y.2.2.2.1 r → jl_J lk G M E nf (ce + Y.2.2.2.2.cells) (sl + Y.2.2.2.2.slots) (pc + 3) ls ((jl_rv G Y.2.2.2.1 r).toList ++ st) τ (kf r τ)) : jl_J lk G M E nx ce sl pc ls stk σ (jl_bd o kf) := by
  subst hs
  intro r τ ho p e s m args below meth c H locs la C X S L
  obtain ⟨r1, τ1, ho1, ho2⟩ := jl_bd_some ho
  obtain ⟨hi1, hi2, hi3, hi4, hi5⟩ := hY
  have hts := C.2.2.2.2.2.1
  obtain ⟨q, hq, hq2⟩ : ∃ q, vwCl[ci]? = some q ∧ q.1 = Y.1.cls := by
    cases h9 : vwCl[ci]? with
    | none => rw [h9] at hcl; cases hcl
    | some q => rw [h9] at hcl; exact ⟨q, rfl, Option.some.inj hcl⟩
  have hrecv := va_recv C.2.2.2.2.2.2.2.1.1 X.2.1 hq (jl_he hx hk hci)
  rw [hq2] at hrecv
  refine jl_run (a := (Value.ref (G.2.2.2.2.1 x) :: As).toArray) C X S (fun r => r) ?_ ho1 (k := fun r τ hn => k r τ hn) ho2 L
  exact va_runVN ⟨C.1, C.2.1, C.2.2.2.1, C.2.2.2.2.1, hts⟩ (hct r1 τ1 ho1) ⟨va_cnB As.length hts (jl_goodIn (jl_ws_in hi4)) rfl rfl rfl (C.2.2.2.2.2.2.2.1.2.2.2.1 _ hl) (hts _ hi3) hi5 hR, hts _ hi1, hts _ hi2⟩ ⟨jl_blind, hrecv, fun U hU hW => ⟨rfl, by rw [hU]; exact X, C.2.2.2.2.2.2.2.1.warm hW, by rw [hU]; exact jl_H.S C.2.2.2.2.2.2.2.2 S⟩⟩ rfl rfl L.1 rfl (lv_room hw) d hf

theorem jr_callS {lk : jl_LK} {G : jl_GC} {M Y : jl_MC} {E : jl_EC} {nx nf ce sl pc idx : Nat} {ls : List (Nat × Value)} {st stk As : List Value} {σ : jl_Mm} {o : jl_O} {kf : Int → jl_Mm → jl_O} (hct : jl_Ct lk G Y As nx nf σ o) (hY : jl_MS Y As.length) (hl : Cond.methodLink M.1.cls idx Y.1 ∈ jl_tbl) (hR : jl_fit M Y) (hs : stk = As.reverse ++ st) (hw : (st.map fun v => v.category).sum ≤ 8) (hf : ce + Y.2.2.2.2.cells ≤ M.2.2.2.2.cells ∧ sl + Y.2.2.2.2.slots ≤ M.2.2.2.2.slots) (d : decode M.2.1 pc = .ok (.invokestatic idx, 3)) (k : ∀ (r : Int) (τ : jl_Mm), jl_nr Y.2.2.2.1 r → jl_J lk G M E nf (ce + Y.2.2.2.2.cells) (sl + Y.2.2.2.2.slots) (pc + 3) ls ((jl_rv G Y.2.2.2.1 r).toList ++ st) τ (kf r τ)) : jl_J lk G M E nx ce sl pc ls stk σ (jl_bd o kf) := by
  subst hs
  intro r τ ho p e s m args below meth c H locs la C X S L
  obtain ⟨r1, τ1, ho1, ho2⟩ := jl_bd_some ho
  obtain ⟨hi1, hi3, hi4, hi5⟩ := hY
  have hts := C.2.2.2.2.2.1
  refine jl_run (a := As.toArray) C X S (fun r => r) ?_ ho1 (k := fun r τ hn => k r τ hn) ho2 L
  exact va_runS ⟨C.1, C.2.1, C.2.2.2.1, C.2.2.2.2.1, hts⟩ (hct r1 τ1 ho1) ⟨callB_of As.length hts (jl_goodIn (jl_ws_in hi4)) rfl rfl rfl (hts _ hi3) (hts _ hl) hi5 hR, hts _ hi1⟩ ⟨jl_blind, fun U hU hW => ⟨rfl, by rw [hU]; exact X, C.2.2.2.2.2.2.2.1.warm hW, by rw [hU]; exact jl_H.S C.2.2.2.2.2.2.2.2 S⟩⟩ rfl rfl L.1 rfl (lv_room hw) d hf

def jl_let (e : Int) (f : Int → jl_O) : jl_O := f e
def jl_lm (σ : jl_Mm) (f : jl_Mm → jl_O) : jl_O := f σ
def jl_fu : Nat := 4000
theorem jr_let {lk : jl_LK} {G : jl_GC} {M : jl_MC} {E : jl_EC} {nx ce sl pc : Nat} {ls : List (Nat × Value)} {st : List Value} {σ : jl_Mm} {e : Int} {f : Int → jl_O} (hn : jl_n3 e) (k : ∀ x : Int, jl_n3 x → jl_J lk G M E nx ce sl pc ls (jl_vi x :: st) σ (f x)) : jl_J lk G M E nx ce sl pc ls (jl_vi e :: st) σ (jl_let e f) := k e hn
theorem jr_letl {lk : jl_LK} {G : jl_GC} {M : jl_MC} {E : jl_EC} {nx ce sl pc : Nat} {ls : List (Nat × Value)} {st : List Value} {σ : jl_Mm} {e : Int} {f : Int → jl_O} (hn : jl_n6 e) (k : ∀ x : Int, jl_n6 x → jl_J lk G M E nx ce sl pc ls (jl_vl x :: st) σ (f x)) : jl_J lk G M E nx ce sl pc ls (jl_vl e :: st) σ (jl_let e f) := k e hn
theorem jr_lm {lk : jl_LK} {G : jl_GC} {M : jl_MC} {E : jl_EC} {nx ce sl pc : Nat} {ls : List (Nat × Value)} {st : List Value} {σ : jl_Mm} {f : jl_Mm → jl_O} (k : ∀ τ : jl_Mm, jl_J lk G M E nx ce sl pc ls st τ (f τ)) : jl_J lk G M E nx ce sl pc ls st σ (jl_lm σ f) := k σ
theorem jr_ite {lk : jl_LK} {G : jl_GC} {M : jl_MC} {E : jl_EC} {nx ce sl pc : Nat} {ls : List (Nat × Value)} {st : List Value} {σ : jl_Mm} {o1 o2 : jl_O} {P : Prop} [Decidable P] (kt : P → jl_J lk G M E nx ce sl pc ls st σ o1) (kf : ¬ P → jl_J lk G M E nx ce sl pc ls st σ o2) : jl_J lk G M E nx ce sl pc ls st σ (if P then o1 else o2) := by
  by_cases h : P
  · rw [if_pos h]; exact kt h
  · rw [if_neg h]; exact kf h
abbrev j2 (G : jl_GC) (M : jl_MC) (pc : Nat) (ls : List (Nat × Value)) (st : List Value) (σ : jl_Mm) (o : jl_O) : Prop := jl_J jl_lk G M (jl_E jl_lk G M 286 0 0) 286 0 0 pc ls st σ o
abbrev jC2 (G : jl_GC) (M : jl_MC) (av : List Value) (σ : jl_Mm) (o : jl_O) : Prop := jl_Ct jl_lk G M av 286 286 σ o
def jl_z0 (Y : jl_MC) (ret : Option FieldType) : Prop := Y.2.2.2.2.cells = 0 ∧ Y.2.2.2.2.slots = 0 ∧ Y.2.2.2.1 = ret
theorem j2_callVi {G : jl_GC} {M Y : jl_MC} {pc idx x ci n : Nat} {ls : List (Nat × Value)} {st stk As : List Value} {σ : jl_Mm} {o : jl_O} {kf : Int → jl_Mm → jl_O} (d : decode M.2.1 pc = .ok (.invokevirtual idx, 3)) (hct : jC2 G Y (jl_vr G x :: As) σ o) (hY : jl_MV Y As.length) (hz : jl_z0 Y (some .int)) (hl : Cond.methodLink M.1.cls idx Y.1 ∈ jl_tbl) (hk : jl_kd x = (ci, n)) (hci : ci < 20) (hx : x < 286) (hcl : (vwCl[ci]?).map (fun q => q.1) = some Y.1.cls) (hR : jl_fit M Y) (hs : stk = As.reverse ++ jl_vr G x :: st) (hw : (st.map fun v => v.category).sum ≤ 8) (k : ∀ (r : Int) (τ : jl_Mm), jl_n3 r → j2 G M (pc + 3) ls (jl_vi r :: st) τ (kf r τ)) : j2 G M pc ls stk σ (jl_bd o kf) := by
  refine jr_callV hct hY hl hk hci hx hcl hR hs hw (by rw [hz.1, hz.2.1]; exact ⟨Nat.zero_le _, Nat.zero_le _⟩) d (fun r τ hn => ?_)
  rw [hz.2.2] at hn
  rw [hz.1, hz.2.1, hz.2.2]
  exact k r τ hn
theorem j2_callVNi {G : jl_GC} {M Y : jl_MC} {pc idx x ci n : Nat} {ls : List (Nat × Value)} {st stk As : List Value} {σ : jl_Mm} {o : jl_O} {kf : Int → jl_Mm → jl_O} {host : String} (d : decode M.2.1 pc = .ok (.invokevirtual idx, 3)) (hct : jC2 G Y (jl_vr G x :: As) σ o) (hY : jl_MV Y As.length) (hz : jl_z0 Y (some .int)) (hl : Cond.methodLinkNest M.1.cls idx Y.1 host ∈ jl_nw) (hk : jl_kd x = (ci, n)) (hci : ci < 20) (hx : x < 286) (hcl : (vwCl[ci]?).map (fun q => q.1) = some Y.1.cls) (hR : jl_fit M Y) (hs : stk = As.reverse ++ jl_vr G x :: st) (hw : (st.map fun v => v.category).sum ≤ 8) (k : ∀ (r : Int) (τ : jl_Mm), jl_n3 r → j2 G M (pc + 3) ls (jl_vi r :: st) τ (kf r τ)) : j2 G M pc ls stk σ (jl_bd o kf) := by
  refine jr_callVN hct hY hl hk hci hx hcl hR hs hw (by rw [hz.1, hz.2.1]; exact ⟨Nat.zero_le _, Nat.zero_le _⟩) d (fun r τ hn => ?_)
  rw [hz.2.2] at hn
  rw [hz.1, hz.2.1, hz.2.2]
  exact k r τ hn
theorem j2_callSi {G : jl_GC} {M Y : jl_MC} {pc idx : Nat} {ls : List (Nat × Value)} {st stk As : List Value} {σ : jl_Mm} {o : jl_O} {kf : Int → jl_Mm → jl_O} (d : decode M.2.1 pc = .ok (.invokestatic idx, 3)) (hct : jC2 G Y (As) σ o) (hY : jl_MS Y As.length) (hz : jl_z0 Y (some .int)) (hl : Cond.methodLink M.1.cls idx Y.1 ∈ jl_tbl) (hR : jl_fit M Y) (hs : stk = As.reverse ++ st) (hw : (st.map fun v => v.category).sum ≤ 8) (k : ∀ (r : Int) (τ : jl_Mm), jl_n3 r → j2 G M (pc + 3) ls (jl_vi r :: st) τ (kf r τ)) : j2 G M pc ls stk σ (jl_bd o kf) := by
  refine jr_callS hct hY hl hR hs hw (by rw [hz.1, hz.2.1]; exact ⟨Nat.zero_le _, Nat.zero_le _⟩) d (fun r τ hn => ?_)
  rw [hz.2.2] at hn
  rw [hz.1, hz.2.1, hz.2.2]
  exact k r τ hn
theorem j2_callVz {G : jl_GC} {M Y : jl_MC} {pc idx x ci n : Nat} {ls : List (Nat × Value)} {st stk As : List Value} {σ : jl_Mm} {o : jl_O} {kf : Int → jl_Mm → jl_O} (d : decode M.2.1 pc = .ok (.invokevirtual idx, 3)) (hct : jC2 G Y (jl_vr G x :: As) σ o) (hY : jl_MV Y As.length) (hz : jl_z0 Y (some .boolean)) (hl : Cond.methodLink M.1.cls idx Y.1 ∈ jl_tbl) (hk : jl_kd x = (ci, n)) (hci : ci < 20) (hx : x < 286) (hcl : (vwCl[ci]?).map (fun q => q.1) = some Y.1.cls) (hR : jl_fit M Y) (hs : stk = As.reverse ++ jl_vr G x :: st) (hw : (st.map fun v => v.category).sum ≤ 8) (k : ∀ (r : Int) (τ : jl_Mm), (r = 0 ∨ r = 1) → j2 G M (pc + 3) ls (jl_vi r :: st) τ (kf r τ)) : j2 G M pc ls stk σ (jl_bd o kf) := by
  refine jr_callV hct hY hl hk hci hx hcl hR hs hw (by rw [hz.1, hz.2.1]; exact ⟨Nat.zero_le _, Nat.zero_le _⟩) d (fun r τ hn => ?_)
  rw [hz.2.2] at hn
  rw [hz.1, hz.2.1, hz.2.2]
  exact k r τ hn
theorem j2_callVNz {G : jl_GC} {M Y : jl_MC} {pc idx x ci n : Nat} {ls : List (Nat × Value)} {st stk As : List Value} {σ : jl_Mm} {o : jl_O} {kf : Int → jl_Mm → jl_O} {host : String} (d : decode M.2.1 pc = .ok (.invokevirtual idx, 3)) (hct : jC2 G Y (jl_vr G x :: As) σ o) (hY : jl_MV Y As.length) (hz : jl_z0 Y (some .boolean)) (hl : Cond.methodLinkNest M.1.cls idx Y.1 host ∈ jl_nw) (hk : jl_kd x = (ci, n)) (hci : ci < 20) (hx : x < 286) (hcl : (vwCl[ci]?).map (fun q => q.1) = some Y.1.cls) (hR : jl_fit M Y) (hs : stk = As.reverse ++ jl_vr G x :: st) (hw : (st.map fun v => v.category).sum ≤ 8) (k : ∀ (r : Int) (τ : jl_Mm), (r = 0 ∨ r = 1) → j2 G M (pc + 3) ls (jl_vi r :: st) τ (kf r τ)) : j2 G M pc ls stk σ (jl_bd o kf) := by
  refine jr_callVN hct hY hl hk hci hx hcl hR hs hw (by rw [hz.1, hz.2.1]; exact ⟨Nat.zero_le _, Nat.zero_le _⟩) d (fun r τ hn => ?_)
  rw [hz.2.2] at hn
  rw [hz.1, hz.2.1, hz.2.2]
  exact k r τ hn
theorem j2_callSz {G : jl_GC} {M Y : jl_MC} {pc idx : Nat} {ls : List (Nat × Value)} {st stk As : List Value} {σ : jl_Mm} {o : jl_O} {kf : Int → jl_Mm → jl_O} (d : decode M.2.1 pc = .ok (.invokestatic idx, 3)) (hct : jC2 G Y (As) σ o) (hY : jl_MS Y As.length) (hz : jl_z0 Y (some .boolean)) (hl : Cond.methodLink M.1.cls idx Y.1 ∈ jl_tbl) (hR : jl_fit M Y) (hs : stk = As.reverse ++ st) (hw : (st.map fun v => v.category).sum ≤ 8) (k : ∀ (r : Int) (τ : jl_Mm), (r = 0 ∨ r = 1) → j2 G M (pc + 3) ls (jl_vi r :: st) τ (kf r τ)) : j2 G M pc ls stk σ (jl_bd o kf) := by
  refine jr_callS hct hY hl hR hs hw (by rw [hz.1, hz.2.1]; exact ⟨Nat.zero_le _, Nat.zero_le _⟩) d (fun r τ hn => ?_)
  rw [hz.2.2] at hn
  rw [hz.1, hz.2.1, hz.2.2]
  exact k r τ hn
theorem j2_callVv {G : jl_GC} {M Y : jl_MC} {pc idx x ci n : Nat} {ls : List (Nat × Value)} {st stk As : List Value} {σ : jl_Mm} {o : jl_O} {kf : Int → jl_Mm → jl_O} (d : decode M.2.1 pc = .ok (.invokevirtual idx, 3)) (hct : jC2 G Y (jl_vr G x :: As) σ o) (hY : jl_MV Y As.length) (hz : jl_z0 Y (none)) (hl : Cond.methodLink M.1.cls idx Y.1 ∈ jl_tbl) (hk : jl_kd x = (ci, n)) (hci : ci < 20) (hx : x < 286) (hcl : (vwCl[ci]?).map (fun q => q.1) = some Y.1.cls) (hR : jl_fit M Y) (hs : stk = As.reverse ++ jl_vr G x :: st) (hw : (st.map fun v => v.category).sum ≤ 8) (k : ∀ (r : Int) (τ : jl_Mm), True → j2 G M (pc + 3) ls (st) τ (kf r τ)) : j2 G M pc ls stk σ (jl_bd o kf) := by
  refine jr_callV hct hY hl hk hci hx hcl hR hs hw (by rw [hz.1, hz.2.1]; exact ⟨Nat.zero_le _, Nat.zero_le _⟩) d (fun r τ hn => ?_)
  rw [hz.2.2] at hn
  rw [hz.1, hz.2.1, hz.2.2]
  exact k r τ hn
theorem j2_callVNv {G : jl_GC} {M Y : jl_MC} {pc idx x ci n : Nat} {ls : List (Nat × Value)} {st stk As : List Value} {σ : jl_Mm} {o : jl_O} {kf : Int → jl_Mm → jl_O} {host : String} (d : decode M.2.1 pc = .ok (.invokevirtual idx, 3)) (hct : jC2 G Y (jl_vr G x :: As) σ o) (hY : jl_MV Y As.length) (hz : jl_z0 Y (none)) (hl : Cond.methodLinkNest M.1.cls idx Y.1 host ∈ jl_nw) (hk : jl_kd x = (ci, n)) (hci : ci < 20) (hx : x < 286) (hcl : (vwCl[ci]?).map (fun q => q.1) = some Y.1.cls) (hR : jl_fit M Y) (hs : stk = As.reverse ++ jl_vr G x :: st) (hw : (st.map fun v => v.category).sum ≤ 8) (k : ∀ (r : Int) (τ : jl_Mm), True → j2 G M (pc + 3) ls (st) τ (kf r τ)) : j2 G M pc ls stk σ (jl_bd o kf) := by
  refine jr_callVN hct hY hl hk hci hx hcl hR hs hw (by rw [hz.1, hz.2.1]; exact ⟨Nat.zero_le _, Nat.zero_le _⟩) d (fun r τ hn => ?_)
  rw [hz.2.2] at hn
  rw [hz.1, hz.2.1, hz.2.2]
  exact k r τ hn
theorem j2_callSv {G : jl_GC} {M Y : jl_MC} {pc idx : Nat} {ls : List (Nat × Value)} {st stk As : List Value} {σ : jl_Mm} {o : jl_O} {kf : Int → jl_Mm → jl_O} (d : decode M.2.1 pc = .ok (.invokestatic idx, 3)) (hct : jC2 G Y (As) σ o) (hY : jl_MS Y As.length) (hz : jl_z0 Y (none)) (hl : Cond.methodLink M.1.cls idx Y.1 ∈ jl_tbl) (hR : jl_fit M Y) (hs : stk = As.reverse ++ st) (hw : (st.map fun v => v.category).sum ≤ 8) (k : ∀ (r : Int) (τ : jl_Mm), True → j2 G M (pc + 3) ls (st) τ (kf r τ)) : j2 G M pc ls stk σ (jl_bd o kf) := by
  refine jr_callS hct hY hl hR hs hw (by rw [hz.1, hz.2.1]; exact ⟨Nat.zero_le _, Nat.zero_le _⟩) d (fun r τ hn => ?_)
  rw [hz.2.2] at hn
  rw [hz.1, hz.2.1, hz.2.2]
  exact k r τ hn
theorem j2_callVl {G : jl_GC} {M Y : jl_MC} {pc idx x ci n : Nat} {ls : List (Nat × Value)} {st stk As : List Value} {σ : jl_Mm} {o : jl_O} {kf : Int → jl_Mm → jl_O} (d : decode M.2.1 pc = .ok (.invokevirtual idx, 3)) (hct : jC2 G Y (jl_vr G x :: As) σ o) (hY : jl_MV Y As.length) (hz : jl_z0 Y (some .long)) (hl : Cond.methodLink M.1.cls idx Y.1 ∈ jl_tbl) (hk : jl_kd x = (ci, n)) (hci : ci < 20) (hx : x < 286) (hcl : (vwCl[ci]?).map (fun q => q.1) = some Y.1.cls) (hR : jl_fit M Y) (hs : stk = As.reverse ++ jl_vr G x :: st) (hw : (st.map fun v => v.category).sum ≤ 8) (k : ∀ (r : Int) (τ : jl_Mm), jl_n6 r → j2 G M (pc + 3) ls (jl_vl r :: st) τ (kf r τ)) : j2 G M pc ls stk σ (jl_bd o kf) := by
  refine jr_callV hct hY hl hk hci hx hcl hR hs hw (by rw [hz.1, hz.2.1]; exact ⟨Nat.zero_le _, Nat.zero_le _⟩) d (fun r τ hn => ?_)
  rw [hz.2.2] at hn
  rw [hz.1, hz.2.1, hz.2.2]
  exact k r τ hn
theorem j2_callVNl {G : jl_GC} {M Y : jl_MC} {pc idx x ci n : Nat} {ls : List (Nat × Value)} {st stk As : List Value} {σ : jl_Mm} {o : jl_O} {kf : Int → jl_Mm → jl_O} {host : String} (d : decode M.2.1 pc = .ok (.invokevirtual idx, 3)) (hct : jC2 G Y (jl_vr G x :: As) σ o) (hY : jl_MV Y As.length) (hz : jl_z0 Y (some .long)) (hl : Cond.methodLinkNest M.1.cls idx Y.1 host ∈ jl_nw) (hk : jl_kd x = (ci, n)) (hci : ci < 20) (hx : x < 286) (hcl : (vwCl[ci]?).map (fun q => q.1) = some Y.1.cls) (hR : jl_fit M Y) (hs : stk = As.reverse ++ jl_vr G x :: st) (hw : (st.map fun v => v.category).sum ≤ 8) (k : ∀ (r : Int) (τ : jl_Mm), jl_n6 r → j2 G M (pc + 3) ls (jl_vl r :: st) τ (kf r τ)) : j2 G M pc ls stk σ (jl_bd o kf) := by
  refine jr_callVN hct hY hl hk hci hx hcl hR hs hw (by rw [hz.1, hz.2.1]; exact ⟨Nat.zero_le _, Nat.zero_le _⟩) d (fun r τ hn => ?_)
  rw [hz.2.2] at hn
  rw [hz.1, hz.2.1, hz.2.2]
  exact k r τ hn
theorem j2_callSl {G : jl_GC} {M Y : jl_MC} {pc idx : Nat} {ls : List (Nat × Value)} {st stk As : List Value} {σ : jl_Mm} {o : jl_O} {kf : Int → jl_Mm → jl_O} (d : decode M.2.1 pc = .ok (.invokestatic idx, 3)) (hct : jC2 G Y (As) σ o) (hY : jl_MS Y As.length) (hz : jl_z0 Y (some .long)) (hl : Cond.methodLink M.1.cls idx Y.1 ∈ jl_tbl) (hR : jl_fit M Y) (hs : stk = As.reverse ++ st) (hw : (st.map fun v => v.category).sum ≤ 8) (k : ∀ (r : Int) (τ : jl_Mm), jl_n6 r → j2 G M (pc + 3) ls (jl_vl r :: st) τ (kf r τ)) : j2 G M pc ls stk σ (jl_bd o kf) := by
  refine jr_callS hct hY hl hR hs hw (by rw [hz.1, hz.2.1]; exact ⟨Nat.zero_le _, Nat.zero_le _⟩) d (fun r τ hn => ?_)
  rw [hz.2.2] at hn
  rw [hz.1, hz.2.1, hz.2.2]
  exact k r τ hn
theorem j2_callVa {G : jl_GC} {M Y : jl_MC} {pc idx x ci n : Nat} {ls : List (Nat × Value)} {st stk As : List Value} {σ : jl_Mm} {o : jl_O} {kf : Int → jl_Mm → jl_O} {Dn : String} (d : decode M.2.1 pc = .ok (.invokevirtual idx, 3)) (hct : jC2 G Y (jl_vr G x :: As) σ o) (hY : jl_MV Y As.length) (hz : jl_z0 Y (some (.object Dn))) (hl : Cond.methodLink M.1.cls idx Y.1 ∈ jl_tbl) (hk : jl_kd x = (ci, n)) (hci : ci < 20) (hx : x < 286) (hcl : (vwCl[ci]?).map (fun q => q.1) = some Y.1.cls) (hR : jl_fit M Y) (hs : stk = As.reverse ++ jl_vr G x :: st) (hw : (st.map fun v => v.category).sum ≤ 8) (k : ∀ (r : Int) (τ : jl_Mm), 0 ≤ r → j2 G M (pc + 3) ls (jl_vr G r.toNat :: st) τ (kf r τ)) : j2 G M pc ls stk σ (jl_bd o kf) := by
  refine jr_callV hct hY hl hk hci hx hcl hR hs hw (by rw [hz.1, hz.2.1]; exact ⟨Nat.zero_le _, Nat.zero_le _⟩) d (fun r τ hn => ?_)
  rw [hz.2.2] at hn
  rw [hz.1, hz.2.1, hz.2.2]
  exact k r τ hn
theorem j2_callVNa {G : jl_GC} {M Y : jl_MC} {pc idx x ci n : Nat} {ls : List (Nat × Value)} {st stk As : List Value} {σ : jl_Mm} {o : jl_O} {kf : Int → jl_Mm → jl_O} {host : String} {Dn : String} (d : decode M.2.1 pc = .ok (.invokevirtual idx, 3)) (hct : jC2 G Y (jl_vr G x :: As) σ o) (hY : jl_MV Y As.length) (hz : jl_z0 Y (some (.object Dn))) (hl : Cond.methodLinkNest M.1.cls idx Y.1 host ∈ jl_nw) (hk : jl_kd x = (ci, n)) (hci : ci < 20) (hx : x < 286) (hcl : (vwCl[ci]?).map (fun q => q.1) = some Y.1.cls) (hR : jl_fit M Y) (hs : stk = As.reverse ++ jl_vr G x :: st) (hw : (st.map fun v => v.category).sum ≤ 8) (k : ∀ (r : Int) (τ : jl_Mm), 0 ≤ r → j2 G M (pc + 3) ls (jl_vr G r.toNat :: st) τ (kf r τ)) : j2 G M pc ls stk σ (jl_bd o kf) := by
  refine jr_callVN hct hY hl hk hci hx hcl hR hs hw (by rw [hz.1, hz.2.1]; exact ⟨Nat.zero_le _, Nat.zero_le _⟩) d (fun r τ hn => ?_)
  rw [hz.2.2] at hn
  rw [hz.1, hz.2.1, hz.2.2]
  exact k r τ hn
theorem j2_callSa {G : jl_GC} {M Y : jl_MC} {pc idx : Nat} {ls : List (Nat × Value)} {st stk As : List Value} {σ : jl_Mm} {o : jl_O} {kf : Int → jl_Mm → jl_O} {Dn : String} (d : decode M.2.1 pc = .ok (.invokestatic idx, 3)) (hct : jC2 G Y (As) σ o) (hY : jl_MS Y As.length) (hz : jl_z0 Y (some (.object Dn))) (hl : Cond.methodLink M.1.cls idx Y.1 ∈ jl_tbl) (hR : jl_fit M Y) (hs : stk = As.reverse ++ st) (hw : (st.map fun v => v.category).sum ≤ 8) (k : ∀ (r : Int) (τ : jl_Mm), 0 ≤ r → j2 G M (pc + 3) ls (jl_vr G r.toNat :: st) τ (kf r τ)) : j2 G M pc ls stk σ (jl_bd o kf) := by
  refine jr_callS hct hY hl hR hs hw (by rw [hz.1, hz.2.1]; exact ⟨Nat.zero_le _, Nat.zero_le _⟩) d (fun r τ hn => ?_)
  rw [hz.2.2] at hn
  rw [hz.1, hz.2.1, hz.2.2]
  exact k r τ hn
