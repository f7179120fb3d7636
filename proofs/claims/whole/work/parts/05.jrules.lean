/-! ONE JUDGEMENT: jl_J G M E nx ce sl pc ls st σ o: if the numbers' answer o is (r, σ'), then the machine, in method M at pc with locals ls, stack st and a heap that holds σ, comes to the end E r σ' -/
abbrev jl_GC : Type := Launch × Heap × va_G × (Nat → ClassId) × (Nat → Nat) × Nat × Nat × Nat × Nat × (Nat → Int32) × Value
abbrev jl_MC : Type := MethodName × ByteArray × Nat × Option FieldType × Room
abbrev jl_EC : Type := Int → jl_Mm → Array Value → State → List Frame → State → Prop
def jl_B (G : jl_GC) : Nat := G.2.1.size
def jl_A (G : jl_GC) : Nat → Prop := fun q => jl_B G ≤ q
abbrev jl_vi (x : Int) : Value := .int (jl_i3 x)
abbrev jl_vl (x : Int) : Value := .long (jl_i6 x)
abbrev jl_vr (G : jl_GC) (c : Nat) : Value := .ref (G.2.2.2.2.1 c)
theorem jl_vi_to (v : Int32) : jl_vi v.toInt = .int v := congrArg Value.int (jl_i3_to v)
theorem jl_vl_to (v : Int64) : jl_vl v.toInt = .long v := congrArg Value.long (jl_i6_to v)
theorem jl_i2l {a : Int} (h : jl_n3 a) : (jl_i3 a).toInt64 = jl_i6 a := Int32.toInt64_ofInt (by have := h.1; exact this) (by have := h.2; show a ≤ 2147483647; omega)
def jl_tys (cA : Nat → ClassId) : List (ClassId × FieldType) := [(cA 20, .int), (cA 21, .long), (cA 22, .char), (cA 23, .boolean), (cA 24, .object RX7), (cA 25, .object RX2)]
def jl_txt : String := "street person at trust lie of hangs on light for tallow drafts burns believes gust inches near draft told hour place number lit held wax glow or and not all min max first last often total most least "
def jl_byt : List Int32 := jl_txt.toList.map (fun c => Int32.ofNat c.toNat)
abbrev jl_sb (G : jl_GC) : Nat := G.2.2.2.2.2.2.2.1
abbrev jl_sL (G : jl_GC) : Nat := G.2.2.2.2.2.2.2.2.1
abbrev jl_sx (G : jl_GC) : Nat → Int32 := G.2.2.2.2.2.2.2.2.2.1
abbrev jl_sf (G : jl_GC) : Value := G.2.2.2.2.2.2.2.2.2.2
def jl_K (G : jl_GC) (U : State) : Prop := va_K G.2.2.1 vwCl (jl_tys G.2.2.2.1) U ∧ vk_R RX4 137 jl_txt G.2.2.2.2.2.1 U ∧ vk_S 1 [199] [jl_byt] (fun _ => G.2.2.2.2.2.1) (fun _ => G.2.2.2.2.2.2.1) (jl_A G) U G.2.1 ∧ (∀ w ∈ jl_nw, va_Nw w U) ∧ va_Z "java/lang/String" "COMPACT_STRINGS" "Z" (.int 1) (jl_A G) U G.2.1 ∧ va_Z "jdk/internal/util/Preconditions" "SIOOBE_FORMATTER" "Ljava/util/function/BiFunction;" (jl_sf G) (jl_A G) U G.2.1 ∧ va_X (jl_sb G) (jl_sL G) (jl_sx G) U G.2.1 ∧ jl_sb G < jl_B G ∧ jl_sL G ≤ 3072 ∧ (jl_sf G).category = 1
theorem jl_K.warm {G : jl_GC} {s U : State} (hW : s.WarmedH U.vm) (h : jl_K G s) : jl_K G U := ⟨va_K.moved hW.alike h.1, h.2.1.warm hW, h.2.2.1.moved hW.alike, jl_nw_warm hW h.2.2.2.1, h.2.2.2.2.1.moved hW.alike, h.2.2.2.2.2.1.moved hW.alike, h.2.2.2.2.2.2.1.moved hW.alike, h.2.2.2.2.2.2.2⟩
def jl_H (G : jl_GC) (H : Heap) : Prop := jl_B G ≤ H.size ∧ ∀ q, q < jl_B G → H[q]? = G.2.1[q]?
def jl_C (G : jl_GC) (M : jl_MC) (p : Program) (s : State) (m : MethodId) (args : Array Value) (meth : Method) (c : Code) : Prop :=
  p.tables.exec = Jvm.exec ∧ c.code = M.2.1 ∧ (meth.sig.returnType = M.2.2.2.1 ∧ meth.name = M.1.name) ∧ c.maxLocals = M.2.2.1 ∧ s.vm.findClass M.1.cls = some m.cls ∧ (∀ w ∈ jl_tbl, w.before args s = true) ∧ meth.locks = false ∧ jl_K G s ∧ jl_H G s.heap
def jl_ws (lk : jl_LK) (G : jl_GC) (σ : jl_Mm) (nx : Nat) : va_W := jl_w G.2.2.2.2.1 G.2.2.2.1 lk σ nx
def jl_isr (c i : Nat) : Bool := (decide ((jl_kd c).1 < 20) && decide (jl_ft (jl_kd c).1 i = 2)) || (decide (24 ≤ (jl_kd c).1) && decide ((jl_kd c).1 < 99))
/-- a reference that is kept is one of a cell that is there -/
def jl_W (lk : jl_LK) (σ : jl_Mm) (nx : Nat) : Prop := ∀ c i : Nat, c < nx → lk c i = none → jl_isr c i = true → σ c i < (nx : Int)
def jl_R (lk : jl_LK) (G : jl_GC) (σ : jl_Mm) (nx : Nat) (H : Heap) : Prop := va_D (jl_A G) (jl_ws lk G σ nx) ∧ va_P G.2.2.1 vwCl (jl_ws lk G σ nx) H ∧ jl_W lk σ nx
theorem jl_W.up {lk : jl_LK} {σ : jl_Mm} {nx x i : Nat} {v : Int} (h : jl_W lk σ nx) (hv : jl_isr x i = false ∨ v < (nx : Int)) : jl_W lk (jl_up σ x i v) nx := by
  intro c j hc hl hr
  by_cases hcx : c = x
  · subst hcx
    by_cases hj : j = i
    · subst hj
      rcases hv with hv | hv
      · rw [hr] at hv; cases hv
      · simpa [jl_up] using hv
    · simpa [jl_up, hj] using h c j hc hl hr
  · simpa [jl_up, hcx] using h c j hc hl hr
theorem jl_isr_o {x ci n i : Nat} (hk : jl_kd x = (ci, n)) (h20 : ci < 20) (ht : jl_ft ci i ≠ 2) : jl_isr x i = false := by
  have h1 : ¬ 24 ≤ ci := by omega
  simp [jl_isr, hk, ht, h1]
theorem jl_isr_a {x k n i : Nat} (hk : jl_kd x = (k, n)) (h20 : 20 ≤ k) (h24 : k < 24) : jl_isr x i = false := by
  have h1 : ¬ 24 ≤ k := by omega
  have h2 : ¬ k < 20 := by omega
  simp [jl_isr, hk, h1, h2]
theorem jl_W.cp {lk : jl_LK} {σ : jl_Mm} {nx s sp d dp n : Nat} (h : jl_W lk σ nx) (hd : ∀ i, jl_isr d i = false) : jl_W lk (jl_cp σ s sp d dp n) nx := by
  intro c j hc hl hr
  by_cases hcx : c = d
  · subst hcx
    rw [hd j] at hr
    cases hr
  · simpa [jl_cp, hcx] using h c j hc hl hr
def jl_J (lk : jl_LK) (G : jl_GC) (M : jl_MC) (E : jl_EC) (nx ce sl pc : Nat) (ls : List (Nat × Value)) (st : List Value) (σ : jl_Mm) (o : jl_O) : Prop :=
  ∀ (r : Int) (τ : jl_Mm), o = some (r, τ) → ∀ (p : Program) (e : Env) (s : State) (m : MethodId) (args : Array Value) (below : List Frame) (meth : Method) (c : Code) (H : Heap) (locs : List Loc) (la : Array Slot), jl_C G M p s m args meth c → jl_R lk G σ nx H → va_S (jl_A G) s.heap H locs → lv_has la M.2.2.1 ls →
    W p G.1 e M.2.2.2.2 s m args below meth c H locs ce sl (E r τ args s below) (F0 m pc la st)
def jl_CF (ci : Nat) (C : String) (T : u_T) (N : Nat) (ty : Nat → FieldType) : Prop := vwCl[ci]? = some (C, T, N) ∧ (∀ w ∈ u_ws C T N, w ∈ jl_tbl) ∧ (∀ k, k < N → parseFieldDescriptor (T k).2.2.1 = some (ty k)) ∧ (∀ a, a < N → ∀ b, b < N → a ≠ b → (T a).2.1 ≠ (T b).2.1) ∧ N = jl_nf ci ∧ ci < 20
def jl_bd (o : jl_O) (k : Int → jl_Mm → jl_O) : jl_O := match o with
  | none => none
  | some (r, σ) => k r σ

theorem jr_iadd {lk : jl_LK} {G : jl_GC} {M : jl_MC} {E : jl_EC} {nx ce sl pc : Nat} {ls : List (Nat × Value)} {st : List Value} {σ : jl_Mm} {o : jl_O} {a b : Int} (d : decode M.2.1 pc = .ok (.iadd, 1)) (k : jl_J lk G M E nx ce sl (pc + 1) ls (jl_vi (jl_add a b) :: st) σ o) : jl_J lk G M E nx ce sl pc ls (jl_vi b :: jl_vi a :: st) σ o := by
  intro r τ ho p e s m args below meth c H locs la C X S L
  exact lv_iadd C.1 C.2.1 d (by have z := k r τ ho p e s m args below meth c H locs la C X S L; rwa [jl_add, jl_vi_to] at z)
theorem jr_isub {lk : jl_LK} {G : jl_GC} {M : jl_MC} {E : jl_EC} {nx ce sl pc : Nat} {ls : List (Nat × Value)} {st : List Value} {σ : jl_Mm} {o : jl_O} {a b : Int} (d : decode M.2.1 pc = .ok (.isub, 1)) (k : jl_J lk G M E nx ce sl (pc + 1) ls (jl_vi (jl_sub a b) :: st) σ o) : jl_J lk G M E nx ce sl pc ls (jl_vi b :: jl_vi a :: st) σ o := by
  intro r τ ho p e s m args below meth c H locs la C X S L
  exact lv_isub C.1 C.2.1 d (by have z := k r τ ho p e s m args below meth c H locs la C X S L; rwa [jl_sub, jl_vi_to] at z)
theorem jr_imul {lk : jl_LK} {G : jl_GC} {M : jl_MC} {E : jl_EC} {nx ce sl pc : Nat} {ls : List (Nat × Value)} {st : List Value} {σ : jl_Mm} {o : jl_O} {a b : Int} (d : decode M.2.1 pc = .ok (.imul, 1)) (k : jl_J lk G M E nx ce sl (pc + 1) ls (jl_vi (jl_mul a b) :: st) σ o) : jl_J lk G M E nx ce sl pc ls (jl_vi b :: jl_vi a :: st) σ o := by
  intro r τ ho p e s m args below meth c H locs la C X S L
  exact lv_imul C.1 C.2.1 d (by have z := k r τ ho p e s m args below meth c H locs la C X S L; rwa [jl_mul, jl_vi_to] at z)
theorem jr_iand {lk : jl_LK} {G : jl_GC} {M : jl_MC} {E : jl_EC} {nx ce sl pc : Nat} {ls : List (Nat × Value)} {st : List Value} {σ : jl_Mm} {o : jl_O} {a b : Int} (d : decode M.2.1 pc = .ok (.iand, 1)) (k : jl_J lk G M E nx ce sl (pc + 1) ls (jl_vi (jl_and a b) :: st) σ o) : jl_J lk G M E nx ce sl pc ls (jl_vi b :: jl_vi a :: st) σ o := by
  intro r τ ho p e s m args below meth c H locs la C X S L
  exact lv_iand C.1 C.2.1 d (by have z := k r τ ho p e s m args below meth c H locs la C X S L; rwa [jl_and, jl_vi_to] at z)
theorem jr_ior {lk : jl_LK} {G : jl_GC} {M : jl_MC} {E : jl_EC} {nx ce sl pc : Nat} {ls : List (Nat × Value)} {st : List Value} {σ : jl_Mm} {o : jl_O} {a b : Int} (d : decode M.2.1 pc = .ok (.ior, 1)) (k : jl_J lk G M E nx ce sl (pc + 1) ls (jl_vi (jl_or a b) :: st) σ o) : jl_J lk G M E nx ce sl pc ls (jl_vi b :: jl_vi a :: st) σ o := by
  intro r τ ho p e s m args below meth c H locs la C X S L
  exact lv_ior C.1 C.2.1 d (by have z := k r τ ho p e s m args below meth c H locs la C X S L; rwa [jl_or, jl_vi_to] at z)
theorem jr_ixor {lk : jl_LK} {G : jl_GC} {M : jl_MC} {E : jl_EC} {nx ce sl pc : Nat} {ls : List (Nat × Value)} {st : List Value} {σ : jl_Mm} {o : jl_O} {a b : Int} (d : decode M.2.1 pc = .ok (.ixor, 1)) (k : jl_J lk G M E nx ce sl (pc + 1) ls (jl_vi (jl_xor a b) :: st) σ o) : jl_J lk G M E nx ce sl pc ls (jl_vi b :: jl_vi a :: st) σ o := by
  intro r τ ho p e s m args below meth c H locs la C X S L
  exact lv_ixor C.1 C.2.1 d (by have z := k r τ ho p e s m args below meth c H locs la C X S L; rwa [jl_xor, jl_vi_to] at z)
theorem jr_ishl {lk : jl_LK} {G : jl_GC} {M : jl_MC} {E : jl_EC} {nx ce sl pc : Nat} {ls : List (Nat × Value)} {st : List Value} {σ : jl_Mm} {o : jl_O} {a b : Int} (d : decode M.2.1 pc = .ok (.ishl, 1)) (k : jl_J lk G M E nx ce sl (pc + 1) ls (jl_vi (jl_shl a b) :: st) σ o) : jl_J lk G M E nx ce sl pc ls (jl_vi b :: jl_vi a :: st) σ o := by
  intro r τ ho p e s m args below meth c H locs la C X S L
  exact lv_ishl C.1 C.2.1 d (by have z := k r τ ho p e s m args below meth c H locs la C X S L; rwa [jl_shl, jl_vi_to] at z)
theorem jr_ishr {lk : jl_LK} {G : jl_GC} {M : jl_MC} {E : jl_EC} {nx ce sl pc : Nat} {ls : List (Nat × Value)} {st : List Value} {σ : jl_Mm} {o : jl_O} {a b : Int} (d : decode M.2.1 pc = .ok (.ishr, 1)) (k : jl_J lk G M E nx ce sl (pc + 1) ls (jl_vi (jl_shr a b) :: st) σ o) : jl_J lk G M E nx ce sl pc ls (jl_vi b :: jl_vi a :: st) σ o := by
  intro r τ ho p e s m args below meth c H locs la C X S L
  exact lv_ishr C.1 C.2.1 d (by have z := k r τ ho p e s m args below meth c H locs la C X S L; rwa [jl_shr, jl_vi_to] at z)
theorem jr_iushr {lk : jl_LK} {G : jl_GC} {M : jl_MC} {E : jl_EC} {nx ce sl pc : Nat} {ls : List (Nat × Value)} {st : List Value} {σ : jl_Mm} {o : jl_O} {a b : Int} (d : decode M.2.1 pc = .ok (.iushr, 1)) (k : jl_J lk G M E nx ce sl (pc + 1) ls (jl_vi (jl_ushr a b) :: st) σ o) : jl_J lk G M E nx ce sl pc ls (jl_vi b :: jl_vi a :: st) σ o := by
  intro r τ ho p e s m args below meth c H locs la C X S L
  exact lv_iushr C.1 C.2.1 d rfl (by have z := k r τ ho p e s m args below meth c H locs la C X S L; rwa [jl_ushr, jl_vi_to] at z)
theorem jr_idiv {lk : jl_LK} {G : jl_GC} {M : jl_MC} {E : jl_EC} {nx ce sl pc : Nat} {ls : List (Nat × Value)} {st : List Value} {σ : jl_Mm} {o : jl_O} {a b : Int} (d : decode M.2.1 pc = .ok (.idiv, 1)) (hb : jl_n3 b) (h0 : ¬ b = 0) (k : jl_J lk G M E nx ce sl (pc + 1) ls (jl_vi (jl_div a b) :: st) σ o) : jl_J lk G M E nx ce sl pc ls (jl_vi b :: jl_vi a :: st) σ o := by
  intro r τ ho p e s m args below meth c H locs la C X S L
  exact lv_idiv C.1 C.2.1 d (fun q => h0 ((jl_eq3 hb jl_n3_0).mp q)) (by have z := k r τ ho p e s m args below meth c H locs la C X S L; rwa [jl_div, jl_vi_to] at z)
theorem jr_irem {lk : jl_LK} {G : jl_GC} {M : jl_MC} {E : jl_EC} {nx ce sl pc : Nat} {ls : List (Nat × Value)} {st : List Value} {σ : jl_Mm} {o : jl_O} {a b : Int} (d : decode M.2.1 pc = .ok (.irem, 1)) (hb : jl_n3 b) (h0 : ¬ b = 0) (k : jl_J lk G M E nx ce sl (pc + 1) ls (jl_vi (jl_rem a b) :: st) σ o) : jl_J lk G M E nx ce sl pc ls (jl_vi b :: jl_vi a :: st) σ o := by
  intro r τ ho p e s m args below meth c H locs la C X S L
  exact lv_irem C.1 C.2.1 d (fun q => h0 ((jl_eq3 hb jl_n3_0).mp q)) (by have z := k r τ ho p e s m args below meth c H locs la C X S L; rwa [jl_rem, jl_vi_to] at z)
theorem jr_ladd {lk : jl_LK} {G : jl_GC} {M : jl_MC} {E : jl_EC} {nx ce sl pc : Nat} {ls : List (Nat × Value)} {st : List Value} {σ : jl_Mm} {o : jl_O} {a b : Int} (d : decode M.2.1 pc = .ok (.ladd, 1)) (k : jl_J lk G M E nx ce sl (pc + 1) ls (jl_vl (jl_ladd a b) :: st) σ o) : jl_J lk G M E nx ce sl pc ls (jl_vl b :: jl_vl a :: st) σ o := by
  intro r τ ho p e s m args below meth c H locs la C X S L
  exact lv_ladd C.1 C.2.1 d (by have z := k r τ ho p e s m args below meth c H locs la C X S L; rwa [jl_ladd, jl_vl_to] at z)
theorem jr_lsub {lk : jl_LK} {G : jl_GC} {M : jl_MC} {E : jl_EC} {nx ce sl pc : Nat} {ls : List (Nat × Value)} {st : List Value} {σ : jl_Mm} {o : jl_O} {a b : Int} (d : decode M.2.1 pc = .ok (.lsub, 1)) (k : jl_J lk G M E nx ce sl (pc + 1) ls (jl_vl (jl_lsub a b) :: st) σ o) : jl_J lk G M E nx ce sl pc ls (jl_vl b :: jl_vl a :: st) σ o := by
  intro r τ ho p e s m args below meth c H locs la C X S L
  exact lv_lsub C.1 C.2.1 d (by have z := k r τ ho p e s m args below meth c H locs la C X S L; rwa [jl_lsub, jl_vl_to] at z)
theorem jr_lmul {lk : jl_LK} {G : jl_GC} {M : jl_MC} {E : jl_EC} {nx ce sl pc : Nat} {ls : List (Nat × Value)} {st : List Value} {σ : jl_Mm} {o : jl_O} {a b : Int} (d : decode M.2.1 pc = .ok (.lmul, 1)) (k : jl_J lk G M E nx ce sl (pc + 1) ls (jl_vl (jl_lmul a b) :: st) σ o) : jl_J lk G M E nx ce sl pc ls (jl_vl b :: jl_vl a :: st) σ o := by
  intro r τ ho p e s m args below meth c H locs la C X S L
  exact lv_lmul C.1 C.2.1 d (by have z := k r τ ho p e s m args below meth c H locs la C X S L; rwa [jl_lmul, jl_vl_to] at z)
theorem jr_land {lk : jl_LK} {G : jl_GC} {M : jl_MC} {E : jl_EC} {nx ce sl pc : Nat} {ls : List (Nat × Value)} {st : List Value} {σ : jl_Mm} {o : jl_O} {a b : Int} (d : decode M.2.1 pc = .ok (.land, 1)) (k : jl_J lk G M E nx ce sl (pc + 1) ls (jl_vl (jl_land a b) :: st) σ o) : jl_J lk G M E nx ce sl pc ls (jl_vl b :: jl_vl a :: st) σ o := by
  intro r τ ho p e s m args below meth c H locs la C X S L
  exact lv_land C.1 C.2.1 d (by have z := k r τ ho p e s m args below meth c H locs la C X S L; rwa [jl_land, jl_vl_to] at z)
theorem jr_ldiv {lk : jl_LK} {G : jl_GC} {M : jl_MC} {E : jl_EC} {nx ce sl pc : Nat} {ls : List (Nat × Value)} {st : List Value} {σ : jl_Mm} {o : jl_O} {a b : Int} (d : decode M.2.1 pc = .ok (.ldiv, 1)) (hb : jl_n6 b) (h0 : ¬ b = 0) (k : jl_J lk G M E nx ce sl (pc + 1) ls (jl_vl (jl_ldiv a b) :: st) σ o) : jl_J lk G M E nx ce sl pc ls (jl_vl b :: jl_vl a :: st) σ o := by
  intro r τ ho p e s m args below meth c H locs la C X S L
  exact lv_ldiv C.1 C.2.1 d (fun q => h0 (by rw [← jl_to_i6 hb, q]; rfl)) (by have z := k r τ ho p e s m args below meth c H locs la C X S L; rwa [jl_ldiv, jl_vl_to] at z)
theorem jr_lrem {lk : jl_LK} {G : jl_GC} {M : jl_MC} {E : jl_EC} {nx ce sl pc : Nat} {ls : List (Nat × Value)} {st : List Value} {σ : jl_Mm} {o : jl_O} {a b : Int} (d : decode M.2.1 pc = .ok (.lrem, 1)) (hb : jl_n6 b) (h0 : ¬ b = 0) (k : jl_J lk G M E nx ce sl (pc + 1) ls (jl_vl (jl_lrem a b) :: st) σ o) : jl_J lk G M E nx ce sl pc ls (jl_vl b :: jl_vl a :: st) σ o := by
  intro r τ ho p e s m args below meth c H locs la C X S L
  exact lv_lrem C.1 C.2.1 d (fun q => h0 (by rw [← jl_to_i6 hb, q]; rfl)) (by have z := k r τ ho p e s m args below meth c H locs la C X S L; rwa [jl_lrem, jl_vl_to] at z)
theorem jr_lcmp {lk : jl_LK} {G : jl_GC} {M : jl_MC} {E : jl_EC} {nx ce sl pc : Nat} {ls : List (Nat × Value)} {st : List Value} {σ : jl_Mm} {o : jl_O} {a b : Int} (d : decode M.2.1 pc = .ok (.lcmp, 1)) (k : jl_J lk G M E nx ce sl (pc + 1) ls (jl_vi (jl_lcmp a b) :: st) σ o) : jl_J lk G M E nx ce sl pc ls (jl_vl b :: jl_vl a :: st) σ o := by
  intro r τ ho p e s m args below meth c H locs la C X S L
  exact W.lcmp C.1 C.2.1 d (by have z := k r τ ho p e s m args below meth c H locs la C X S L; rwa [jl_lcmp, jl_vi_to] at z)
theorem jr_i2l {lk : jl_LK} {G : jl_GC} {M : jl_MC} {E : jl_EC} {nx ce sl pc : Nat} {ls : List (Nat × Value)} {st : List Value} {σ : jl_Mm} {o : jl_O} {a : Int} (d : decode M.2.1 pc = .ok (.i2l, 1)) (ha : jl_n3 a) (k : jl_J lk G M E nx ce sl (pc + 1) ls (jl_vl a :: st) σ o) : jl_J lk G M E nx ce sl pc ls (jl_vi a :: st) σ o := by
  intro r τ ho p e s m args below meth c H locs la C X S L
  exact lv_i2l C.1 C.2.1 d (jl_i2l ha) (k r τ ho p e s m args below meth c H locs la C X S L)
theorem jr_l2i {lk : jl_LK} {G : jl_GC} {M : jl_MC} {E : jl_EC} {nx ce sl pc : Nat} {ls : List (Nat × Value)} {st : List Value} {σ : jl_Mm} {o : jl_O} {a : Int} (d : decode M.2.1 pc = .ok (.l2i, 1)) (k : jl_J lk G M E nx ce sl (pc + 1) ls (jl_vi (jl_l2i a) :: st) σ o) : jl_J lk G M E nx ce sl pc ls (jl_vl a :: st) σ o := by
  intro r τ ho p e s m args below meth c H locs la C X S L
  exact lv_l2i C.1 C.2.1 d rfl (by have z := k r τ ho p e s m args below meth c H locs la C X S L; rwa [jl_l2i, jl_vi_to] at z)
theorem jr_iconst {lk : jl_LK} {G : jl_GC} {M : jl_MC} {E : jl_EC} {nx ce sl pc : Nat} {ls : List (Nat × Value)} {st : List Value} {σ : jl_Mm} {o : jl_O} {n : Int} (d : decode M.2.1 pc = .ok (.iconst n, 1)) (k : jl_J lk G M E nx ce sl (pc + 1) ls (jl_vi n :: st) σ o) : jl_J lk G M E nx ce sl pc ls (st) σ o := by
  intro r τ ho p e s m args below meth c H locs la C X S L
  exact lv_iconst C.1 C.2.1 d rfl (k r τ ho p e s m args below meth c H locs la C X S L)
theorem jr_bipush {lk : jl_LK} {G : jl_GC} {M : jl_MC} {E : jl_EC} {nx ce sl pc : Nat} {ls : List (Nat × Value)} {st : List Value} {σ : jl_Mm} {o : jl_O} {n : Int} (d : decode M.2.1 pc = .ok (.bipush n, 2)) (hn : (Int8.ofInt n).toInt32 = jl_i3 n) (k : jl_J lk G M E nx ce sl (pc + 2) ls (jl_vi n :: st) σ o) : jl_J lk G M E nx ce sl pc ls (st) σ o := by
  intro r τ ho p e s m args below meth c H locs la C X S L
  exact lv_bipush C.1 C.2.1 d hn (k r τ ho p e s m args below meth c H locs la C X S L)
theorem jr_sipush {lk : jl_LK} {G : jl_GC} {M : jl_MC} {E : jl_EC} {nx ce sl pc : Nat} {ls : List (Nat × Value)} {st : List Value} {σ : jl_Mm} {o : jl_O} {n : Int} (d : decode M.2.1 pc = .ok (.sipush n, 3)) (hn : (Int16.ofInt n).toInt32 = jl_i3 n) (k : jl_J lk G M E nx ce sl (pc + 3) ls (jl_vi n :: st) σ o) : jl_J lk G M E nx ce sl pc ls (st) σ o := by
  intro r τ ho p e s m args below meth c H locs la C X S L
  exact lv_sipush C.1 C.2.1 d hn (k r τ ho p e s m args below meth c H locs la C X S L)
theorem jr_lconst {lk : jl_LK} {G : jl_GC} {M : jl_MC} {E : jl_EC} {nx ce sl pc : Nat} {ls : List (Nat × Value)} {st : List Value} {σ : jl_Mm} {o : jl_O} {n : Fin 2} {v : Int} (d : decode M.2.1 pc = .ok (.lconst n, 1)) (hv : Int64.ofNat (n : Nat) = jl_i6 v) (k : jl_J lk G M E nx ce sl (pc + 1) ls (jl_vl v :: st) σ o) : jl_J lk G M E nx ce sl pc ls (st) σ o := by
  intro r τ ho p e s m args below meth c H locs la C X S L
  exact lv_lconst C.1 C.2.1 d hv (k r τ ho p e s m args below meth c H locs la C X S L)
theorem jr_ldc {lk : jl_LK} {G : jl_GC} {M : jl_MC} {E : jl_EC} {nx ce sl pc : Nat} {ls : List (Nat × Value)} {st : List Value} {σ : jl_Mm} {o : jl_O} {n : Nat} {v : Int} {u : Int32} (d : decode M.2.1 pc = .ok (.ldc n, 2)) (hw : Jvm.Cond.constant M.1.cls n u ∈ jl_tbl) (hv : u = jl_i3 v) (k : jl_J lk G M E nx ce sl (pc + 2) ls (jl_vi v :: st) σ o) : jl_J lk G M E nx ce sl pc ls (st) σ o := by
  intro r τ ho p e s m args below meth c H locs la C X S L
  subst hv; exact lv_ldc C.1 C.2.1 C.2.2.2.2.1 (C.2.2.2.2.2.1 _ hw) d (k r τ ho p e s m args below meth c H locs la C X S L)
theorem jr_ldc_w {lk : jl_LK} {G : jl_GC} {M : jl_MC} {E : jl_EC} {nx ce sl pc : Nat} {ls : List (Nat × Value)} {st : List Value} {σ : jl_Mm} {o : jl_O} {n : Nat} {v : Int} {u : Int32} (d : decode M.2.1 pc = .ok (.ldc_w n, 3)) (hw : Jvm.Cond.constant M.1.cls n u ∈ jl_tbl) (hv : u = jl_i3 v) (k : jl_J lk G M E nx ce sl (pc + 3) ls (jl_vi v :: st) σ o) : jl_J lk G M E nx ce sl pc ls (st) σ o := by
  intro r τ ho p e s m args below meth c H locs la C X S L
  subst hv; exact lv_ldcw C.1 C.2.1 C.2.2.2.2.1 (C.2.2.2.2.2.1 _ hw) d (k r τ ho p e s m args below meth c H locs la C X S L)
theorem jr_ldc2_w {lk : jl_LK} {G : jl_GC} {M : jl_MC} {E : jl_EC} {nx ce sl pc : Nat} {ls : List (Nat × Value)} {st : List Value} {σ : jl_Mm} {o : jl_O} {n : Nat} {v : Int} {u : Int64} (d : decode M.2.1 pc = .ok (.ldc2_w n, 3)) (hw : Jvm.Cond.constantLong M.1.cls n u ∈ jl_tbl) (hv : u = jl_i6 v) (k : jl_J lk G M E nx ce sl (pc + 3) ls (jl_vl v :: st) σ o) : jl_J lk G M E nx ce sl pc ls (st) σ o := by
  intro r τ ho p e s m args below meth c H locs la C X S L
  subst hv; exact lv_ldc2 C.1 C.2.1 C.2.2.2.2.1 (C.2.2.2.2.2.1 _ hw) d (k r τ ho p e s m args below meth c H locs la C X S L)
theorem jr_iload_n {lk : jl_LK} {G : jl_GC} {M : jl_MC} {E : jl_EC} {nx ce sl pc : Nat} {ls : List (Nat × Value)} {st : List Value} {σ : jl_Mm} {o : jl_O} {q : Fin 4} {x : Int32} (d : decode M.2.1 pc = .ok (.iload_n q, 1)) (j : Nat) (h : ls[j]? = some ((q : Nat), .int x)) (k : jl_J lk G M E nx ce sl (pc + 1) ls (.int x :: st) σ o) : jl_J lk G M E nx ce sl pc ls (st) σ o := by
  intro r τ ho p e s m args below meth c H locs la C X S L
  exact lv_iload_n C.1 C.2.1 d rfl (lv_at L j h) (k r τ ho p e s m args below meth c H locs la C X S L)
theorem jr_iload {lk : jl_LK} {G : jl_GC} {M : jl_MC} {E : jl_EC} {nx ce sl pc : Nat} {ls : List (Nat × Value)} {st : List Value} {σ : jl_Mm} {o : jl_O} {q : Nat} {x : Int32} (d : decode M.2.1 pc = .ok (.iload q, 2)) (j : Nat) (h : ls[j]? = some (q, .int x)) (k : jl_J lk G M E nx ce sl (pc + 2) ls (.int x :: st) σ o) : jl_J lk G M E nx ce sl pc ls (st) σ o := by
  intro r τ ho p e s m args below meth c H locs la C X S L
  exact lv_iload C.1 C.2.1 d (lv_at L j h) (k r τ ho p e s m args below meth c H locs la C X S L)
theorem jr_istore_n {lk : jl_LK} {G : jl_GC} {M : jl_MC} {E : jl_EC} {nx ce sl pc : Nat} {ls : List (Nat × Value)} {st : List Value} {σ : jl_Mm} {o : jl_O} {q : Fin 4} {i : Nat} {x : Int32} {lv : List (Nat × Value)} (d : decode M.2.1 pc = .ok (.istore_n q, 1)) (hi : (q : Nat) = i) (hn : i < M.2.2.1) (hl : (i, Value.int x) :: ls.filter (fun q => !(q.1 == i) && !(q.1 + 1 == i && q.2.category == 2)) = lv) (k : jl_J lk G M E nx ce sl (pc + 1) lv st σ o) : jl_J lk G M E nx ce sl pc ls (.int x :: st) σ o := by
  intro r τ ho p e s m args below meth c H locs la C X S L
  exact lv_istore_n C.1 C.2.1 d hi L hn hl (fun la L => k r τ ho p e s m args below meth c H locs la C X S L)
theorem jr_istore {lk : jl_LK} {G : jl_GC} {M : jl_MC} {E : jl_EC} {nx ce sl pc : Nat} {ls : List (Nat × Value)} {st : List Value} {σ : jl_Mm} {o : jl_O} {i : Nat} {x : Int32} {lv : List (Nat × Value)} (d : decode M.2.1 pc = .ok (.istore i, 2)) (hn : i < M.2.2.1) (hl : (i, Value.int x) :: ls.filter (fun q => !(q.1 == i) && !(q.1 + 1 == i && q.2.category == 2)) = lv) (k : jl_J lk G M E nx ce sl (pc + 2) lv st σ o) : jl_J lk G M E nx ce sl pc ls (.int x :: st) σ o := by
  intro r τ ho p e s m args below meth c H locs la C X S L
  exact lv_istore C.1 C.2.1 d L hn hl (fun la L => k r τ ho p e s m args below meth c H locs la C X S L)
theorem jr_lload_n {lk : jl_LK} {G : jl_GC} {M : jl_MC} {E : jl_EC} {nx ce sl pc : Nat} {ls : List (Nat × Value)} {st : List Value} {σ : jl_Mm} {o : jl_O} {q : Fin 4} {x : Int64} (d : decode M.2.1 pc = .ok (.lload_n q, 1)) (j : Nat) (h : ls[j]? = some ((q : Nat), .long x)) (k : jl_J lk G M E nx ce sl (pc + 1) ls (.long x :: st) σ o) : jl_J lk G M E nx ce sl pc ls (st) σ o := by
  intro r τ ho p e s m args below meth c H locs la C X S L
  exact lv_lload_n C.1 C.2.1 d rfl (lv_at L j h) (k r τ ho p e s m args below meth c H locs la C X S L)
theorem jr_lload {lk : jl_LK} {G : jl_GC} {M : jl_MC} {E : jl_EC} {nx ce sl pc : Nat} {ls : List (Nat × Value)} {st : List Value} {σ : jl_Mm} {o : jl_O} {q : Nat} {x : Int64} (d : decode M.2.1 pc = .ok (.lload q, 2)) (j : Nat) (h : ls[j]? = some (q, .long x)) (k : jl_J lk G M E nx ce sl (pc + 2) ls (.long x :: st) σ o) : jl_J lk G M E nx ce sl pc ls (st) σ o := by
  intro r τ ho p e s m args below meth c H locs la C X S L
  exact lv_lload C.1 C.2.1 d (lv_at L j h) (k r τ ho p e s m args below meth c H locs la C X S L)
theorem jr_lstore_n {lk : jl_LK} {G : jl_GC} {M : jl_MC} {E : jl_EC} {nx ce sl pc : Nat} {ls : List (Nat × Value)} {st : List Value} {σ : jl_Mm} {o : jl_O} {q : Fin 4} {i : Nat} {x : Int64} {lv : List (Nat × Value)} (d : decode M.2.1 pc = .ok (.lstore_n q, 1)) (hi : (q : Nat) = i) (hn : i + 1 < M.2.2.1) (hl : (i, Value.long x) :: ls.filter (fun q => !(q.1 == i) && (!(q.1 == i + 1) && !(q.1 + 1 == i && q.2.category == 2))) = lv) (k : jl_J lk G M E nx ce sl (pc + 1) lv st σ o) : jl_J lk G M E nx ce sl pc ls (.long x :: st) σ o := by
  intro r τ ho p e s m args below meth c H locs la C X S L
  exact lv_lstore_n C.1 C.2.1 d hi L hn hl (fun la L => k r τ ho p e s m args below meth c H locs la C X S L)
theorem jr_lstore {lk : jl_LK} {G : jl_GC} {M : jl_MC} {E : jl_EC} {nx ce sl pc : Nat} {ls : List (Nat × Value)} {st : List Value} {σ : jl_Mm} {o : jl_O} {i : Nat} {x : Int64} {lv : List (Nat × Value)} (d : decode M.2.1 pc = .ok (.lstore i, 2)) (hn : i + 1 < M.2.2.1) (hl : (i, Value.long x) :: ls.filter (fun q => !(q.1 == i) && (!(q.1 == i + 1) && !(q.1 + 1 == i && q.2.category == 2))) = lv) (k : jl_J lk G M E nx ce sl (pc + 2) lv st σ o) : jl_J lk G M E nx ce sl pc ls (.long x :: st) σ o := by
  intro r τ ho p e s m args below meth c H locs la C X S L
  exact lv_lstore C.1 C.2.1 d L hn hl (fun la L => k r τ ho p e s m args below meth c H locs la C X S L)
theorem jr_aload_n {lk : jl_LK} {G : jl_GC} {M : jl_MC} {E : jl_EC} {nx ce sl pc : Nat} {ls : List (Nat × Value)} {st : List Value} {σ : jl_Mm} {o : jl_O} {q : Fin 4} {x : Nat} (d : decode M.2.1 pc = .ok (.aload_n q, 1)) (j : Nat) (h : ls[j]? = some ((q : Nat), .ref x)) (k : jl_J lk G M E nx ce sl (pc + 1) ls (.ref x :: st) σ o) : jl_J lk G M E nx ce sl pc ls (st) σ o := by
  intro r τ ho p e s m args below meth c H locs la C X S L
  exact lv_aload_n C.1 C.2.1 d rfl (lv_at L j h) (k r τ ho p e s m args below meth c H locs la C X S L)
theorem jr_aload {lk : jl_LK} {G : jl_GC} {M : jl_MC} {E : jl_EC} {nx ce sl pc : Nat} {ls : List (Nat × Value)} {st : List Value} {σ : jl_Mm} {o : jl_O} {q : Nat} {x : Nat} (d : decode M.2.1 pc = .ok (.aload q, 2)) (j : Nat) (h : ls[j]? = some (q, .ref x)) (k : jl_J lk G M E nx ce sl (pc + 2) ls (.ref x :: st) σ o) : jl_J lk G M E nx ce sl pc ls (st) σ o := by
  intro r τ ho p e s m args below meth c H locs la C X S L
  exact lv_aload C.1 C.2.1 d (lv_at L j h) (k r τ ho p e s m args below meth c H locs la C X S L)
theorem jr_astore_n {lk : jl_LK} {G : jl_GC} {M : jl_MC} {E : jl_EC} {nx ce sl pc : Nat} {ls : List (Nat × Value)} {st : List Value} {σ : jl_Mm} {o : jl_O} {q : Fin 4} {i : Nat} {x : Nat} {lv : List (Nat × Value)} (d : decode M.2.1 pc = .ok (.astore_n q, 1)) (hi : (q : Nat) = i) (hn : i < M.2.2.1) (hl : (i, Value.ref x) :: ls.filter (fun q => !(q.1 == i) && !(q.1 + 1 == i && q.2.category == 2)) = lv) (k : jl_J lk G M E nx ce sl (pc + 1) lv st σ o) : jl_J lk G M E nx ce sl pc ls (.ref x :: st) σ o := by
  intro r τ ho p e s m args below meth c H locs la C X S L
  exact lv_astore_n C.1 C.2.1 d hi L hn hl (fun la L => k r τ ho p e s m args below meth c H locs la C X S L)
theorem jr_astore {lk : jl_LK} {G : jl_GC} {M : jl_MC} {E : jl_EC} {nx ce sl pc : Nat} {ls : List (Nat × Value)} {st : List Value} {σ : jl_Mm} {o : jl_O} {i : Nat} {x : Nat} {lv : List (Nat × Value)} (d : decode M.2.1 pc = .ok (.astore i, 2)) (hn : i < M.2.2.1) (hl : (i, Value.ref x) :: ls.filter (fun q => !(q.1 == i) && !(q.1 + 1 == i && q.2.category == 2)) = lv) (k : jl_J lk G M E nx ce sl (pc + 2) lv st σ o) : jl_J lk G M E nx ce sl pc ls (.ref x :: st) σ o := by
  intro r τ ho p e s m args below meth c H locs la C X S L
  exact lv_astore C.1 C.2.1 d L hn hl (fun la L => k r τ ho p e s m args below meth c H locs la C X S L)
theorem jr_iinc {lk : jl_LK} {G : jl_GC} {M : jl_MC} {E : jl_EC} {nx ce sl pc : Nat} {ls : List (Nat × Value)} {st : List Value} {σ : jl_Mm} {o : jl_O} {i j : Nat} {n a : Int} {lv : List (Nat × Value)} (d : decode M.2.1 pc = .ok (.iinc i n, 3)) (h : ls[j]? = some (i, jl_vi a)) (hn : i < M.2.2.1) (hl : (i, jl_vi (jl_add a n)) :: ls.filter (fun q => !(q.1 == i) && !(q.1 + 1 == i && q.2.category == 2)) = lv) (k : jl_J lk G M E nx ce sl (pc + 3) lv st σ o) : jl_J lk G M E nx ce sl pc ls st σ o := by
  intro r τ ho p e s m args below meth c H locs la C X S L
  rw [jl_add, jl_vi_to] at hl
  exact lv_iinc C.1 C.2.1 d L h rfl hn hl (fun la L => k r τ ho p e s m args below meth c H locs la C X S L)
theorem jr_dup {lk : jl_LK} {G : jl_GC} {M : jl_MC} {E : jl_EC} {nx ce sl pc : Nat} {ls : List (Nat × Value)} {st : List Value} {σ : jl_Mm} {o : jl_O} {v : Value} (d : decode M.2.1 pc = .ok (.dup, 1)) (hv : v.category = 1) (k : jl_J lk G M E nx ce sl (pc + 1) ls (v :: v :: st) σ o) : jl_J lk G M E nx ce sl pc ls (v :: st) σ o := by
  intro r τ ho p e s m args below meth c H locs la C X S L
  exact lv_dup C.1 C.2.1 d hv (k r τ ho p e s m args below meth c H locs la C X S L)
theorem jr_pop {lk : jl_LK} {G : jl_GC} {M : jl_MC} {E : jl_EC} {nx ce sl pc : Nat} {ls : List (Nat × Value)} {st : List Value} {σ : jl_Mm} {o : jl_O} {v : Value} (d : decode M.2.1 pc = .ok (.pop, 1)) (hv : v.category = 1) (k : jl_J lk G M E nx ce sl (pc + 1) ls (st) σ o) : jl_J lk G M E nx ce sl pc ls (v :: st) σ o := by
  intro r τ ho p e s m args below meth c H locs la C X S L
  exact lv_pop C.1 C.2.1 d hv (k r τ ho p e s m args below meth c H locs la C X S L)
theorem jr_dup_x1 {lk : jl_LK} {G : jl_GC} {M : jl_MC} {E : jl_EC} {nx ce sl pc : Nat} {ls : List (Nat × Value)} {st : List Value} {σ : jl_Mm} {o : jl_O} {v u : Value} (d : decode M.2.1 pc = .ok (.dup_x1, 1)) (hv : v.category = 1) (hu : u.category = 1) (k : jl_J lk G M E nx ce sl (pc + 1) ls (v :: u :: v :: st) σ o) : jl_J lk G M E nx ce sl pc ls (v :: u :: st) σ o := by
  intro r τ ho p e s m args below meth c H locs la C X S L
  exact lv_dup_x1 C.1 C.2.1 d hv hu (k r τ ho p e s m args below meth c H locs la C X S L)
theorem jr_dup2_11 {lk : jl_LK} {G : jl_GC} {M : jl_MC} {E : jl_EC} {nx ce sl pc : Nat} {ls : List (Nat × Value)} {st : List Value} {σ : jl_Mm} {o : jl_O} {v u : Value} (d : decode M.2.1 pc = .ok (.dup2, 1)) (hv : v.category = 1) (hu : u.category = 1) (k : jl_J lk G M E nx ce sl (pc + 1) ls (v :: u :: v :: u :: st) σ o) : jl_J lk G M E nx ce sl pc ls (v :: u :: st) σ o := by
  intro r τ ho p e s m args below meth c H locs la C X S L
  exact lv_dup2_11 C.1 C.2.1 d hv hu (k r τ ho p e s m args below meth c H locs la C X S L)
theorem jr_dup2_2 {lk : jl_LK} {G : jl_GC} {M : jl_MC} {E : jl_EC} {nx ce sl pc : Nat} {ls : List (Nat × Value)} {st : List Value} {σ : jl_Mm} {o : jl_O} {v : Value} (d : decode M.2.1 pc = .ok (.dup2, 1)) (hv : v.category = 2) (k : jl_J lk G M E nx ce sl (pc + 1) ls (v :: v :: st) σ o) : jl_J lk G M E nx ce sl pc ls (v :: st) σ o := by
  intro r τ ho p e s m args below meth c H locs la C X S L
  exact lv_dup2_2 C.1 C.2.1 d hv (k r τ ho p e s m args below meth c H locs la C X S L)
theorem jr_icmp_eq {lk : jl_LK} {G : jl_GC} {M : jl_MC} {E : jl_EC} {nx ce sl pc : Nat} {ls : List (Nat × Value)} {st : List Value} {σ : jl_Mm} {o1 o2 : jl_O} {a b f : Int} {t : Nat} (d : decode M.2.1 pc = .ok (.if_icmp .eq f, 3)) (ht : (pc : Int) + f = (t : Int)) (ha : jl_n3 a) (hb : jl_n3 b)  (kt : a = b → jl_J lk G M E nx ce sl t ls st σ o1) (kf : ¬ (a = b) → jl_J lk G M E nx ce sl (pc + 3) ls st σ o2) : jl_J lk G M E nx ce sl pc ls (jl_vi b :: jl_vi a :: st) σ (if a = b then o1 else o2) := by
  intro r τ ho p e s m args below meth c H locs la C X S L
  refine lv_icmp_eq C.1 C.2.1 d ht (fun q => ?_) (fun q => ?_)
  · have q := (jl_eq3 ha hb).mp q
    rw [if_pos q] at ho
    exact kt q r τ ho p e s m args below meth c H locs la C X S L
  · have q : ¬ (a = b) := fun z => q ((jl_eq3 ha hb).mpr z)
    rw [if_neg q] at ho
    exact kf q r τ ho p e s m args below meth c H locs la C X S L
theorem jr_if_eq {lk : jl_LK} {G : jl_GC} {M : jl_MC} {E : jl_EC} {nx ce sl pc : Nat} {ls : List (Nat × Value)} {st : List Value} {σ : jl_Mm} {o1 o2 : jl_O} {a f : Int} {t : Nat} (d : decode M.2.1 pc = .ok (.ifCond .eq f, 3)) (ht : (pc : Int) + f = (t : Int)) (ha : jl_n3 a)  (kt : a = 0 → jl_J lk G M E nx ce sl t ls st σ o1) (kf : ¬ (a = 0) → jl_J lk G M E nx ce sl (pc + 3) ls st σ o2) : jl_J lk G M E nx ce sl pc ls (jl_vi a :: st) σ (if a = 0 then o1 else o2) := by
  intro r τ ho p e s m args below meth c H locs la C X S L
  refine lv_if_eq C.1 C.2.1 d ht (fun q => ?_) (fun q => ?_)
  · have q := (jl_eq3 ha jl_n3_0).mp q
    rw [if_pos q] at ho
    exact kt q r τ ho p e s m args below meth c H locs la C X S L
  · have q : ¬ (a = 0) := fun z => q ((jl_eq3 ha jl_n3_0).mpr z)
    rw [if_neg q] at ho
    exact kf q r τ ho p e s m args below meth c H locs la C X S L
theorem jr_icmp_lt {lk : jl_LK} {G : jl_GC} {M : jl_MC} {E : jl_EC} {nx ce sl pc : Nat} {ls : List (Nat × Value)} {st : List Value} {σ : jl_Mm} {o1 o2 : jl_O} {a b f : Int} {t : Nat} (d : decode M.2.1 pc = .ok (.if_icmp .lt f, 3)) (ht : (pc : Int) + f = (t : Int)) (ha : jl_n3 a) (hb : jl_n3 b)  (kt : a < b → jl_J lk G M E nx ce sl t ls st σ o1) (kf : ¬ (a < b) → jl_J lk G M E nx ce sl (pc + 3) ls st σ o2) : jl_J lk G M E nx ce sl pc ls (jl_vi b :: jl_vi a :: st) σ (if a < b then o1 else o2) := by
  intro r τ ho p e s m args below meth c H locs la C X S L
  refine lv_icmp_lt C.1 C.2.1 d ht (fun q => ?_) (fun q => ?_)
  · have q := (jl_lt3 ha hb).mp q
    rw [if_pos q] at ho
    exact kt q r τ ho p e s m args below meth c H locs la C X S L
  · have q : ¬ (a < b) := fun z => q ((jl_lt3 ha hb).mpr z)
    rw [if_neg q] at ho
    exact kf q r τ ho p e s m args below meth c H locs la C X S L
theorem jr_if_lt {lk : jl_LK} {G : jl_GC} {M : jl_MC} {E : jl_EC} {nx ce sl pc : Nat} {ls : List (Nat × Value)} {st : List Value} {σ : jl_Mm} {o1 o2 : jl_O} {a f : Int} {t : Nat} (d : decode M.2.1 pc = .ok (.ifCond .lt f, 3)) (ht : (pc : Int) + f = (t : Int)) (ha : jl_n3 a)  (kt : a < 0 → jl_J lk G M E nx ce sl t ls st σ o1) (kf : ¬ (a < 0) → jl_J lk G M E nx ce sl (pc + 3) ls st σ o2) : jl_J lk G M E nx ce sl pc ls (jl_vi a :: st) σ (if a < 0 then o1 else o2) := by
  intro r τ ho p e s m args below meth c H locs la C X S L
  refine lv_if_lt C.1 C.2.1 d ht (fun q => ?_) (fun q => ?_)
  · have q := (jl_lt3 ha jl_n3_0).mp q
    rw [if_pos q] at ho
    exact kt q r τ ho p e s m args below meth c H locs la C X S L
  · have q : ¬ (a < 0) := fun z => q ((jl_lt3 ha jl_n3_0).mpr z)
    rw [if_neg q] at ho
    exact kf q r τ ho p e s m args below meth c H locs la C X S L
theorem jr_icmp_ge {lk : jl_LK} {G : jl_GC} {M : jl_MC} {E : jl_EC} {nx ce sl pc : Nat} {ls : List (Nat × Value)} {st : List Value} {σ : jl_Mm} {o1 o2 : jl_O} {a b f : Int} {t : Nat} (d : decode M.2.1 pc = .ok (.if_icmp .ge f, 3)) (ht : (pc : Int) + f = (t : Int)) (ha : jl_n3 a) (hb : jl_n3 b)  (kt : b ≤ a → jl_J lk G M E nx ce sl t ls st σ o1) (kf : ¬ (b ≤ a) → jl_J lk G M E nx ce sl (pc + 3) ls st σ o2) : jl_J lk G M E nx ce sl pc ls (jl_vi b :: jl_vi a :: st) σ (if b ≤ a then o1 else o2) := by
  intro r τ ho p e s m args below meth c H locs la C X S L
  refine lv_icmp_ge C.1 C.2.1 d ht (fun q => ?_) (fun q => ?_)
  · have q := (jl_le3 hb ha).mp q
    rw [if_pos q] at ho
    exact kt q r τ ho p e s m args below meth c H locs la C X S L
  · have q : ¬ (b ≤ a) := fun z => q ((jl_le3 hb ha).mpr z)
    rw [if_neg q] at ho
    exact kf q r τ ho p e s m args below meth c H locs la C X S L
theorem jr_if_ge {lk : jl_LK} {G : jl_GC} {M : jl_MC} {E : jl_EC} {nx ce sl pc : Nat} {ls : List (Nat × Value)} {st : List Value} {σ : jl_Mm} {o1 o2 : jl_O} {a f : Int} {t : Nat} (d : decode M.2.1 pc = .ok (.ifCond .ge f, 3)) (ht : (pc : Int) + f = (t : Int)) (ha : jl_n3 a)  (kt : 0 ≤ a → jl_J lk G M E nx ce sl t ls st σ o1) (kf : ¬ (0 ≤ a) → jl_J lk G M E nx ce sl (pc + 3) ls st σ o2) : jl_J lk G M E nx ce sl pc ls (jl_vi a :: st) σ (if 0 ≤ a then o1 else o2) := by
  intro r τ ho p e s m args below meth c H locs la C X S L
  refine lv_if_ge C.1 C.2.1 d ht (fun q => ?_) (fun q => ?_)
  · have q := (jl_le3 jl_n3_0 ha).mp q
    rw [if_pos q] at ho
    exact kt q r τ ho p e s m args below meth c H locs la C X S L
  · have q : ¬ (0 ≤ a) := fun z => q ((jl_le3 jl_n3_0 ha).mpr z)
    rw [if_neg q] at ho
    exact kf q r τ ho p e s m args below meth c H locs la C X S L
theorem jr_icmp_gt {lk : jl_LK} {G : jl_GC} {M : jl_MC} {E : jl_EC} {nx ce sl pc : Nat} {ls : List (Nat × Value)} {st : List Value} {σ : jl_Mm} {o1 o2 : jl_O} {a b f : Int} {t : Nat} (d : decode M.2.1 pc = .ok (.if_icmp .gt f, 3)) (ht : (pc : Int) + f = (t : Int)) (ha : jl_n3 a) (hb : jl_n3 b)  (kt : b < a → jl_J lk G M E nx ce sl t ls st σ o1) (kf : ¬ (b < a) → jl_J lk G M E nx ce sl (pc + 3) ls st σ o2) : jl_J lk G M E nx ce sl pc ls (jl_vi b :: jl_vi a :: st) σ (if b < a then o1 else o2) := by
  intro r τ ho p e s m args below meth c H locs la C X S L
  refine lv_icmp_gt C.1 C.2.1 d ht (fun q => ?_) (fun q => ?_)
  · have q := (jl_lt3 hb ha).mp q
    rw [if_pos q] at ho
    exact kt q r τ ho p e s m args below meth c H locs la C X S L
  · have q : ¬ (b < a) := fun z => q ((jl_lt3 hb ha).mpr z)
    rw [if_neg q] at ho
    exact kf q r τ ho p e s m args below meth c H locs la C X S L
theorem jr_if_gt {lk : jl_LK} {G : jl_GC} {M : jl_MC} {E : jl_EC} {nx ce sl pc : Nat} {ls : List (Nat × Value)} {st : List Value} {σ : jl_Mm} {o1 o2 : jl_O} {a f : Int} {t : Nat} (d : decode M.2.1 pc = .ok (.ifCond .gt f, 3)) (ht : (pc : Int) + f = (t : Int)) (ha : jl_n3 a)  (kt : 0 < a → jl_J lk G M E nx ce sl t ls st σ o1) (kf : ¬ (0 < a) → jl_J lk G M E nx ce sl (pc + 3) ls st σ o2) : jl_J lk G M E nx ce sl pc ls (jl_vi a :: st) σ (if 0 < a then o1 else o2) := by
  intro r τ ho p e s m args below meth c H locs la C X S L
  refine lv_if_gt C.1 C.2.1 d ht (fun q => ?_) (fun q => ?_)
  · have q := (jl_lt3 jl_n3_0 ha).mp q
    rw [if_pos q] at ho
    exact kt q r τ ho p e s m args below meth c H locs la C X S L
  · have q : ¬ (0 < a) := fun z => q ((jl_lt3 jl_n3_0 ha).mpr z)
    rw [if_neg q] at ho
    exact kf q r τ ho p e s m args below meth c H locs la C X S L
theorem jr_icmp_le {lk : jl_LK} {G : jl_GC} {M : jl_MC} {E : jl_EC} {nx ce sl pc : Nat} {ls : List (Nat × Value)} {st : List Value} {σ : jl_Mm} {o1 o2 : jl_O} {a b f : Int} {t : Nat} (d : decode M.2.1 pc = .ok (.if_icmp .le f, 3)) (ht : (pc : Int) + f = (t : Int)) (ha : jl_n3 a) (hb : jl_n3 b)  (kt : a ≤ b → jl_J lk G M E nx ce sl t ls st σ o1) (kf : ¬ (a ≤ b) → jl_J lk G M E nx ce sl (pc + 3) ls st σ o2) : jl_J lk G M E nx ce sl pc ls (jl_vi b :: jl_vi a :: st) σ (if a ≤ b then o1 else o2) := by
  intro r τ ho p e s m args below meth c H locs la C X S L
  refine lv_icmp_le C.1 C.2.1 d ht (fun q => ?_) (fun q => ?_)
  · have q := (jl_le3 ha hb).mp q
    rw [if_pos q] at ho
    exact kt q r τ ho p e s m args below meth c H locs la C X S L
  · have q : ¬ (a ≤ b) := fun z => q ((jl_le3 ha hb).mpr z)
    rw [if_neg q] at ho
    exact kf q r τ ho p e s m args below meth c H locs la C X S L
theorem jr_if_le {lk : jl_LK} {G : jl_GC} {M : jl_MC} {E : jl_EC} {nx ce sl pc : Nat} {ls : List (Nat × Value)} {st : List Value} {σ : jl_Mm} {o1 o2 : jl_O} {a f : Int} {t : Nat} (d : decode M.2.1 pc = .ok (.ifCond .le f, 3)) (ht : (pc : Int) + f = (t : Int)) (ha : jl_n3 a)  (kt : a ≤ 0 → jl_J lk G M E nx ce sl t ls st σ o1) (kf : ¬ (a ≤ 0) → jl_J lk G M E nx ce sl (pc + 3) ls st σ o2) : jl_J lk G M E nx ce sl pc ls (jl_vi a :: st) σ (if a ≤ 0 then o1 else o2) := by
  intro r τ ho p e s m args below meth c H locs la C X S L
  refine lv_if_le C.1 C.2.1 d ht (fun q => ?_) (fun q => ?_)
  · have q := (jl_le3 ha jl_n3_0).mp q
    rw [if_pos q] at ho
    exact kt q r τ ho p e s m args below meth c H locs la C X S L
  · have q : ¬ (a ≤ 0) := fun z => q ((jl_le3 ha jl_n3_0).mpr z)
    rw [if_neg q] at ho
    exact kf q r τ ho p e s m args below meth c H locs la C X S L
theorem jr_icmp_ne {lk : jl_LK} {G : jl_GC} {M : jl_MC} {E : jl_EC} {nx ce sl pc : Nat} {ls : List (Nat × Value)} {st : List Value} {σ : jl_Mm} {o1 o2 : jl_O} {a b f : Int} {t : Nat} (d : decode M.2.1 pc = .ok (.if_icmp .ne f, 3)) (ht : (pc : Int) + f = (t : Int)) (ha : jl_n3 a) (hb : jl_n3 b)  (kf : a = b → jl_J lk G M E nx ce sl (pc + 3) ls st σ o1) (kt : ¬ (a = b) → jl_J lk G M E nx ce sl t ls st σ o2) : jl_J lk G M E nx ce sl pc ls (jl_vi b :: jl_vi a :: st) σ (if a = b then o1 else o2) := by
  intro r τ ho p e s m args below meth c H locs la C X S L
  refine lv_icmp_ne C.1 C.2.1 d ht (fun q => ?_) (fun q => ?_)
  · have q : ¬ (a = b) := fun z => by exact absurd ((jl_eq3 ha hb).mpr z) (by simpa [jl_i3_0] using q)
    rw [if_neg q] at ho
    exact kt q r τ ho p e s m args below meth c H locs la C X S L
  · have q := (jl_eq3 ha hb).mp (by simpa [jl_i3_0] using q)
    rw [if_pos q] at ho
    exact kf q r τ ho p e s m args below meth c H locs la C X S L
theorem jr_if_ne {lk : jl_LK} {G : jl_GC} {M : jl_MC} {E : jl_EC} {nx ce sl pc : Nat} {ls : List (Nat × Value)} {st : List Value} {σ : jl_Mm} {o1 o2 : jl_O} {a f : Int} {t : Nat} (d : decode M.2.1 pc = .ok (.ifCond .ne f, 3)) (ht : (pc : Int) + f = (t : Int)) (ha : jl_n3 a)  (kf : a = 0 → jl_J lk G M E nx ce sl (pc + 3) ls st σ o1) (kt : ¬ (a = 0) → jl_J lk G M E nx ce sl t ls st σ o2) : jl_J lk G M E nx ce sl pc ls (jl_vi a :: st) σ (if a = 0 then o1 else o2) := by
  intro r τ ho p e s m args below meth c H locs la C X S L
  refine lv_if_ne C.1 C.2.1 d ht (fun q => ?_) (fun q => ?_)
  · have q : ¬ (a = 0) := fun z => by exact absurd ((jl_eq3 ha jl_n3_0).mpr z) (by simpa [jl_i3_0] using q)
    rw [if_neg q] at ho
    exact kt q r τ ho p e s m args below meth c H locs la C X S L
  · have q := (jl_eq3 ha jl_n3_0).mp (by simpa [jl_i3_0] using q)
    rw [if_pos q] at ho
    exact kf q r τ ho p e s m args below meth c H locs la C X S L
theorem jr_goto {lk : jl_LK} {G : jl_GC} {M : jl_MC} {E : jl_EC} {nx ce sl pc : Nat} {ls : List (Nat × Value)} {st : List Value} {σ : jl_Mm} {o : jl_O} {f : Int} {t : Nat} (d : decode M.2.1 pc = .ok (.goto f, 3)) (ht : (pc : Int) + f = (t : Int)) (k : jl_J lk G M E nx ce sl t ls st σ o) : jl_J lk G M E nx ce sl pc ls st σ o := by
  intro r τ ho p e s m args below meth c H locs la C X S L
  exact lv_goto C.1 C.2.1 d ht (k r τ ho p e s m args below meth c H locs la C X S L)
theorem jr_sub {lk : jl_LK} {G : jl_GC} {M : jl_MC} {E : jl_EC} {nx ce sl pc : Nat} {ls : List (Nat × Value)} {st : List Value} {σ : jl_Mm} {o : jl_O} {lv : List (Nat × Value)} (ks : List Nat) (h : lv_pick ls ks = lv) (k : jl_J lk G M E nx ce sl pc lv st σ o) : jl_J lk G M E nx ce sl pc ls st σ o := by
  intro r τ ho p e s m args below meth c H locs la C X S L
  exact k r τ ho p e s m args below meth c H locs la C X S (lv_sub L ks h)
theorem jr_tabIn {lk : jl_LK} {G : jl_GC} {M : jl_MC} {E : jl_EC} {nx ce sl pc : Nat} {ls : List (Nat × Value)} {st : List Value} {σ : jl_Mm} {o : jl_O} {dflt lo hi off a : Int} {offs : Array Int} {len t : Nat} (d : decode M.2.1 pc = .ok (.tableswitch dflt lo hi offs, len)) (ha : jl_n3 a) (h1 : lo ≤ a) (h2 : a ≤ hi) (hf : offs[(a - lo).toNat]? = some off) (ht : (pc : Int) + off = (t : Int)) (k : jl_J lk G M E nx ce sl t ls st σ o) : jl_J lk G M E nx ce sl pc ls (jl_vi a :: st) σ o := by
  intro r τ ho p e s m args below meth c H locs la C X S L
  exact lv_tableIn C.1 C.2.1 d (by rw [jl_to_i3 ha]; omega) (by rw [jl_to_i3 ha]; omega) (by rw [jl_to_i3 ha]; exact hf) ht (k r τ ho p e s m args below meth c H locs la C X S L)
theorem jr_tabOut {lk : jl_LK} {G : jl_GC} {M : jl_MC} {E : jl_EC} {nx ce sl pc : Nat} {ls : List (Nat × Value)} {st : List Value} {σ : jl_Mm} {o : jl_O} {dflt lo hi a : Int} {offs : Array Int} {len t : Nat} (d : decode M.2.1 pc = .ok (.tableswitch dflt lo hi offs, len)) (ha : jl_n3 a) (h : a < lo ∨ hi < a) (ht : (pc : Int) + dflt = (t : Int)) (k : jl_J lk G M E nx ce sl t ls st σ o) : jl_J lk G M E nx ce sl pc ls (jl_vi a :: st) σ o := by
  intro r τ ho p e s m args below meth c H locs la C X S L
  exact lv_tableOut C.1 C.2.1 d (by rw [jl_to_i3 ha]; exact h) ht (k r τ ho p e s m args below meth c H locs la C X S L)
theorem jr_look {lk : jl_LK} {G : jl_GC} {M : jl_MC} {E : jl_EC} {nx ce sl pc : Nat} {ls : List (Nat × Value)} {st : List Value} {σ : jl_Mm} {o : jl_O} {dflt off a : Int} {ps : Array (Int × Int)} {len t : Nat} (d : decode M.2.1 pc = .ok (.lookupswitch dflt ps, len)) (ha : jl_n3 a) (hp : (ps.toList.zip (ps.toList.drop 1)).all (fun (a, next) => a.1 < next.1) = true) (hf : Op.lookupswitch.offset ps.toList dflt a = off) (ht : (pc : Int) + off = (t : Int)) (k : jl_J lk G M E nx ce sl t ls st σ o) : jl_J lk G M E nx ce sl pc ls (jl_vi a :: st) σ o := by
  intro r τ ho p e s m args below meth c H locs la C X S L
  exact lv_lookup C.1 C.2.1 d hp (by rw [jl_to_i3 ha]; exact hf) ht (k r τ ho p e s m args below meth c H locs la C X S L)
theorem jl_he {lk : jl_LK} {G : jl_GC} {σ : jl_Mm} {nx x ci n : Nat} (hx : x < nx) (hk : jl_kd x = (ci, n)) (h20 : ci < 20) : (jl_ws lk G σ nx)[x]? = some (G.2.2.2.2.1 x, .inr (ci, jl_fs G.2.2.2.2.1 lk x ci (σ x))) := by
  rw [jl_ws, jl_w_get hx, jl_en_o hk h20]
theorem jr_get {lk : jl_LK} {G : jl_GC} {M : jl_MC} {E : jl_EC} {nx ce sl pc : Nat} {ls : List (Nat × Value)} {st : List Value} {σ : jl_Mm} {o : jl_O} {x i idx n ci N : Nat} {Cn : String} {T : u_T} {ty : Nat → FieldType} (F : jl_CF ci Cn T N ty) (hk : jl_kd x = (ci, n)) (hx : x < nx) (hi : i < N) (hl : Cond.fieldLink M.1.cls idx (T i).1 (T i).2.1 (T i).2.2.1 ∈ jl_tbl) (d : decode M.2.1 pc = .ok (.getfield idx, 3)) (k : jl_J lk G M E nx ce sl (pc + 3) ls (jl_f1 G.2.2.2.2.1 lk x ci (σ x) i :: st) σ o) : jl_J lk G M E nx ce sl pc ls (jl_vr G x :: st) σ o := by
  intro r τ ho p e s m args below meth c H locs la C X S L
  exact va_get C.1 C.2.1 (Ts := jl_tbl) C.2.2.2.2.2.1 F.2.1 C.2.2.2.2.1 C.2.2.2.2.2.2.2.1.1 X.2.1 x (jl_he hx hk F.2.2.2.2.2) F.1 i hi (C.2.2.2.2.2.1 _ hl) (fun _ h => h) (jl_fs_get (by rw [← F.2.2.2.2.1]; exact hi)) d (k r τ ho p e s m args below meth c H locs la C X S L)
theorem jr_getN {lk : jl_LK} {G : jl_GC} {M : jl_MC} {E : jl_EC} {nx ce sl pc : Nat} {ls : List (Nat × Value)} {st : List Value} {σ : jl_Mm} {o : jl_O} {x i idx n ci N : Nat} {Cn host : String} {T : u_T} {ty : Nat → FieldType} (F : jl_CF ci Cn T N ty) (hk : jl_kd x = (ci, n)) (hx : x < nx) (hi : i < N) (hl : Cond.fieldLinkNest M.1.cls idx (T i).1 (T i).2.1 (T i).2.2.1 host ∈ jl_nw) (d : decode M.2.1 pc = .ok (.getfield idx, 3)) (k : jl_J lk G M E nx ce sl (pc + 3) ls (jl_f1 G.2.2.2.2.1 lk x ci (σ x) i :: st) σ o) : jl_J lk G M E nx ce sl pc ls (jl_vr G x :: st) σ o := by
  intro r τ ho p e s m args below meth c H locs la C X S L
  exact va_getN C.1 C.2.1 (Ts := jl_tbl) C.2.2.2.2.2.1 F.2.1 C.2.2.2.2.1 C.2.2.2.2.2.2.2.1.1 X.2.1 x (jl_he hx hk F.2.2.2.2.2) F.1 i hi (jl_nw_use hl (C.2.2.2.2.2.2.2.1.2.2.2.1 _ hl)) (fun _ h => h) (jl_fs_get (by rw [← F.2.2.2.2.1]; exact hi)) d (k r τ ho p e s m args below meth c H locs la C X S L)
theorem jl_f1_i {ad : Nat → Nat} {lk : jl_LK} {x ci i : Nat} {σ : jl_Mm} (h : lk x i = none) (ht : jl_ft ci i = 0) : jl_f1 ad lk x ci (σ x) i = jl_vi (jl_g σ x i) := by
  simp only [jl_f1, h, ht, jl_fv, jl_g, jl_vi, jl_i3, Int32.ofInt_toInt]
theorem jl_f1_l {ad : Nat → Nat} {lk : jl_LK} {x ci i : Nat} {σ : jl_Mm} (h : lk x i = none) (ht : jl_ft ci i = 1) : jl_f1 ad lk x ci (σ x) i = jl_vl (jl_gl σ x i) := by
  simp only [jl_f1, h, ht, jl_fv, jl_gl, jl_vl, jl_i6, Int64.ofInt_toInt]
theorem jl_f1_k {ad : Nat → Nat} {lk : jl_LK} {x ci i r : Nat} {f : Nat → Int} (h : lk x i = some r) : jl_f1 ad lk x ci f i = .ref (ad r) := by
  simp only [jl_f1, h]
theorem jl_f1_r {ad : Nat → Nat} {lk : jl_LK} {x ci i : Nat} {σ : jl_Mm} (h : lk x i = none) (ht : jl_ft ci i = 2) (h0 : 0 ≤ σ x i) : jl_f1 ad lk x ci (σ x) i = .ref (ad (jl_gr σ x i)) := by
  have h1 : ¬ σ x i < 0 := by omega
  simp only [jl_f1, h, ht, jl_fv, jl_gr, if_neg h1, va_rf]
theorem jl_ws_set {lk : jl_LK} {G : jl_GC} {σ τ : jl_Mm} {nx x : Nat} (h : ∀ c', c' ≠ x → τ c' = σ c') : (jl_ws lk G σ nx).set x (G.2.2.2.2.1 x, jl_en G.2.2.2.2.1 G.2.2.2.1 lk x (τ x)) = jl_ws lk G τ nx := jl_w_set h
theorem jl_en_up {ad : Nat → Nat} {cA : Nat → ClassId} {lk : jl_LK} {x ci n i : Nat} {σ : jl_Mm} {v : Int} (hk : jl_kd x = (ci, n)) (h20 : ci < 20) (hl : lk x i = none) : jl_en ad cA lk x (jl_up σ x i v x) = .inr (ci, (jl_fs ad lk x ci (σ x)).set i (jl_fv ad (jl_ft ci i) v)) := by
  rw [jl_en_o hk h20, jl_fs_set hl, jl_up_eq]
theorem jr_put {lk : jl_LK} {G : jl_GC} {M : jl_MC} {E : jl_EC} {nx ce sl pc : Nat} {ls : List (Nat × Value)} {st : List Value} {σ : jl_Mm} {o : jl_O} {x i idx n ci N : Nat} {v : Int} {Cn : String} {T : u_T} {ty : Nat → FieldType} (F : jl_CF ci Cn T N ty) (hk : jl_kd x = (ci, n)) (hx : x < nx) (hi : i < N) (h0 : lk x i = none) (hl : Cond.fieldLink M.1.cls idx (T i).1 (T i).2.1 (T i).2.2.1 ∈ jl_tbl) (hfin : (T i).2.2.2 = false) (hW : jl_isr x i = false ∨ v < (nx : Int)) (hn : narrow (ty i) (jl_fv G.2.2.2.2.1 (jl_ft ci i) v) = jl_fv G.2.2.2.2.1 (jl_ft ci i) v) (hfit : fits (ty i) (jl_fv G.2.2.2.2.1 (jl_ft ci i) v) = true) (d : decode M.2.1 pc = .ok (.putfield idx, 3)) (k : jl_J lk G M E nx ce sl (pc + 3) ls st (jl_up σ x i v) o) : jl_J lk G M E nx ce sl pc ls (jl_fv G.2.2.2.2.1 (jl_ft ci i) v :: jl_vr G x :: st) σ o := by
  intro r τ ho p e s m args below meth c H locs la C X S L
  have hK := C.2.2.2.2.2.2.2.1.1
  refine va_put C.1 C.2.1 (Ts := jl_tbl) C.2.2.2.2.2.1 F.2.1 ty F.2.2.1 F.2.2.2.1 C.2.2.2.2.1 hK X.2.1 X.1 S x (jl_he hx hk F.2.2.2.2.2) F.1 i hi (C.2.2.2.2.2.1 _ hl) (fun _ h => h) hfin (F.2.2.1 i hi) hn hfit (by rw [jl_fs_len, ← F.2.2.2.2.1]; exact hi) d (fun H locs hP hD S => ?_)
  rw [← jl_en_up (cA := G.2.2.2.1) (σ := σ) hk F.2.2.2.2.2 h0, jl_ws_set (fun c' h => jl_up_ne c' h)] at hP hD
  have X : jl_R lk G (jl_up σ x i v) nx H := ⟨hD, hP, X.2.2.up hW⟩
  exact k r τ ho p e s m args below meth c H locs la C X S L
theorem jr_putN {lk : jl_LK} {G : jl_GC} {M : jl_MC} {E : jl_EC} {nx ce sl pc : Nat} {ls : List (Nat × Value)} {st : List Value} {σ : jl_Mm} {o : jl_O} {x i idx n ci N : Nat} {v : Int} {Cn host : String} {T : u_T} {ty : Nat → FieldType} (F : jl_CF ci Cn T N ty) (hk : jl_kd x = (ci, n)) (hx : x < nx) (hi : i < N) (h0 : lk x i = none) (hl : Cond.fieldLinkNest M.1.cls idx (T i).1 (T i).2.1 (T i).2.2.1 host ∈ jl_nw) (hfin : (T i).2.2.2 = false) (hW : jl_isr x i = false ∨ v < (nx : Int)) (hn : narrow (ty i) (jl_fv G.2.2.2.2.1 (jl_ft ci i) v) = jl_fv G.2.2.2.2.1 (jl_ft ci i) v) (hfit : fits (ty i) (jl_fv G.2.2.2.2.1 (jl_ft ci i) v) = true) (d : decode M.2.1 pc = .ok (.putfield idx, 3)) (k : jl_J lk G M E nx ce sl (pc + 3) ls st (jl_up σ x i v) o) : jl_J lk G M E nx ce sl pc ls (jl_fv G.2.2.2.2.1 (jl_ft ci i) v :: jl_vr G x :: st) σ o := by
  intro r τ ho p e s m args below meth c H locs la C X S L
  have hK := C.2.2.2.2.2.2.2.1.1
  refine va_putN C.1 C.2.1 (Ts := jl_tbl) C.2.2.2.2.2.1 F.2.1 ty F.2.2.1 F.2.2.2.1 C.2.2.2.2.1 hK X.2.1 X.1 S x (jl_he hx hk F.2.2.2.2.2) F.1 i hi (jl_nw_use hl (C.2.2.2.2.2.2.2.1.2.2.2.1 _ hl)) (fun _ h => h) hfin (F.2.2.1 i hi) hn hfit (by rw [jl_fs_len, ← F.2.2.2.2.1]; exact hi) d (fun H locs hP hD S => ?_)
  rw [← jl_en_up (cA := G.2.2.2.1) (σ := σ) hk F.2.2.2.2.2 h0, jl_ws_set (fun c' h => jl_up_ne c' h)] at hP hD
  have X : jl_R lk G (jl_up σ x i v) nx H := ⟨hD, hP, X.2.2.up hW⟩
  exact k r τ ho p e s m args below meth c H locs la C X S L
theorem jr_iaload {lk : jl_LK} {G : jl_GC} {M : jl_MC} {E : jl_EC} {nx ce sl pc : Nat} {ls : List (Nat × Value)} {st : List Value} {σ : jl_Mm} {o : jl_O} {x n : Nat} {i : Int} (hk : jl_kd x = (20, n)) (hx : x < nx) (hn : jl_n3 i) (hi : 0 ≤ i ∧ i < n) (d : decode M.2.1 pc = .ok (.iaload, 1)) (k : jl_J lk G M E nx ce sl (pc + 1) ls (jl_vi (jl_g σ x i.toNat) :: st) σ o) : jl_J lk G M E nx ce sl pc ls (jl_vi i :: jl_vr G x :: st) σ o := by
  intro r τ ho p e s m args below meth c H locs la C X S L
  have he : (jl_ws lk G σ nx)[x]? = some (G.2.2.2.2.1 x, jl_en G.2.2.2.2.1 G.2.2.2.1 lk x (σ x)) := jl_w_get hx
  rw [jl_en_i hk (Or.inl rfl)] at he
  have z := k r τ ho p e s m args below meth c H locs la C X S L
  rw [jl_g, jl_vi_to] at z
  exact va_iald C.1 C.2.1 C.2.2.2.2.2.2.2.1.1 X.2.1 x 0 he rfl (jl_in3 hn hi) d (by rw [jl_cl3 hn]; exact z)
theorem jr_caload {lk : jl_LK} {G : jl_GC} {M : jl_MC} {E : jl_EC} {nx ce sl pc : Nat} {ls : List (Nat × Value)} {st : List Value} {σ : jl_Mm} {o : jl_O} {x n : Nat} {i : Int} (hk : jl_kd x = (22, n)) (hx : x < nx) (hn : jl_n3 i) (hi : 0 ≤ i ∧ i < n) (d : decode M.2.1 pc = .ok (.caload, 1)) (k : jl_J lk G M E nx ce sl (pc + 1) ls (jl_vi (jl_g σ x i.toNat) :: st) σ o) : jl_J lk G M E nx ce sl pc ls (jl_vi i :: jl_vr G x :: st) σ o := by
  intro r τ ho p e s m args below meth c H locs la C X S L
  have he : (jl_ws lk G σ nx)[x]? = some (G.2.2.2.2.1 x, jl_en G.2.2.2.2.1 G.2.2.2.1 lk x (σ x)) := jl_w_get hx
  rw [jl_en_i hk (Or.inr (Or.inl rfl))] at he
  have z := k r τ ho p e s m args below meth c H locs la C X S L
  rw [jl_g, jl_vi_to] at z
  exact va_cald C.1 C.2.1 C.2.2.2.2.2.2.2.1.1 X.2.1 x 2 he rfl (jl_in3 hn hi) d (by rw [jl_cl3 hn]; exact z)
theorem jr_zaload {lk : jl_LK} {G : jl_GC} {M : jl_MC} {E : jl_EC} {nx ce sl pc : Nat} {ls : List (Nat × Value)} {st : List Value} {σ : jl_Mm} {o : jl_O} {x n : Nat} {i : Int} (hk : jl_kd x = (23, n)) (hx : x < nx) (hn : jl_n3 i) (hi : 0 ≤ i ∧ i < n) (d : decode M.2.1 pc = .ok (.baload, 1)) (k : jl_J lk G M E nx ce sl (pc + 1) ls (jl_vi (jl_g σ x i.toNat) :: st) σ o) : jl_J lk G M E nx ce sl pc ls (jl_vi i :: jl_vr G x :: st) σ o := by
  intro r τ ho p e s m args below meth c H locs la C X S L
  have he : (jl_ws lk G σ nx)[x]? = some (G.2.2.2.2.1 x, jl_en G.2.2.2.2.1 G.2.2.2.1 lk x (σ x)) := jl_w_get hx
  rw [jl_en_i hk (Or.inr (Or.inr rfl))] at he
  have z := k r τ ho p e s m args below meth c H locs la C X S L
  rw [jl_g, jl_vi_to] at z
  exact va_zald C.1 C.2.1 C.2.2.2.2.2.2.2.1.1 X.2.1 x 3 he rfl (jl_in3 hn hi) d (by rw [jl_cl3 hn]; exact z)
theorem jr_laload {lk : jl_LK} {G : jl_GC} {M : jl_MC} {E : jl_EC} {nx ce sl pc : Nat} {ls : List (Nat × Value)} {st : List Value} {σ : jl_Mm} {o : jl_O} {x n : Nat} {i : Int} (hk : jl_kd x = (21, n)) (hx : x < nx) (hn : jl_n3 i) (hi : 0 ≤ i ∧ i < n) (d : decode M.2.1 pc = .ok (.laload, 1)) (k : jl_J lk G M E nx ce sl (pc + 1) ls (jl_vl (jl_gl σ x i.toNat) :: st) σ o) : jl_J lk G M E nx ce sl pc ls (jl_vi i :: jl_vr G x :: st) σ o := by
  intro r τ ho p e s m args below meth c H locs la C X S L
  have he : (jl_ws lk G σ nx)[x]? = some (G.2.2.2.2.1 x, jl_en G.2.2.2.2.1 G.2.2.2.1 lk x (σ x)) := jl_w_get hx
  rw [jl_en_l hk] at he
  have z := k r τ ho p e s m args below meth c H locs la C X S L
  rw [jl_gl, jl_vl_to] at z
  exact va_lald C.1 C.2.1 C.2.2.2.2.2.2.2.1.1 X.2.1 x 1 he rfl (jl_in3 hn hi) d (by rw [jl_cl3 hn]; exact z)
theorem jr_aaload {lk : jl_LK} {G : jl_GC} {M : jl_MC} {E : jl_EC} {nx ce sl pc : Nat} {ls : List (Nat × Value)} {st : List Value} {σ : jl_Mm} {o : jl_O} {x n kk t r : Nat} {i : Int} (hk : jl_kd x = (kk, n)) (hkk : kk = 24 ∧ t = 4 ∨ kk = 25 ∧ t = 5) (hx : x < nx) (hn : jl_n3 i) (hi : 0 ≤ i ∧ i < n) (hr : lk x i.toNat = some r) (d : decode M.2.1 pc = .ok (.aaload, 1)) (k : jl_J lk G M E nx ce sl (pc + 1) ls (jl_vr G r :: st) σ o) : jl_J lk G M E nx ce sl pc ls (jl_vi i :: jl_vr G x :: st) σ o := by
  intro r τ ho p e s m args below meth c H locs la C X S L
  have he : (jl_ws lk G σ nx)[x]? = some (G.2.2.2.2.1 x, jl_en G.2.2.2.2.1 G.2.2.2.1 lk x (σ x)) := jl_w_get hx
  rw [jl_en_r hk (by omega)] at he
  have z := k r τ ho p e s m args below meth c H locs la C X S L
  rcases hkk with ⟨rfl, rfl⟩ | ⟨rfl, rfl⟩
  · exact va_aldq C.1 C.2.1 C.2.2.2.2.2.2.2.1.1 X.2.1 x 4 he rfl (jl_in3 hn hi) d (by rw [jl_cl3 hn]; simp only [jl_ra, hr, va_rf]; exact z)
  · exact va_aldq C.1 C.2.1 C.2.2.2.2.2.2.2.1.1 X.2.1 x 5 he rfl (jl_in3 hn hi) d (by rw [jl_cl3 hn]; simp only [jl_ra, hr, va_rf]; exact z)
theorem jl_narz {v : Int} (h : v = 0 ∨ v = 1) : vp_nar .boolean (jl_i3 v) = jl_i3 v := by
  rcases h with rfl | rfl <;> decide
theorem jl_up_i {σ : jl_Mm} {x i : Nat} {v : Int} : (fun j => jl_i3 (jl_up σ x i v x j)) = upd (fun j => jl_i3 (σ x j)) i (jl_i3 v) := by
  funext j
  by_cases h : j = i <;> simp [jl_up, upd, h]
theorem jl_up_l {σ : jl_Mm} {x i : Nat} {v : Int} : (fun j => jl_i6 (jl_up σ x i v x j)) = vp_updL (fun j => jl_i6 (σ x j)) i (jl_i6 v) := by
  funext j
  by_cases h : j = i <;> simp [jl_up, vp_updL, h]
theorem jr_iastore {lk : jl_LK} {G : jl_GC} {M : jl_MC} {E : jl_EC} {nx ce sl pc : Nat} {ls : List (Nat × Value)} {st : List Value} {σ : jl_Mm} {o : jl_O} {x n : Nat} {i v : Int} (hk : jl_kd x = (20, n)) (hx : x < nx) (hn : jl_n3 i) (hi : 0 ≤ i ∧ i < n) (d : decode M.2.1 pc = .ok (.iastore, 1)) (k : jl_J lk G M E nx ce sl (pc + 1) ls st (jl_up σ x i.toNat v) o) : jl_J lk G M E nx ce sl pc ls (jl_vi v :: jl_vi i :: jl_vr G x :: st) σ o := by
  intro r τ ho p e s m args below meth c H locs la C X S L
  have he : (jl_ws lk G σ nx)[x]? = some (G.2.2.2.2.1 x, jl_en G.2.2.2.2.1 G.2.2.2.1 lk x (σ x)) := jl_w_get hx
  rw [jl_en_i hk (Or.inl rfl)] at he
  refine va_iast C.1 C.2.1 C.2.2.2.2.2.2.2.1.1 X.2.1 X.1 S x 0 he rfl (jl_in3 hn hi) d (fun H locs hP hD S => ?_)
  rw [jl_cl3 hn, ← jl_up_i, ← jl_en_i (ad := G.2.2.2.2.1) (cA := G.2.2.2.1) (lk := lk) (f := jl_up σ x i.toNat v x) hk (Or.inl rfl), jl_ws_set (fun c' h => jl_up_ne c' h)] at hP hD
  have X : jl_R lk G (jl_up σ x i.toNat v) nx H := ⟨hD, hP, X.2.2.up (Or.inl (jl_isr_a hk (by decide) (by decide)))⟩
  exact k r τ ho p e s m args below meth c H locs la C X S L
theorem jr_zastore {lk : jl_LK} {G : jl_GC} {M : jl_MC} {E : jl_EC} {nx ce sl pc : Nat} {ls : List (Nat × Value)} {st : List Value} {σ : jl_Mm} {o : jl_O} {x n : Nat} {i v : Int} (hk : jl_kd x = (23, n)) (hx : x < nx) (hn : jl_n3 i) (hi : 0 ≤ i ∧ i < n) (hz : v = 0 ∨ v = 1) (d : decode M.2.1 pc = .ok (.bastore, 1)) (k : jl_J lk G M E nx ce sl (pc + 1) ls st (jl_up σ x i.toNat v) o) : jl_J lk G M E nx ce sl pc ls (jl_vi v :: jl_vi i :: jl_vr G x :: st) σ o := by
  intro r τ ho p e s m args below meth c H locs la C X S L
  have he : (jl_ws lk G σ nx)[x]? = some (G.2.2.2.2.1 x, jl_en G.2.2.2.2.1 G.2.2.2.1 lk x (σ x)) := jl_w_get hx
  rw [jl_en_i hk (Or.inr (Or.inr rfl))] at he
  refine va_zast C.1 C.2.1 C.2.2.2.2.2.2.2.1.1 X.2.1 X.1 S x 3 he rfl (jl_in3 hn hi) d (fun H locs hP hD S => ?_)
  rw [jl_narz hz] at hP hD
  rw [jl_cl3 hn, ← jl_up_i, ← jl_en_i (ad := G.2.2.2.2.1) (cA := G.2.2.2.1) (lk := lk) (f := jl_up σ x i.toNat v x) hk (Or.inr (Or.inr rfl)), jl_ws_set (fun c' h => jl_up_ne c' h)] at hP hD
  have X : jl_R lk G (jl_up σ x i.toNat v) nx H := ⟨hD, hP, X.2.2.up (Or.inl (jl_isr_a hk (by decide) (by decide)))⟩
  exact k r τ ho p e s m args below meth c H locs la C X S L
theorem jr_lastore {lk : jl_LK} {G : jl_GC} {M : jl_MC} {E : jl_EC} {nx ce sl pc : Nat} {ls : List (Nat × Value)} {st : List Value} {σ : jl_Mm} {o : jl_O} {x n : Nat} {i v : Int} (hk : jl_kd x = (21, n)) (hx : x < nx) (hn : jl_n3 i) (hi : 0 ≤ i ∧ i < n) (d : decode M.2.1 pc = .ok (.lastore, 1)) (k : jl_J lk G M E nx ce sl (pc + 1) ls st (jl_up σ x i.toNat v) o) : jl_J lk G M E nx ce sl pc ls (jl_vl v :: jl_vi i :: jl_vr G x :: st) σ o := by
  intro r τ ho p e s m args below meth c H locs la C X S L
  have he : (jl_ws lk G σ nx)[x]? = some (G.2.2.2.2.1 x, jl_en G.2.2.2.2.1 G.2.2.2.1 lk x (σ x)) := jl_w_get hx
  rw [jl_en_l hk] at he
  refine va_last C.1 C.2.1 C.2.2.2.2.2.2.2.1.1 X.2.1 X.1 S x 1 he rfl (jl_in3 hn hi) d (fun H locs hP hD S => ?_)
  rw [jl_cl3 hn, ← jl_up_l, ← jl_en_l (ad := G.2.2.2.2.1) (cA := G.2.2.2.1) (lk := lk) (f := jl_up σ x i.toNat v x) hk, jl_ws_set (fun c' h => jl_up_ne c' h)] at hP hD
  have X : jl_R lk G (jl_up σ x i.toNat v) nx H := ⟨hD, hP, X.2.2.up (Or.inl (jl_isr_a hk (by decide) (by decide)))⟩
  exact k r τ ho p e s m args below meth c H locs la C X S L
theorem jr_alen {lk : jl_LK} {G : jl_GC} {M : jl_MC} {E : jl_EC} {nx ce sl pc : Nat} {ls : List (Nat × Value)} {st : List Value} {σ : jl_Mm} {o : jl_O} {x n kk t : Nat} (hk : jl_kd x = (kk, n)) (hkk : kk = 20 ∧ t = 0 ∨ kk = 22 ∧ t = 2) (hx : x < nx) (d : decode M.2.1 pc = .ok (.arraylength, 1)) (k : jl_J lk G M E nx ce sl (pc + 1) ls (jl_vi (n : Int) :: st) σ o) : jl_J lk G M E nx ce sl pc ls (jl_vr G x :: st) σ o := by
  intro r τ ho p e s m args below meth c H locs la C X S L
  have he : (jl_ws lk G σ nx)[x]? = some (G.2.2.2.2.1 x, jl_en G.2.2.2.2.1 G.2.2.2.1 lk x (σ x)) := jl_w_get hx
  have z := k r τ ho p e s m args below meth c H locs la C X S L
  rcases hkk with ⟨rfl, rfl⟩ | ⟨rfl, rfl⟩
  · rw [jl_en_i hk (Or.inl rfl)] at he
    exact va_alen C.1 C.2.1 C.2.2.2.2.2.2.2.1.1 X.2.1 x 0 he rfl rfl d z
  · rw [jl_en_i hk (Or.inr (Or.inl rfl))] at he
    exact va_alen C.1 C.2.1 C.2.2.2.2.2.2.2.1.1 X.2.1 x 2 he rfl rfl d z
theorem jl_fv_r (ad : Nat → Nat) (y : Nat) : jl_fv ad 2 (y : Int) = .ref (ad y) := by
  have h : ¬ ((y : Int) < 0) := by omega
  simp only [jl_fv, if_neg h, va_rf, Int.toNat_natCast]
theorem jr_geti {lk : jl_LK} {G : jl_GC} {M : jl_MC} {E : jl_EC} {nx ce sl pc : Nat} {ls : List (Nat × Value)} {st : List Value} {σ : jl_Mm} {o : jl_O} {x i idx n ci N : Nat} {Cn : String} {T : u_T} {ty : Nat → FieldType} (F : jl_CF ci Cn T N ty) (hk : jl_kd x = (ci, n)) (hx : x < nx) (hi : i < N) (h0 : lk x i = none) (ht : jl_ft ci i = 0) (hl : Cond.fieldLink M.1.cls idx (T i).1 (T i).2.1 (T i).2.2.1 ∈ jl_tbl) (d : decode M.2.1 pc = .ok (.getfield idx, 3)) (k : jl_J lk G M E nx ce sl (pc + 3) ls (jl_vi (jl_g σ x i) :: st) σ o) : jl_J lk G M E nx ce sl pc ls (jl_vr G x :: st) σ o := jr_get F hk hx hi hl d (by rw [jl_f1_i h0 ht]; exact k)
theorem jr_getl {lk : jl_LK} {G : jl_GC} {M : jl_MC} {E : jl_EC} {nx ce sl pc : Nat} {ls : List (Nat × Value)} {st : List Value} {σ : jl_Mm} {o : jl_O} {x i idx n ci N : Nat} {Cn : String} {T : u_T} {ty : Nat → FieldType} (F : jl_CF ci Cn T N ty) (hk : jl_kd x = (ci, n)) (hx : x < nx) (hi : i < N) (h0 : lk x i = none) (ht : jl_ft ci i = 1) (hl : Cond.fieldLink M.1.cls idx (T i).1 (T i).2.1 (T i).2.2.1 ∈ jl_tbl) (d : decode M.2.1 pc = .ok (.getfield idx, 3)) (k : jl_J lk G M E nx ce sl (pc + 3) ls (jl_vl (jl_gl σ x i) :: st) σ o) : jl_J lk G M E nx ce sl pc ls (jl_vr G x :: st) σ o := jr_get F hk hx hi hl d (by rw [jl_f1_l h0 ht]; exact k)
theorem jr_getk {lk : jl_LK} {G : jl_GC} {M : jl_MC} {E : jl_EC} {nx ce sl pc : Nat} {ls : List (Nat × Value)} {st : List Value} {σ : jl_Mm} {o : jl_O} {x i idx n ci N r : Nat} {Cn : String} {T : u_T} {ty : Nat → FieldType} (F : jl_CF ci Cn T N ty) (hk : jl_kd x = (ci, n)) (hx : x < nx) (hi : i < N) (h0 : lk x i = some r) (hl : Cond.fieldLink M.1.cls idx (T i).1 (T i).2.1 (T i).2.2.1 ∈ jl_tbl) (d : decode M.2.1 pc = .ok (.getfield idx, 3)) (k : jl_J lk G M E nx ce sl (pc + 3) ls (jl_vr G r :: st) σ o) : jl_J lk G M E nx ce sl pc ls (jl_vr G x :: st) σ o := jr_get F hk hx hi hl d (by rw [jl_f1_k h0]; exact k)
theorem jr_getr {lk : jl_LK} {G : jl_GC} {M : jl_MC} {E : jl_EC} {nx ce sl pc : Nat} {ls : List (Nat × Value)} {st : List Value} {σ : jl_Mm} {o : jl_O} {x i idx n ci N : Nat} {Cn : String} {T : u_T} {ty : Nat → FieldType} (F : jl_CF ci Cn T N ty) (hk : jl_kd x = (ci, n)) (hx : x < nx) (hi : i < N) (h0 : lk x i = none) (ht : jl_ft ci i = 2) (hz : 0 ≤ σ x i) (hl : Cond.fieldLink M.1.cls idx (T i).1 (T i).2.1 (T i).2.2.1 ∈ jl_tbl) (d : decode M.2.1 pc = .ok (.getfield idx, 3)) (k : jl_J lk G M E nx ce sl (pc + 3) ls (jl_vr G (jl_gr σ x i) :: st) σ o) : jl_J lk G M E nx ce sl pc ls (jl_vr G x :: st) σ o := jr_get F hk hx hi hl d (by rw [jl_f1_r h0 ht hz]; exact k)
theorem jr_puti {lk : jl_LK} {G : jl_GC} {M : jl_MC} {E : jl_EC} {nx ce sl pc : Nat} {ls : List (Nat × Value)} {st : List Value} {σ : jl_Mm} {o : jl_O} {x i idx n ci N : Nat} {v : Int} {Cn : String} {T : u_T} {ty : Nat → FieldType} (F : jl_CF ci Cn T N ty) (hk : jl_kd x = (ci, n)) (hx : x < nx) (hi : i < N) (h0 : lk x i = none) (ht : jl_ft ci i = 0) (hty : ty i = .int) (hl : Cond.fieldLink M.1.cls idx (T i).1 (T i).2.1 (T i).2.2.1 ∈ jl_tbl) (hfin : (T i).2.2.2 = false) (d : decode M.2.1 pc = .ok (.putfield idx, 3)) (k : jl_J lk G M E nx ce sl (pc + 3) ls st (jl_up σ x i v) o) : jl_J lk G M E nx ce sl pc ls (jl_vi v :: jl_vr G x :: st) σ o := by
  have z : jl_fv G.2.2.2.2.1 (jl_ft ci i) v = jl_vi v := by rw [ht]; rfl
  have q := jr_put (lk := lk) (G := G) (M := M) (E := E) (nx := nx) (ce := ce) (sl := sl) (pc := pc) (ls := ls) (st := st) (σ := σ) (o := o) (v := v) F hk hx hi h0 hl hfin (Or.inl (jl_isr_o hk F.2.2.2.2.2 (by rw [ht]; decide))) (by rw [z, hty]; exact rfl) (by rw [z, hty]; exact rfl) d k
  rw [z] at q
  exact q
theorem jr_putz {lk : jl_LK} {G : jl_GC} {M : jl_MC} {E : jl_EC} {nx ce sl pc : Nat} {ls : List (Nat × Value)} {st : List Value} {σ : jl_Mm} {o : jl_O} {x i idx n ci N : Nat} {v : Int} {Cn : String} {T : u_T} {ty : Nat → FieldType} (F : jl_CF ci Cn T N ty) (hk : jl_kd x = (ci, n)) (hx : x < nx) (hi : i < N) (h0 : lk x i = none) (ht : jl_ft ci i = 0) (hty : ty i = .boolean) (hz : v = 0 ∨ v = 1) (hl : Cond.fieldLink M.1.cls idx (T i).1 (T i).2.1 (T i).2.2.1 ∈ jl_tbl) (hfin : (T i).2.2.2 = false) (d : decode M.2.1 pc = .ok (.putfield idx, 3)) (k : jl_J lk G M E nx ce sl (pc + 3) ls st (jl_up σ x i v) o) : jl_J lk G M E nx ce sl pc ls (jl_vi v :: jl_vr G x :: st) σ o := by
  have z : jl_fv G.2.2.2.2.1 (jl_ft ci i) v = jl_vi v := by rw [ht]; rfl
  have q := jr_put (lk := lk) (G := G) (M := M) (E := E) (nx := nx) (ce := ce) (sl := sl) (pc := pc) (ls := ls) (st := st) (σ := σ) (o := o) (v := v) F hk hx hi h0 hl hfin (Or.inl (jl_isr_o hk F.2.2.2.2.2 (by rw [ht]; decide))) (by rw [z, hty]; exact (by rcases hz with rfl | rfl <;> decide)) (by rw [z, hty]; exact (by rcases hz with rfl | rfl <;> decide)) d k
  rw [z] at q
  exact q
theorem jr_putl {lk : jl_LK} {G : jl_GC} {M : jl_MC} {E : jl_EC} {nx ce sl pc : Nat} {ls : List (Nat × Value)} {st : List Value} {σ : jl_Mm} {o : jl_O} {x i idx n ci N : Nat} {v : Int} {Cn : String} {T : u_T} {ty : Nat → FieldType} (F : jl_CF ci Cn T N ty) (hk : jl_kd x = (ci, n)) (hx : x < nx) (hi : i < N) (h0 : lk x i = none) (ht : jl_ft ci i = 1) (hty : ty i = .long) (hl : Cond.fieldLink M.1.cls idx (T i).1 (T i).2.1 (T i).2.2.1 ∈ jl_tbl) (hfin : (T i).2.2.2 = false) (d : decode M.2.1 pc = .ok (.putfield idx, 3)) (k : jl_J lk G M E nx ce sl (pc + 3) ls st (jl_up σ x i v) o) : jl_J lk G M E nx ce sl pc ls (jl_vl v :: jl_vr G x :: st) σ o := by
  have z : jl_fv G.2.2.2.2.1 (jl_ft ci i) v = jl_vl v := by rw [ht]; rfl
  have q := jr_put (lk := lk) (G := G) (M := M) (E := E) (nx := nx) (ce := ce) (sl := sl) (pc := pc) (ls := ls) (st := st) (σ := σ) (o := o) (v := v) F hk hx hi h0 hl hfin (Or.inl (jl_isr_o hk F.2.2.2.2.2 (by rw [ht]; decide))) (by rw [z, hty]; exact rfl) (by rw [z, hty]; exact rfl) d k
  rw [z] at q
  exact q
theorem jr_putr {lk : jl_LK} {G : jl_GC} {M : jl_MC} {E : jl_EC} {nx ce sl pc : Nat} {ls : List (Nat × Value)} {st : List Value} {σ : jl_Mm} {o : jl_O} {x i idx n ci N y : Nat} {Dn : String} {Cn : String} {T : u_T} {ty : Nat → FieldType} (F : jl_CF ci Cn T N ty) (hk : jl_kd x = (ci, n)) (hx : x < nx) (hi : i < N) (h0 : lk x i = none) (ht : jl_ft ci i = 2) (hyn : (y : Int) < (nx : Int)) (hty : ty i = .object Dn) (hl : Cond.fieldLink M.1.cls idx (T i).1 (T i).2.1 (T i).2.2.1 ∈ jl_tbl) (hfin : (T i).2.2.2 = false) (d : decode M.2.1 pc = .ok (.putfield idx, 3)) (k : jl_J lk G M E nx ce sl (pc + 3) ls st (jl_up σ x i (y : Int)) o) : jl_J lk G M E nx ce sl pc ls (jl_vr G y :: jl_vr G x :: st) σ o := by
  have z : jl_fv G.2.2.2.2.1 (jl_ft ci i) (y : Int) = jl_vr G y := by rw [ht]; exact jl_fv_r _ _
  have q := jr_put (lk := lk) (G := G) (M := M) (E := E) (nx := nx) (ce := ce) (sl := sl) (pc := pc) (ls := ls) (st := st) (σ := σ) (o := o) (v := (y : Int)) F hk hx hi h0 hl hfin (Or.inr hyn) (by rw [z, hty]; exact rfl) (by rw [z, hty]; exact rfl) d k
  rw [z] at q
  exact q
theorem jr_getiN {lk : jl_LK} {G : jl_GC} {M : jl_MC} {E : jl_EC} {nx ce sl pc : Nat} {ls : List (Nat × Value)} {st : List Value} {σ : jl_Mm} {o : jl_O} {x i idx n ci N : Nat} {Cn host : String} {T : u_T} {ty : Nat → FieldType} (F : jl_CF ci Cn T N ty) (hk : jl_kd x = (ci, n)) (hx : x < nx) (hi : i < N) (h0 : lk x i = none) (ht : jl_ft ci i = 0) (hl : Cond.fieldLinkNest M.1.cls idx (T i).1 (T i).2.1 (T i).2.2.1 host ∈ jl_nw) (d : decode M.2.1 pc = .ok (.getfield idx, 3)) (k : jl_J lk G M E nx ce sl (pc + 3) ls (jl_vi (jl_g σ x i) :: st) σ o) : jl_J lk G M E nx ce sl pc ls (jl_vr G x :: st) σ o := jr_getN F hk hx hi hl d (by rw [jl_f1_i h0 ht]; exact k)
theorem jr_getlN {lk : jl_LK} {G : jl_GC} {M : jl_MC} {E : jl_EC} {nx ce sl pc : Nat} {ls : List (Nat × Value)} {st : List Value} {σ : jl_Mm} {o : jl_O} {x i idx n ci N : Nat} {Cn host : String} {T : u_T} {ty : Nat → FieldType} (F : jl_CF ci Cn T N ty) (hk : jl_kd x = (ci, n)) (hx : x < nx) (hi : i < N) (h0 : lk x i = none) (ht : jl_ft ci i = 1) (hl : Cond.fieldLinkNest M.1.cls idx (T i).1 (T i).2.1 (T i).2.2.1 host ∈ jl_nw) (d : decode M.2.1 pc = .ok (.getfield idx, 3)) (k : jl_J lk G M E nx ce sl (pc + 3) ls (jl_vl (jl_gl σ x i) :: st) σ o) : jl_J lk G M E nx ce sl pc ls (jl_vr G x :: st) σ o := jr_getN F hk hx hi hl d (by rw [jl_f1_l h0 ht]; exact k)
theorem jr_getkN {lk : jl_LK} {G : jl_GC} {M : jl_MC} {E : jl_EC} {nx ce sl pc : Nat} {ls : List (Nat × Value)} {st : List Value} {σ : jl_Mm} {o : jl_O} {x i idx n ci N r : Nat} {Cn host : String} {T : u_T} {ty : Nat → FieldType} (F : jl_CF ci Cn T N ty) (hk : jl_kd x = (ci, n)) (hx : x < nx) (hi : i < N) (h0 : lk x i = some r) (hl : Cond.fieldLinkNest M.1.cls idx (T i).1 (T i).2.1 (T i).2.2.1 host ∈ jl_nw) (d : decode M.2.1 pc = .ok (.getfield idx, 3)) (k : jl_J lk G M E nx ce sl (pc + 3) ls (jl_vr G r :: st) σ o) : jl_J lk G M E nx ce sl pc ls (jl_vr G x :: st) σ o := jr_getN F hk hx hi hl d (by rw [jl_f1_k h0]; exact k)
theorem jr_getrN {lk : jl_LK} {G : jl_GC} {M : jl_MC} {E : jl_EC} {nx ce sl pc : Nat} {ls : List (Nat × Value)} {st : List Value} {σ : jl_Mm} {o : jl_O} {x i idx n ci N : Nat} {Cn host : String} {T : u_T} {ty : Nat → FieldType} (F : jl_CF ci Cn T N ty) (hk : jl_kd x = (ci, n)) (hx : x < nx) (hi : i < N) (h0 : lk x i = none) (ht : jl_ft ci i = 2) (hz : 0 ≤ σ x i) (hl : Cond.fieldLinkNest M.1.cls idx (T i).1 (T i).2.1 (T i).2.2.1 host ∈ jl_nw) (d : decode M.2.1 pc = .ok (.getfield idx, 3)) (k : jl_J lk G M E nx ce sl (pc + 3) ls (jl_vr G (jl_gr σ x i) :: st) σ o) : jl_J lk G M E nx ce sl pc ls (jl_vr G x :: st) σ o := jr_getN F hk hx hi hl d (by rw [jl_f1_r h0 ht hz]; exact k)
theorem jr_putiN {lk : jl_LK} {G : jl_GC} {M : jl_MC} {E : jl_EC} {nx ce sl pc : Nat} {ls : List (Nat × Value)} {st : List Value} {σ : jl_Mm} {o : jl_O} {x i idx n ci N : Nat} {v : Int} {Cn host : String} {T : u_T} {ty : Nat → FieldType} (F : jl_CF ci Cn T N ty) (hk : jl_kd x = (ci, n)) (hx : x < nx) (hi : i < N) (h0 : lk x i = none) (ht : jl_ft ci i = 0) (hty : ty i = .int) (hl : Cond.fieldLinkNest M.1.cls idx (T i).1 (T i).2.1 (T i).2.2.1 host ∈ jl_nw) (hfin : (T i).2.2.2 = false) (d : decode M.2.1 pc = .ok (.putfield idx, 3)) (k : jl_J lk G M E nx ce sl (pc + 3) ls st (jl_up σ x i v) o) : jl_J lk G M E nx ce sl pc ls (jl_vi v :: jl_vr G x :: st) σ o := by
  have z : jl_fv G.2.2.2.2.1 (jl_ft ci i) v = jl_vi v := by rw [ht]; rfl
  have q := jr_putN (lk := lk) (G := G) (M := M) (E := E) (nx := nx) (ce := ce) (sl := sl) (pc := pc) (ls := ls) (st := st) (σ := σ) (o := o) (v := v) F hk hx hi h0 hl hfin (Or.inl (jl_isr_o hk F.2.2.2.2.2 (by rw [ht]; decide))) (by rw [z, hty]; exact rfl) (by rw [z, hty]; exact rfl) d k
  rw [z] at q
  exact q
theorem jr_putzN {lk : jl_LK} {G : jl_GC} {M : jl_MC} {E : jl_EC} {nx ce sl pc : Nat} {ls : List (Nat × Value)} {st : List Value} {σ : jl_Mm} {o : jl_O} {x i idx n ci N : Nat} {v : Int} {Cn host : String} {T : u_T} {ty : Nat → FieldType} (F : jl_CF ci Cn T N ty) (hk : jl_kd x = (ci, n)) (hx : x < nx) (hi : i < N) (h0 : lk x i = none) (ht : jl_ft ci i = 0) (hty : ty i = .boolean) (hz : v = 0 ∨ v = 1) (hl : Cond.fieldLinkNest M.1.cls idx (T i).1 (T i).2.1 (T i).2.2.1 host ∈ jl_nw) (hfin : (T i).2.2.2 = false) (d : decode M.2.1 pc = .ok (.putfield idx, 3)) (k : jl_J lk G M E nx ce sl (pc + 3) ls st (jl_up σ x i v) o) : jl_J lk G M E nx ce sl pc ls (jl_vi v :: jl_vr G x :: st) σ o := by
  have z : jl_fv G.2.2.2.2.1 (jl_ft ci i) v = jl_vi v := by rw [ht]; rfl
  have q := jr_putN (lk := lk) (G := G) (M := M) (E := E) (nx := nx) (ce := ce) (sl := sl) (pc := pc) (ls := ls) (st := st) (σ := σ) (o := o) (v := v) F hk hx hi h0 hl hfin (Or.inl (jl_isr_o hk F.2.2.2.2.2 (by rw [ht]; decide))) (by rw [z, hty]; exact (by rcases hz with rfl | rfl <;> decide)) (by rw [z, hty]; exact (by rcases hz with rfl | rfl <;> decide)) d k
  rw [z] at q
  exact q
theorem jr_putlN {lk : jl_LK} {G : jl_GC} {M : jl_MC} {E : jl_EC} {nx ce sl pc : Nat} {ls : List (Nat × Value)} {st : List Value} {σ : jl_Mm} {o : jl_O} {x i idx n ci N : Nat} {v : Int} {Cn host : String} {T : u_T} {ty : Nat → FieldType} (F : jl_CF ci Cn T N ty) (hk : jl_kd x = (ci, n)) (hx : x < nx) (hi : i < N) (h0 : lk x i = none) (ht : jl_ft ci i = 1) (hty : ty i = .long) (hl : Cond.fieldLinkNest M.1.cls idx (T i).1 (T i).2.1 (T i).2.2.1 host ∈ jl_nw) (hfin : (T i).2.2.2 = false) (d : decode M.2.1 pc = .ok (.putfield idx, 3)) (k : jl_J lk G M E nx ce sl (pc + 3) ls st (jl_up σ x i v) o) : jl_J lk G M E nx ce sl pc ls (jl_vl v :: jl_vr G x :: st) σ o := by
  have z : jl_fv G.2.2.2.2.1 (jl_ft ci i) v = jl_vl v := by rw [ht]; rfl
  have q := jr_putN (lk := lk) (G := G) (M := M) (E := E) (nx := nx) (ce := ce) (sl := sl) (pc := pc) (ls := ls) (st := st) (σ := σ) (o := o) (v := v) F hk hx hi h0 hl hfin (Or.inl (jl_isr_o hk F.2.2.2.2.2 (by rw [ht]; decide))) (by rw [z, hty]; exact rfl) (by rw [z, hty]; exact rfl) d k
  rw [z] at q
  exact q
theorem jr_putrN {lk : jl_LK} {G : jl_GC} {M : jl_MC} {E : jl_EC} {nx ce sl pc : Nat} {ls : List (Nat × Value)} {st : List Value} {σ : jl_Mm} {o : jl_O} {x i idx n ci N y : Nat} {Dn : String} {Cn host : String} {T : u_T} {ty : Nat → FieldType} (F : jl_CF ci Cn T N ty) (hk : jl_kd x = (ci, n)) (hx : x < nx) (hi : i < N) (h0 : lk x i = none) (ht : jl_ft ci i = 2) (hyn : (y : Int) < (nx : Int)) (hty : ty i = .object Dn) (hl : Cond.fieldLinkNest M.1.cls idx (T i).1 (T i).2.1 (T i).2.2.1 host ∈ jl_nw) (hfin : (T i).2.2.2 = false) (d : decode M.2.1 pc = .ok (.putfield idx, 3)) (k : jl_J lk G M E nx ce sl (pc + 3) ls st (jl_up σ x i (y : Int)) o) : jl_J lk G M E nx ce sl pc ls (jl_vr G y :: jl_vr G x :: st) σ o := by
  have z : jl_fv G.2.2.2.2.1 (jl_ft ci i) (y : Int) = jl_vr G y := by rw [ht]; exact jl_fv_r _ _
  have q := jr_putN (lk := lk) (G := G) (M := M) (E := E) (nx := nx) (ce := ce) (sl := sl) (pc := pc) (ls := ls) (st := st) (σ := σ) (o := o) (v := (y : Int)) F hk hx hi h0 hl hfin (Or.inr hyn) (by rw [z, hty]; exact rfl) (by rw [z, hty]; exact rfl) d k
  rw [z] at q
  exact q

