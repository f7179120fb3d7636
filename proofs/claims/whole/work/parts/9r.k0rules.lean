/-! THE MAKING OF CELLS: the addresses grow with the cells; no reference is taken as constant -/
def jl_l0 : jl_LK := fun _ _ => none
def jl_sad (G : jl_GC) (ad : Nat → Nat) : jl_GC := (G.1, G.2.1, G.2.2.1, G.2.2.2.1, ad, G.2.2.2.2.2)
def jl_ext (G G' : jl_GC) (nx : Nat) : Prop := ∃ ad : Nat → Nat, G' = jl_sad G ad ∧ ∀ c, c < nx → ad c = G.2.2.2.2.1 c
theorem jl_ext.rf {G : jl_GC} {nx : Nat} : jl_ext G G nx := ⟨G.2.2.2.2.1, rfl, fun _ _ => rfl⟩
theorem jl_ext.tr {G G' G'' : jl_GC} {nx ny : Nat} (h : jl_ext G G' nx) (h2 : jl_ext G' G'' ny) (hn : nx ≤ ny) : jl_ext G G'' nx := by
  obtain ⟨a, rfl, h1⟩ := h
  obtain ⟨b, rfl, h3⟩ := h2
  exact ⟨b, rfl, fun c hc => (h3 c (Nat.lt_of_lt_of_le hc hn)).trans (h1 c hc)⟩
abbrev jl_SV : Type := Nat ⊕ Value
def jl_re (G : jl_GC) : jl_SV → Value
  | .inl c => jl_vr G c
  | .inr v => v
abbrev jl_ml (G : jl_GC) (ls : List (Nat × jl_SV)) : List (Nat × Value) := ls.map (fun q => (q.1, jl_re G q.2))
abbrev jl_ms (G : jl_GC) (st : List jl_SV) : List Value := st.map (jl_re G)
def k0_okp (nx : Nat) : jl_SV → Bool
  | .inl c => decide (c < nx)
  | .inr _ => true
def k0_ok (nx : Nat) (ls : List (Nat × jl_SV)) (st : List jl_SV) : Bool := ls.all (fun q => k0_okp nx q.2) && st.all (fun q => k0_okp nx q)
theorem jl_re_ext {G G' : jl_GC} {nx : Nat} (h : jl_ext G G' nx) {v : jl_SV} (hv : k0_okp nx v = true) : jl_re G' v = jl_re G v := by
  obtain ⟨a, rfl, h1⟩ := h
  cases v with
  | inl c => exact congrArg Value.ref (h1 c (of_decide_eq_true hv))
  | inr v => rfl
theorem jl_ml_ext {G G' : jl_GC} {nx : Nat} (h : jl_ext G G' nx) {ls : List (Nat × jl_SV)} {st : List jl_SV} (hv : k0_ok nx ls st = true) : jl_ml G' ls = jl_ml G ls := by
  refine List.map_congr_left (fun q hq => ?_)
  rw [k0_ok, Bool.and_eq_true] at hv
  rw [jl_re_ext h (List.all_eq_true.mp hv.1 q hq)]
theorem jl_ms_ext {G G' : jl_GC} {nx : Nat} (h : jl_ext G G' nx) {ls : List (Nat × jl_SV)} {st : List jl_SV} (hv : k0_ok nx ls st = true) : jl_ms G' st = jl_ms G st := by
  refine List.map_congr_left (fun q hq => ?_)
  rw [k0_ok, Bool.and_eq_true] at hv
  exact jl_re_ext h (List.all_eq_true.mp hv.2 q hq)
/-- what a new cell holds -/
def jl_df (c i : Nat) : Int := if jl_isr c i then -1 else 0
def k0_f (σ : jl_Mm) (nx : Nat) : Prop := ∀ c, nx ≤ c → σ c = jl_df c
theorem k0_f.up {σ : jl_Mm} {nx x i : Nat} {v : Int} (h : k0_f σ nx) (hx : x < nx) : k0_f (jl_up σ x i v) nx := fun c hc => (jl_up_ne c (by omega)).trans (h c hc)
theorem k0_f.mono {σ : jl_Mm} {nx ny : Nat} (h : k0_f σ nx) (hn : nx ≤ ny) : k0_f σ ny := fun c hc => h c (Nat.le_trans hn hc)
def k0_m : List (Nat × Nat × Int) → jl_Mm
  | [] => jl_df
  | u :: us => jl_up (k0_m us) u.1 u.2.1 u.2.2
/-- the tables' words on arrays of objects travel with the start -/
def k0_ao (U : State) : Prop := va_AO RX7 U ∧ va_AO RX2 U
theorem k0_ao.moved {u U : State} (hvm : u.vm.Alike U.vm) (h : k0_ao u) : k0_ao U := ⟨h.1.moved hvm, h.2.moved hvm⟩
def k0_EA (E : jl_EC) : jl_EC := fun r τ args s below t => k0_ao s → E r τ args s below t
def k0_J (G0 : jl_GC) (n0 : Nat) (M : jl_MC) (E : jl_EC) (nx ce sl pc : Nat) (ls : List (Nat × jl_SV)) (st : List jl_SV) (σ : jl_Mm) (o : jl_O) : Prop := k0_f σ nx → n0 ≤ nx → ∀ G, jl_ext G0 G n0 → jl_J jl_l0 G M (k0_EA E) nx ce sl pc (jl_ml G ls) (jl_ms G st) σ o
/-! steps that make nothing -/
theorem k0_aload {G0 : jl_GC} {n0 : Nat} {M : jl_MC} {E : jl_EC} {nx ce sl pc : Nat} {ls : List (Nat × jl_SV)} {st : List jl_SV} {σ : jl_Mm} {o : jl_O} {q : Fin 4} {x : Nat} (d : decode M.2.1 pc = .ok (.aload_n q, 1)) (j : Nat) (h : ls[j]? = some ((q : Nat), .inl x)) (k : k0_J G0 n0 M E nx ce sl (pc + 1) ls (.inl x :: st) σ o) : k0_J G0 n0 M E nx ce sl pc ls st σ o :=
  fun hf hn G hG => jr_aload_n (x := G.2.2.2.2.1 x) d j (by rw [List.getElem?_map, h]; rfl) (k hf hn G hG)
theorem k0_iload {G0 : jl_GC} {n0 : Nat} {M : jl_MC} {E : jl_EC} {nx ce sl pc : Nat} {ls : List (Nat × jl_SV)} {st : List jl_SV} {σ : jl_Mm} {o : jl_O} {q : Fin 4} {x : Int} (d : decode M.2.1 pc = .ok (.iload_n q, 1)) (j : Nat) (h : ls[j]? = some ((q : Nat), .inr (jl_vi x))) (k : k0_J G0 n0 M E nx ce sl (pc + 1) ls (.inr (jl_vi x) :: st) σ o) : k0_J G0 n0 M E nx ce sl pc ls st σ o :=
  fun hf hn G hG => jr_iload_n (x := jl_i3 x) d j (by rw [List.getElem?_map, h]; rfl) (k hf hn G hG)
theorem k0_iconst {G0 : jl_GC} {n0 : Nat} {M : jl_MC} {E : jl_EC} {nx ce sl pc : Nat} {ls : List (Nat × jl_SV)} {st : List jl_SV} {σ : jl_Mm} {o : jl_O} {n : Int} (d : decode M.2.1 pc = .ok (.iconst n, 1)) (k : k0_J G0 n0 M E nx ce sl (pc + 1) ls (.inr (jl_vi n) :: st) σ o) : k0_J G0 n0 M E nx ce sl pc ls st σ o :=
  fun hf hn G hG => jr_iconst d (k hf hn G hG)
theorem k0_bipush {G0 : jl_GC} {n0 : Nat} {M : jl_MC} {E : jl_EC} {nx ce sl pc : Nat} {ls : List (Nat × jl_SV)} {st : List jl_SV} {σ : jl_Mm} {o : jl_O} {n : Int} (d : decode M.2.1 pc = .ok (.bipush n, 2)) (h : (Int8.ofInt n).toInt32 = jl_i3 n) (k : k0_J G0 n0 M E nx ce sl (pc + 2) ls (.inr (jl_vi n) :: st) σ o) : k0_J G0 n0 M E nx ce sl pc ls st σ o :=
  fun hf hn G hG => jr_bipush d h (k hf hn G hG)
theorem k0_sipush {G0 : jl_GC} {n0 : Nat} {M : jl_MC} {E : jl_EC} {nx ce sl pc : Nat} {ls : List (Nat × jl_SV)} {st : List jl_SV} {σ : jl_Mm} {o : jl_O} {n : Int} (d : decode M.2.1 pc = .ok (.sipush n, 3)) (h : (Int16.ofInt n).toInt32 = jl_i3 n) (k : k0_J G0 n0 M E nx ce sl (pc + 3) ls (.inr (jl_vi n) :: st) σ o) : k0_J G0 n0 M E nx ce sl pc ls st σ o :=
  fun hf hn G hG => jr_sipush d h (k hf hn G hG)
theorem k0_lconst {G0 : jl_GC} {n0 : Nat} {M : jl_MC} {E : jl_EC} {nx ce sl pc : Nat} {ls : List (Nat × jl_SV)} {st : List jl_SV} {σ : jl_Mm} {o : jl_O} {n : Fin 2} {v : Int} (d : decode M.2.1 pc = .ok (.lconst n, 1)) (h : Int64.ofNat (n : Nat) = jl_i6 v) (k : k0_J G0 n0 M E nx ce sl (pc + 1) ls (.inr (jl_vl v) :: st) σ o) : k0_J G0 n0 M E nx ce sl pc ls st σ o :=
  fun hf hn G hG => jr_lconst d h (k hf hn G hG)
theorem k0_ldc {G0 : jl_GC} {n0 : Nat} {M : jl_MC} {E : jl_EC} {nx ce sl pc : Nat} {ls : List (Nat × jl_SV)} {st : List jl_SV} {σ : jl_Mm} {o : jl_O} {n : Nat} {v : Int} {u : Int32} (d : decode M.2.1 pc = .ok (.ldc n, 2)) (hw : Jvm.Cond.constant M.1.cls n u ∈ jl_tbl) (h : u = jl_i3 v) (k : k0_J G0 n0 M E nx ce sl (pc + 2) ls (.inr (jl_vi v) :: st) σ o) : k0_J G0 n0 M E nx ce sl pc ls st σ o :=
  fun hf hn G hG => jr_ldc d hw h (k hf hn G hG)
theorem k0_dup {G0 : jl_GC} {n0 : Nat} {M : jl_MC} {E : jl_EC} {nx ce sl pc : Nat} {ls : List (Nat × jl_SV)} {st : List jl_SV} {σ : jl_Mm} {o : jl_O} {x : Nat} (d : decode M.2.1 pc = .ok (.dup, 1)) (k : k0_J G0 n0 M E nx ce sl (pc + 1) ls (.inl x :: .inl x :: st) σ o) : k0_J G0 n0 M E nx ce sl pc ls (.inl x :: st) σ o :=
  fun hf hn G hG => jr_dup (v := jl_vr G x) d rfl (k hf hn G hG)
theorem k0_istore {G0 : jl_GC} {n0 : Nat} {M : jl_MC} {E : jl_EC} {nx ce sl pc : Nat} {ls : List (Nat × jl_SV)} {st : List jl_SV} {σ : jl_Mm} {o : jl_O} {q : Fin 4} {i : Nat} {x : Int} {lv : List (Nat × jl_SV)} (d : decode M.2.1 pc = .ok (.istore_n q, 1)) (hi : (q : Nat) = i) (hl9 : i < M.2.2.1) (hl : ∀ G, (i, jl_vi x) :: (jl_ml G ls).filter (fun q => !(q.1 == i) && !(q.1 + 1 == i && q.2.category == 2)) = jl_ml G lv) (k : k0_J G0 n0 M E nx ce sl (pc + 1) lv st σ o) : k0_J G0 n0 M E nx ce sl pc ls (.inr (jl_vi x) :: st) σ o :=
  fun hf hn G hG => jr_istore_n (x := jl_i3 x) d hi hl9 (hl G) (k hf hn G hG)
theorem k0_astore {G0 : jl_GC} {n0 : Nat} {M : jl_MC} {E : jl_EC} {nx ce sl pc : Nat} {ls : List (Nat × jl_SV)} {st : List jl_SV} {σ : jl_Mm} {o : jl_O} {q : Fin 4} {i x : Nat} {lv : List (Nat × jl_SV)} (d : decode M.2.1 pc = .ok (.astore_n q, 1)) (hi : (q : Nat) = i) (hl9 : i < M.2.2.1) (hl : ∀ G, (i, jl_vr G x) :: (jl_ml G ls).filter (fun q => !(q.1 == i) && !(q.1 + 1 == i && q.2.category == 2)) = jl_ml G lv) (k : k0_J G0 n0 M E nx ce sl (pc + 1) lv st σ o) : k0_J G0 n0 M E nx ce sl pc ls (.inl x :: st) σ o :=
  fun hf hn G hG => jr_astore_n (x := G.2.2.2.2.1 x) d hi hl9 (hl G) (k hf hn G hG)
theorem k0_iinc {G0 : jl_GC} {n0 : Nat} {M : jl_MC} {E : jl_EC} {nx ce sl pc : Nat} {ls : List (Nat × jl_SV)} {st : List jl_SV} {σ : jl_Mm} {o : jl_O} {i j : Nat} {n a : Int} {lv : List (Nat × jl_SV)} (d : decode M.2.1 pc = .ok (.iinc i n, 3)) (h : ls[j]? = some (i, .inr (jl_vi a))) (hl9 : i < M.2.2.1) (hl : ∀ G, (i, jl_vi (jl_add a n)) :: (jl_ml G ls).filter (fun q => !(q.1 == i) && !(q.1 + 1 == i && q.2.category == 2)) = jl_ml G lv) (k : k0_J G0 n0 M E nx ce sl (pc + 3) lv st σ o) : k0_J G0 n0 M E nx ce sl pc ls st σ o :=
  fun hf hn G hG => jr_iinc (j := j) d (by rw [List.getElem?_map, h]; rfl) hl9 (hl G) (k hf hn G hG)
theorem k0_goto {G0 : jl_GC} {n0 : Nat} {M : jl_MC} {E : jl_EC} {nx ce sl pc : Nat} {ls : List (Nat × jl_SV)} {st : List jl_SV} {σ : jl_Mm} {o : jl_O} {f : Int} {t : Nat} (d : decode M.2.1 pc = .ok (.goto f, 3)) (ht : (pc : Int) + f = (t : Int)) (k : k0_J G0 n0 M E nx ce sl t ls st σ o) : k0_J G0 n0 M E nx ce sl pc ls st σ o :=
  fun hf hn G hG => jr_goto d ht (k hf hn G hG)
theorem k0_geT {G0 : jl_GC} {n0 : Nat} {M : jl_MC} {E : jl_EC} {nx ce sl pc : Nat} {ls : List (Nat × jl_SV)} {st : List jl_SV} {σ : jl_Mm} {o : jl_O} {a b f : Int} {t : Nat} (d : decode M.2.1 pc = .ok (.if_icmp .ge f, 3)) (ht : (pc : Int) + f = (t : Int)) (ha : jl_n3 a) (hb : jl_n3 b) (h : b ≤ a) (k : k0_J G0 n0 M E nx ce sl t ls st σ o) : k0_J G0 n0 M E nx ce sl pc ls (.inr (jl_vi b) :: .inr (jl_vi a) :: st) σ o := by
  intro hf hn G hG
  have z := jr_icmp_ge (o1 := o) (o2 := o) d ht ha hb (fun _ => k hf hn G hG) (fun q => absurd h q)
  rw [if_pos h] at z
  exact z
theorem k0_geF {G0 : jl_GC} {n0 : Nat} {M : jl_MC} {E : jl_EC} {nx ce sl pc : Nat} {ls : List (Nat × jl_SV)} {st : List jl_SV} {σ : jl_Mm} {o : jl_O} {a b f : Int} {t : Nat} (d : decode M.2.1 pc = .ok (.if_icmp .ge f, 3)) (ht : (pc : Int) + f = (t : Int)) (ha : jl_n3 a) (hb : jl_n3 b) (h : ¬ b ≤ a) (k : k0_J G0 n0 M E nx ce sl (pc + 3) ls st σ o) : k0_J G0 n0 M E nx ce sl pc ls (.inr (jl_vi b) :: .inr (jl_vi a) :: st) σ o := by
  intro hf hn G hG
  have z := jr_icmp_ge (o1 := o) (o2 := o) d ht ha hb (fun q => absurd q h) (fun _ => k hf hn G hG)
  rw [if_neg h] at z
  exact z
theorem k0_getr {G0 : jl_GC} {n0 : Nat} {M : jl_MC} {E : jl_EC} {nx ce sl pc : Nat} {ls : List (Nat × jl_SV)} {st : List jl_SV} {σ : jl_Mm} {o : jl_O} {x y i idx n ci N : Nat} {Cn : String} {T : u_T} {ty : Nat → FieldType} (F : jl_CF ci Cn T N ty) (hk : jl_kd x = (ci, n)) (hx : x < nx) (hi : i < N) (ht : jl_ft ci i = 2) (hv : σ x i = (y : Int)) (hl : Cond.fieldLink M.1.cls idx (T i).1 (T i).2.1 (T i).2.2.1 ∈ jl_tbl) (d : decode M.2.1 pc = .ok (.getfield idx, 3)) (k : k0_J G0 n0 M E nx ce sl (pc + 3) ls (.inl y :: st) σ o) : k0_J G0 n0 M E nx ce sl pc ls (.inl x :: st) σ o :=
  fun hf hn G hG => jr_getr (lk := jl_l0) F hk hx hi rfl ht (by rw [hv]; exact Int.natCast_nonneg y) hl d (by rw [jl_gr, hv, Int.toNat_natCast]; exact k hf hn G hG)
theorem k0_getrN {G0 : jl_GC} {n0 : Nat} {M : jl_MC} {E : jl_EC} {nx ce sl pc : Nat} {ls : List (Nat × jl_SV)} {st : List jl_SV} {σ : jl_Mm} {o : jl_O} {x y i idx n ci N : Nat} {Cn host : String} {T : u_T} {ty : Nat → FieldType} (F : jl_CF ci Cn T N ty) (hk : jl_kd x = (ci, n)) (hx : x < nx) (hi : i < N) (ht : jl_ft ci i = 2) (hv : σ x i = (y : Int)) (hl : Cond.fieldLinkNest M.1.cls idx (T i).1 (T i).2.1 (T i).2.2.1 host ∈ jl_nw) (d : decode M.2.1 pc = .ok (.getfield idx, 3)) (k : k0_J G0 n0 M E nx ce sl (pc + 3) ls (.inl y :: st) σ o) : k0_J G0 n0 M E nx ce sl pc ls (.inl x :: st) σ o :=
  fun hf hn G hG => jr_getrN (lk := jl_l0) F hk hx hi rfl ht (by rw [hv]; exact Int.natCast_nonneg y) hl d (by rw [jl_gr, hv, Int.toNat_natCast]; exact k hf hn G hG)
/-- a field in its own constructor, final or not -/
theorem jr_put0 {lk : jl_LK} {G : jl_GC} {M : jl_MC} {E : jl_EC} {nx ce sl pc : Nat} {ls : List (Nat × Value)} {st : List Value} {σ : jl_Mm} {o : jl_O} {x i idx n ci N : Nat} {v : Int} {Cn : String} {T : u_T} {ty : Nat → FieldType} (F : jl_CF ci Cn T N ty) (hk : jl_kd x = (ci, n)) (hx : x < nx) (hi : i < N) (h0 : lk x i = none) (hl : Cond.fieldLink M.1.cls idx (T i).1 (T i).2.1 (T i).2.2.1 ∈ jl_tbl) (hnm : M.1.name = "<init>" ∧ (T i).1 = M.1.cls) (hW : jl_isr x i = false ∨ v < (nx : Int)) (hn : narrow (ty i) (jl_fv G.2.2.2.2.1 (jl_ft ci i) v) = jl_fv G.2.2.2.2.1 (jl_ft ci i) v) (hfit : fits (ty i) (jl_fv G.2.2.2.2.1 (jl_ft ci i) v) = true) (d : decode M.2.1 pc = .ok (.putfield idx, 3)) (k : jl_J lk G M E nx ce sl (pc + 3) ls st (jl_up σ x i v) o) : jl_J lk G M E nx ce sl pc ls (jl_fv G.2.2.2.2.1 (jl_ft ci i) v :: jl_vr G x :: st) σ o := by
  cases hfin : (T i).2.2.2 with
  | false => exact jr_put F hk hx hi h0 hl hfin hW hn hfit d k
  | true =>
    intro r τ ho p e s m args below meth c H locs la C X S L
    have hK := C.2.2.2.2.2.2.2.1.1
    refine va_putF C.1 C.2.1 (Ts := jl_tbl) C.2.2.2.2.2.1 F.2.1 ty F.2.2.1 F.2.2.2.1 C.2.2.2.2.1 hK X.2.1 X.1 S x (jl_he hx hk F.2.2.2.2.2) F.1 i hi (C.2.2.2.2.2.1 _ hl) (fun _ h => h) hfin (C.2.2.1.2.trans hnm.1) hnm.2 (F.2.2.1 i hi) hn hfit (by rw [jl_fs_len, ← F.2.2.2.2.1]; exact hi) d (fun H locs hP hD S => ?_)
    rw [← jl_en_up (cA := G.2.2.2.1) (σ := σ) hk F.2.2.2.2.2 h0, jl_ws_set (fun c' h => jl_up_ne c' h)] at hP hD
    have X : jl_R lk G (jl_up σ x i v) nx H := ⟨hD, hP, X.2.2.up hW⟩
    exact k r τ ho p e s m args below meth c H locs la C X S L
theorem k0_puti {G0 : jl_GC} {n0 : Nat} {M : jl_MC} {E : jl_EC} {nx ce sl pc : Nat} {ls : List (Nat × jl_SV)} {st : List jl_SV} {σ : jl_Mm} {o : jl_O} {x i idx n ci N : Nat} {v : Int} {Cn : String} {T : u_T} {ty : Nat → FieldType} (F : jl_CF ci Cn T N ty) (hk : jl_kd x = (ci, n)) (hx : x < nx) (hi : i < N) (ht : jl_ft ci i = 0) (hty : narrow (ty i) (jl_vi v) = jl_vi v ∧ fits (ty i) (jl_vi v) = true) (hl : Cond.fieldLink M.1.cls idx (T i).1 (T i).2.1 (T i).2.2.1 ∈ jl_tbl) (hnm : M.1.name = "<init>" ∧ (T i).1 = M.1.cls) (d : decode M.2.1 pc = .ok (.putfield idx, 3)) (k : k0_J G0 n0 M E nx ce sl (pc + 3) ls st (jl_up σ x i v) o) : k0_J G0 n0 M E nx ce sl pc ls (.inr (jl_vi v) :: .inl x :: st) σ o := by
  intro hf hn G hG
  have z : jl_fv G.2.2.2.2.1 (jl_ft ci i) v = jl_vi v := by rw [ht]; rfl
  have q := jr_put0 (lk := jl_l0) (G := G) (v := v) F hk hx hi rfl hl hnm (Or.inl (jl_isr_o hk F.2.2.2.2.2 (by rw [ht]; decide))) (by rw [z]; exact hty.1) (by rw [z]; exact hty.2) d (k (hf.up hx) hn G hG)
  rw [z] at q
  exact q
theorem k0_putl {G0 : jl_GC} {n0 : Nat} {M : jl_MC} {E : jl_EC} {nx ce sl pc : Nat} {ls : List (Nat × jl_SV)} {st : List jl_SV} {σ : jl_Mm} {o : jl_O} {x i idx n ci N : Nat} {v : Int} {Cn : String} {T : u_T} {ty : Nat → FieldType} (F : jl_CF ci Cn T N ty) (hk : jl_kd x = (ci, n)) (hx : x < nx) (hi : i < N) (ht : jl_ft ci i = 1) (hty : narrow (ty i) (jl_vl v) = jl_vl v ∧ fits (ty i) (jl_vl v) = true) (hl : Cond.fieldLink M.1.cls idx (T i).1 (T i).2.1 (T i).2.2.1 ∈ jl_tbl) (hnm : M.1.name = "<init>" ∧ (T i).1 = M.1.cls) (d : decode M.2.1 pc = .ok (.putfield idx, 3)) (k : k0_J G0 n0 M E nx ce sl (pc + 3) ls st (jl_up σ x i v) o) : k0_J G0 n0 M E nx ce sl pc ls (.inr (jl_vl v) :: .inl x :: st) σ o := by
  intro hf hn G hG
  have z : jl_fv G.2.2.2.2.1 (jl_ft ci i) v = jl_vl v := by rw [ht]; rfl
  have q := jr_put0 (lk := jl_l0) (G := G) (v := v) F hk hx hi rfl hl hnm (Or.inl (jl_isr_o hk F.2.2.2.2.2 (by rw [ht]; decide))) (by rw [z]; exact hty.1) (by rw [z]; exact hty.2) d (k (hf.up hx) hn G hG)
  rw [z] at q
  exact q
theorem k0_putr {G0 : jl_GC} {n0 : Nat} {M : jl_MC} {E : jl_EC} {nx ce sl pc : Nat} {ls : List (Nat × jl_SV)} {st : List jl_SV} {σ : jl_Mm} {o : jl_O} {x y i idx n ci N : Nat} {Cn : String} {T : u_T} {ty : Nat → FieldType} (F : jl_CF ci Cn T N ty) (hk : jl_kd x = (ci, n)) (hx : x < nx) (hi : i < N) (ht : jl_ft ci i = 2) (hy : y < nx) (hty : ∀ a : Nat, narrow (ty i) (.ref a) = .ref a ∧ fits (ty i) (.ref a) = true) (hl : Cond.fieldLink M.1.cls idx (T i).1 (T i).2.1 (T i).2.2.1 ∈ jl_tbl) (hnm : M.1.name = "<init>" ∧ (T i).1 = M.1.cls) (d : decode M.2.1 pc = .ok (.putfield idx, 3)) (k : k0_J G0 n0 M E nx ce sl (pc + 3) ls st (jl_up σ x i (y : Int)) o) : k0_J G0 n0 M E nx ce sl pc ls (.inl y :: .inl x :: st) σ o := by
  intro hf hn G hG
  have z : jl_fv G.2.2.2.2.1 (jl_ft ci i) (y : Int) = jl_vr G y := by rw [ht]; exact jl_fv_r _ _
  have q := jr_put0 (lk := jl_l0) (G := G) (v := (y : Int)) F hk hx hi rfl hl hnm (Or.inr (by omega)) (by rw [z]; exact (hty _).1) (by rw [z]; exact (hty _).2) d (k (hf.up hx) hn G hG)
  rw [z] at q
  exact q
theorem k0_iast {G0 : jl_GC} {n0 : Nat} {M : jl_MC} {E : jl_EC} {nx ce sl pc : Nat} {ls : List (Nat × jl_SV)} {st : List jl_SV} {σ : jl_Mm} {o : jl_O} {x n j : Nat} {i v : Int} (hk : jl_kd x = (20, n)) (hx : x < nx) (h3 : jl_n3 i) (hi : 0 ≤ i ∧ i < n) (hj : i.toNat = j) (d : decode M.2.1 pc = .ok (.iastore, 1)) (k : k0_J G0 n0 M E nx ce sl (pc + 1) ls st (jl_up σ x j v) o) : k0_J G0 n0 M E nx ce sl pc ls (.inr (jl_vi v) :: .inr (jl_vi i) :: .inl x :: st) σ o := by
  subst hj
  exact fun hf hn G hG => jr_iastore (lk := jl_l0) hk hx h3 hi d (k (hf.up hx) hn G hG)
theorem k0_cast {G0 : jl_GC} {n0 : Nat} {M : jl_MC} {E : jl_EC} {nx ce sl pc : Nat} {ls : List (Nat × jl_SV)} {st : List jl_SV} {σ : jl_Mm} {o : jl_O} {x n j : Nat} {i v : Int} (hk : jl_kd x = (22, n)) (hx : x < nx) (h3 : jl_n3 i) (hi : 0 ≤ i ∧ i < n) (hj : i.toNat = j) (hv : vp_nar .char (jl_i3 v) = jl_i3 v) (d : decode M.2.1 pc = .ok (.castore, 1)) (k : k0_J G0 n0 M E nx ce sl (pc + 1) ls st (jl_up σ x j v) o) : k0_J G0 n0 M E nx ce sl pc ls (.inr (jl_vi v) :: .inr (jl_vi i) :: .inl x :: st) σ o := by
  subst hj
  intro hf hn G hG r τ ho p e s m args below meth c H locs la C X S L
  have he : (jl_ws jl_l0 G σ nx)[x]? = some (G.2.2.2.2.1 x, jl_en G.2.2.2.2.1 G.2.2.2.1 jl_l0 x (σ x)) := jl_w_get hx
  rw [jl_en_i hk (Or.inr (Or.inl rfl))] at he
  refine va_cast C.1 C.2.1 C.2.2.2.2.2.2.2.1.1 X.2.1 X.1 S x 2 he rfl (jl_in3 h3 hi) d (fun H locs hP hD S => ?_)
  rw [hv] at hP hD
  rw [jl_cl3 h3, ← jl_up_i, ← jl_en_i (ad := G.2.2.2.2.1) (cA := G.2.2.2.1) (lk := jl_l0) (f := jl_up σ x i.toNat v x) hk (Or.inr (Or.inl rfl)), jl_ws_set (fun c' h => jl_up_ne c' h)] at hP hD
  have X : jl_R jl_l0 G (jl_up σ x i.toNat v) nx H := ⟨hD, hP, X.2.2.up (Or.inl (jl_isr_a hk (by decide) (by decide)))⟩
  exact k (hf.up hx) hn G hG r τ ho p e s m args below meth c H locs la C X S L
theorem k0_ra_up {ad : Nat → Nat} {σ : jl_Mm} {x j y : Nat} : jl_ra ad jl_l0 x (jl_up σ x j (y : Int) x) = va_up (jl_ra ad jl_l0 x (σ x)) j (some (ad y)) := by
  funext i
  by_cases h : i = j
  · subst h
    have h9 : ¬ ((y : Int) < 0) := by omega
    simp [jl_ra, jl_l0, va_up, jl_up, h9]
  · simp [jl_ra, jl_l0, va_up, jl_up, h]
theorem k0_aast {G0 : jl_GC} {n0 : Nat} {M : jl_MC} {E : jl_EC} {nx ce sl pc : Nat} {ls : List (Nat × jl_SV)} {st : List jl_SV} {σ : jl_Mm} {o : jl_O} {x y n mm j kk t ci : Nat} {i : Int} (hk : jl_kd x = (kk, n)) (hq : kk = 24 ∧ t = 4 ∧ ci = 7 ∨ kk = 25 ∧ t = 5 ∧ ci = 2) (hx : x < nx) (hy : jl_kd y = (ci, mm)) (hyx : y < nx) (h3 : jl_n3 i) (hi : 0 ≤ i ∧ i < n) (hj : i.toNat = j) (d : decode M.2.1 pc = .ok (.aastore, 1)) (k : k0_J G0 n0 M E nx ce sl (pc + 1) ls st (jl_up σ x j (y : Int)) o) : k0_J G0 n0 M E nx ce sl pc ls (.inl y :: .inr (jl_vi i) :: .inl x :: st) σ o := by
  subst hj
  intro hf hn G hG r τ ho p e s m args below meth c H locs la C X S L
  have he : (jl_ws jl_l0 G σ nx)[x]? = some (G.2.2.2.2.1 x, jl_en G.2.2.2.2.1 G.2.2.2.1 jl_l0 x (σ x)) := jl_w_get hx
  rw [jl_en_r hk (by omega)] at he
  have fin : ∀ (H1 : Heap) (locs1 : List Loc), va_P G.2.2.1 vwCl ((jl_ws jl_l0 G σ nx).set x (G.2.2.2.2.1 x, .inl (G.2.2.2.1 kk, n, .inr (.inr (.inr (.inr (va_up (jl_ra G.2.2.2.2.1 jl_l0 x (σ x)) (jl_i3 i).toNatClampNeg (some (G.2.2.2.2.1 y))))))))) H1 → va_D (jl_A G) ((jl_ws jl_l0 G σ nx).set x (G.2.2.2.2.1 x, .inl (G.2.2.2.1 kk, n, .inr (.inr (.inr (.inr (va_up (jl_ra G.2.2.2.2.1 jl_l0 x (σ x)) (jl_i3 i).toNatClampNeg (some (G.2.2.2.2.1 y))))))))) → va_S (jl_A G) s.heap H1 locs1 → W p G.1 e M.2.2.2.2 s m args below meth c H1 locs1 ce sl (k0_EA E r τ args s below) (F0 m (pc + 1) la (jl_ms G st)) := by
    intro H1 locs1 hP hD S1
    rw [jl_cl3 h3, ← k0_ra_up, ← jl_en_r (ad := G.2.2.2.2.1) (cA := G.2.2.2.1) (lk := jl_l0) (f := jl_up σ x i.toNat (y : Int) x) hk (by omega), jl_ws_set (fun c' h => jl_up_ne c' h)] at hP hD
    exact k (hf.up hx) hn G hG r τ ho p e s m args below meth c H1 locs1 la C ⟨hD, hP, X.2.2.up (Or.inr (by omega))⟩ S1 L
  rcases hq with ⟨rfl, rfl, rfl⟩ | ⟨rfl, rfl, rfl⟩
  · exact va_astq C.1 C.2.1 C.2.2.2.2.2.2.2.1.1 X.2.1 X.1 S x 4 y 7 he rfl (jl_he hyx hy (by decide)) jc_7.1 (jl_in3 h3 hi) d fin
  · exact va_astq C.1 C.2.1 C.2.2.2.2.2.2.2.1.1 X.2.1 X.1 S x 5 y 2 he rfl (jl_he hyx hy (by decide)) jc_2.1 (jl_in3 h3 hi) d fin
theorem k0_obj {G0 : jl_GC} {n0 : Nat} {M : jl_MC} {E : jl_EC} {nx ce sl pc : Nat} {ls : List (Nat × jl_SV)} {st : List jl_SV} {σ : jl_Mm} {o : jl_O} {x idx : Nat} (hl : Cond.methodLink M.1.cls idx Lib.objectInit ∈ jl_tbl) (hR : 1 ≤ M.2.2.2.2.frames ∧ 20 ≤ M.2.2.2.2.locals) (hw : ∀ G, ((jl_ms G st).map fun v => v.category).sum ≤ 8) (d : decode M.2.1 pc = .ok (.invokespecial idx, 3)) (k : k0_J G0 n0 M E nx ce sl (pc + 3) ls st σ o) : k0_J G0 n0 M E nx ce sl pc ls (.inl x :: st) σ o := by
  intro hf hn G hG r τ ho p e s m args below meth c H locs la C X S L
  exact W.objInit C.1 C.2.1 C.2.2.2.2.1 (C.2.2.2.2.2.1 _ hl) (C.2.2.2.2.2.1 _ jw_27) (C.2.2.2.2.2.1 _ jw_28) rfl (L.1.trans C.2.2.2.1.symm) (a := G.2.2.2.2.1 x) (rest := jl_ms G st) rfl d hR.1 (Nat.le_trans (Nat.add_le_add_right (lv_room (hw G)) 12) hR.2) (k hf hn G hG r τ ho p e s m args below meth c H locs la C X S L)
