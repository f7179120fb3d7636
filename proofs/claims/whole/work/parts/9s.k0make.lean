/-! MAKING, CALLING, ENDING -/
theorem k0_nk {nx : Nat} (h : nx ≤ 286) : ∀ c, c < nx → (jl_kd c).1 ≠ 99 := fun c hc => (by decide +kernel : ∀ c, c < 286 → (jl_kd c).1 ≠ 99) c (by omega)
theorem jl_en_ad {ad ad' : Nat → Nat} {cA : Nat → ClassId} {σ : jl_Mm} {nx c : Nat} (hc : c < nx) (hW : jl_W jl_l0 σ nx) (ha : ∀ r, r < nx → ad' r = ad r) (h99k : ∀ c, c < nx → (jl_kd c).1 ≠ 99) : jl_en ad' cA jl_l0 c (σ c) = jl_en ad cA jl_l0 c (σ c) := by
  by_cases h20 : (jl_kd c).1 < 20
  · simp only [jl_en, if_pos h20]
    refine congrArg (fun z => Sum.inr ((jl_kd c).1, z)) ?_
    refine List.map_congr_left (fun i _ => ?_)
    simp only [jl_f1, jl_l0]
    by_cases ht : jl_ft (jl_kd c).1 i = 2
    · rw [ht]
      by_cases h0 : σ c i < 0
      · simp only [jl_fv, if_pos h0]
      · have hlt := hW c i hc rfl (by simp [jl_isr, h20, ht])
        simp only [jl_fv, if_neg h0]
        rw [ha _ (by omega)]
    · unfold jl_fv
      split
      · rfl
      · rename_i h2; exact absurd h2 ht
      · rfl
  · simp only [jl_en, if_neg h20]
    refine congrArg (fun z => Sum.inl (cA (jl_kd c).1, (jl_kd c).2, z)) ?_
    unfold jl_ar
    split
    · rfl
    · split
      · rename_i h21 h24
        have : jl_ra ad' jl_l0 c (σ c) = jl_ra ad jl_l0 c (σ c) := by
          funext i
          simp only [jl_ra, jl_l0]
          by_cases h0 : σ c i < 0
          · rw [if_pos h0, if_pos h0]
          · by_cases h99 : (jl_kd c).1 < 99
            · have hlt := hW c i hc rfl (by simp [jl_isr, h24, h99])
              rw [if_neg h0, if_neg h0, ha _ (by omega)]
            · have hb := jl_kdw c
              have h9 : (jl_kd c).1 = 99 := by omega
              exact absurd h9 (h99k c hc)
        rw [this]
      · rfl
/-- the address of a new cell -/
def jl_adq (ad : Nat → Nat) (nx q : Nat) : Nat → Nat := fun c => if c = nx then q else ad c
theorem jl_ext_q {G : jl_GC} {nx q : Nat} : jl_ext G (jl_sad G (jl_adq G.2.2.2.2.1 nx q)) nx := ⟨_, rfl, fun c hc => by simp [jl_adq, Nat.ne_of_lt hc]⟩
theorem k0_ws {G : jl_GC} {σ : jl_Mm} {nx q : Nat} {e : va_E} (h99 : ∀ c, c < nx → (jl_kd c).1 ≠ 99) (hW : jl_W jl_l0 σ nx) (he : jl_en (jl_adq G.2.2.2.2.1 nx q) G.2.2.2.1 jl_l0 nx (σ nx) = e) : jl_ws jl_l0 (jl_sad G (jl_adq G.2.2.2.2.1 nx q)) σ (nx + 1) = jl_ws jl_l0 G σ nx ++ [(q, e)] := by
  unfold jl_ws jl_w
  rw [List.range_succ, List.map_append]
  congr 1
  · refine List.map_congr_left (fun c hc => ?_)
    have hc : c < nx := List.mem_range.mp hc
    have hne : c ≠ nx := Nat.ne_of_lt hc
    show (jl_adq G.2.2.2.2.1 nx q c, jl_en (jl_adq G.2.2.2.2.1 nx q) G.2.2.2.1 jl_l0 c (σ c)) = _
    rw [jl_en_ad (ad := G.2.2.2.2.1) hc hW (fun r hr => by simp [jl_adq, Nat.ne_of_lt hr]) h99]
    simp [jl_adq, hne]
  · show [(jl_adq G.2.2.2.2.1 nx q nx, jl_en (jl_adq G.2.2.2.2.1 nx q) G.2.2.2.1 jl_l0 nx (σ nx))] = _
    rw [he]
    simp [jl_adq]
theorem k0_W {σ : jl_Mm} {nx : Nat} (h : jl_W jl_l0 σ nx) (hf : k0_f σ nx) : jl_W jl_l0 σ (nx + 1) := by
  intro c i hc hl hr
  by_cases hcx : c = nx
  · subst hcx
    rw [hf _ (Nat.le_refl _), jl_df, if_pos hr]
    omega
  · have := h c i (by omega) hl hr
    omega
/-- behind a making: the cell is there -/
theorem k0_made {G0 : jl_GC} {n0 : Nat} {M : jl_MC} {E : jl_EC} {nx ce sl pc : Nat} {ls : List (Nat × jl_SV)} {st : List jl_SV} {σ : jl_Mm} {o : jl_O} {q : Nat} {en : va_E} {G : jl_GC} {r : Int} {τ : jl_Mm} {p : Program} {e : Env} {s : State} {m : MethodId} {args : Array Value} {below : List Frame} {meth : Method} {c : Code} {H1 : Heap} {locs : List Loc} {la : Array Slot} (h99 : nx < 286) (hf : k0_f σ nx) (hn : n0 ≤ nx) (hG : jl_ext G0 G n0) (hok : k0_ok nx ls st = true) (ho : o = some (r, τ)) (C : jl_C G M p s m args meth c) (hW : jl_W jl_l0 σ nx) (S : va_S (jl_A G) s.heap H1 locs) (L : lv_has la M.2.2.1 (jl_ml G ls)) (he : jl_en (jl_adq G.2.2.2.2.1 nx q) G.2.2.2.1 jl_l0 nx (jl_df nx) = en)
    (hP : va_P G.2.2.1 vwCl (jl_ws jl_l0 G σ nx ++ [(q, en)]) H1) (hD : va_D (jl_A G) (jl_ws jl_l0 G σ nx ++ [(q, en)]))
    (k : k0_J G0 n0 M E (nx + 1) ce sl pc ls (.inl nx :: st) σ o) :
    W p G.1 e M.2.2.2.2 s m args below meth c H1 locs ce sl (k0_EA E r τ args s below) (F0 m pc la (.ref q :: jl_ms G st)) := by
  have hx := jl_ext_q (G := G) (nx := nx) (q := q)
  have hw := k0_ws (G := G) (q := q) (e := en) (k0_nk (Nat.le_of_lt h99)) hW (by rw [hf _ (Nat.le_refl _)]; exact he)
  have z := k (hf.mono (Nat.le_succ _)) (Nat.le_succ_of_le hn) _ (hG.tr hx hn) r τ ho p e s m args below meth c H1 locs la C ⟨by rw [hw]; exact hD, by rw [hw]; exact hP, k0_W hW hf⟩ S (by rw [jl_ml_ext hx hok]; exact L)
  have e2 : jl_ms (jl_sad G (jl_adq G.2.2.2.2.1 nx q)) (.inl nx :: st) = .ref q :: jl_ms G st := by
    show Value.ref (jl_adq G.2.2.2.2.1 nx q nx) :: jl_ms _ st = _
    rw [jl_ms_ext hx hok]
    simp [jl_adq]
  rw [e2] at z
  exact z
def k0_d (t : Nat) : Value := match t with
  | 1 => .long 0
  | 2 => .null
  | _ => .int 0
theorem k0_dfv {ad : Nat → Nat} {t : Nat} : jl_fv ad t (if t = 2 then -1 else 0) = k0_d t := by
  by_cases h2 : t = 2
  · subst h2; rfl
  · rw [if_neg h2]
    exact match t, h2 with
    | 0, _ => rfl
    | 1, _ => rfl
    | 2, h => absurd rfl h
    | t + 3, _ => rfl
def k0_fs (ci : Nat) : List Value := (List.range (jl_nf ci)).map (fun j => k0_d (jl_ft ci j))
theorem k0_dfs {ad : Nat → Nat} {x ci n : Nat} (hk : jl_kd x = (ci, n)) (h20 : ci < 20) : jl_fs ad jl_l0 x ci (jl_df x) = k0_fs ci := by
  refine List.map_congr_left (fun j _ => ?_)
  have h24 : ¬ 24 ≤ ci := by omega
  have hd : jl_df x j = if jl_ft ci j = 2 then -1 else 0 := by
    simp only [jl_df, jl_isr, hk, h20, h24, decide_true, decide_false, Bool.true_and, Bool.false_and, Bool.or_false, decide_eq_true_eq]
  simp only [jl_f1, jl_l0]
  rw [hd]
  exact k0_dfv
theorem k0_hA {G : jl_GC} {M : jl_MC} {p : Program} {s : State} {m : MethodId} {args : Array Value} {meth : Method} {c : Code} (C : jl_C G M p s m args meth c) : ∀ q, s.heap.size ≤ q → jl_A G q := fun _ hq => Nat.le_trans C.2.2.2.2.2.2.2.2.1 hq
theorem k0_new {G0 : jl_GC} {n0 : Nat} {M : jl_MC} {E : jl_EC} {nx ce sl pc : Nat} {ls : List (Nat × jl_SV)} {st : List jl_SV} {σ : jl_Mm} {o : jl_O} {idx ci N N' : Nat} {Cn : String} {T : u_T} {ty : Nat → FieldType} (F : jl_CF ci Cn T N ty) (hk : jl_kd nx = (ci, N')) (hl : Cond.classLink M.1.cls idx Cn ∈ jl_tbl) (hi : Cond.instantiable Cn N ∈ jl_tbl) (hz : Cond.initialized Cn ∈ jl_tbl) (hd : ∀ j, j < N → defaultValue (ty j) = k0_d (jl_ft ci j)) (hc : ce + 1 ≤ M.2.2.2.2.cells ∧ sl + N ≤ M.2.2.2.2.slots) (hok : k0_ok nx ls st = true) (d : decode M.2.1 pc = .ok (.new idx, 3)) (k : k0_J G0 n0 M E (nx + 1) (ce + 1) (sl + N) (pc + 3) ls (.inl nx :: st) σ o) : k0_J G0 n0 M E nx ce sl pc ls st σ o := by
  intro hf hn G hG r τ ho p e s m args below meth c H locs la C X S L
  refine va_new (fs := k0_fs ci) C.1 C.2.1 (Ts := jl_tbl) C.2.2.2.2.2.1 F.2.1 ty F.2.2.1 C.2.2.2.2.1 (C.2.2.2.2.2.1 _ hl) (C.2.2.2.2.2.1 _ hi) (C.2.2.2.2.2.1 _ hz) C.2.2.2.2.2.2.2.1.1 X.2.1 X.1 S (k0_hA C) F.1 (fun j hj => ?_) hc.1 hc.2 d (fun q H1 hP hD S1 => ?_)
  · have hj2 : j < jl_nf ci := by rw [← F.2.2.2.2.1]; exact hj
    rw [hd j hj]
    simp [vp_V, k0_fs, hj2]
  · exact k0_made (jl_kdl hk (by have := F.2.2.2.2.2; omega)) hf hn hG hok ho C X.2.2 S1 L (by rw [jl_en_o hk F.2.2.2.2.2, k0_dfs hk F.2.2.2.2.2]) hP hD k
theorem k0_lit {N : Nat} {n : Int} (hN : n = (N : Int)) (hB : N ≤ 1000000) : ¬ jl_i3 n < 0 ∧ (jl_i3 n).toNatClampNeg = N := by
  subst hN
  have h3 : jl_n3 (N : Int) := ⟨by omega, by omega⟩
  refine ⟨fun h => ?_, by rw [jl_cl3 h3, Int.toNat_natCast]⟩
  have := (jl_lt3 h3 jl_n3_0).mp h
  omega
theorem k0_df0 {x k n : Nat} (hk : jl_kd x = (k, n)) (h20 : 20 ≤ k) (h24 : k < 24) (i : Nat) : jl_df x i = 0 := by
  rw [jl_df, jl_isr_a hk h20 h24]
  rfl
theorem k0_ni {G0 : jl_GC} {n0 : Nat} {M : jl_MC} {E : jl_EC} {nx ce sl pc : Nat} {ls : List (Nat × jl_SV)} {st : List jl_SV} {σ : jl_Mm} {o : jl_O} {N : Nat} {n : Int} (hk : jl_kd nx = (20, N)) (hN : n = (N : Int)) (hB : N ≤ 1000000) (hc : ce + 1 ≤ M.2.2.2.2.cells ∧ sl + N ≤ M.2.2.2.2.slots) (hok : k0_ok nx ls st = true) (d : decode M.2.1 pc = .ok (.newarray .int, 2)) (k : k0_J G0 n0 M E (nx + 1) (ce + 1) (sl + N) (pc + 2) ls (.inl nx :: st) σ o) : k0_J G0 n0 M E nx ce sl pc ls (.inr (jl_vi n) :: st) σ o := by
  intro hf hn G hG r τ ho p e s m args below meth c H locs la C X S L
  have hK := C.2.2.2.2.2.2.2.1.1
  refine va_newa (atype := .int) (a0 := (N, .inl (fun _ => 0))) C.1 C.2.1 (C.2.2.2.2.2.1 _ jw_47) (ty := .int) rfl hK X.2.1 X.1 S (k0_hA C) (fun cA => rfl) (k0_lit hN hB).1 (k0_lit hN hB).2 (Nat.le_trans (Nat.mul_le_mul_right _ hB) (Nat.le_of_ble_eq_true rfl)) hc.1 hc.2 d (fun q cA H1 hK1 hP hD S1 => ?_)
  have e1 : s.vm.findClass ("[" ++ (FieldType.int).toString) = some cA := (hK1.2 6 (cA, .int) rfl).2
  have e2 : s.vm.findClass ("[" ++ (FieldType.int).toString) = some (G.2.2.2.1 20) := (hK.2 0 (G.2.2.2.1 20, .int) rfl).2
  have e3 : cA = G.2.2.2.1 20 := Option.some.inj (e1.symm.trans e2)
  subst e3
  refine k0_made (jl_kdl hk (by decide)) hf hn hG hok ho C X.2.2 S1 L ?_ hP hD k
  rw [jl_en_i hk (Or.inl rfl)]
  have e4 : (fun i => jl_i3 (jl_df nx i)) = fun _ => 0 := by
    funext i
    rw [k0_df0 hk (by decide) (by decide) i]
    rfl
  rw [e4]
theorem k0_nj {G0 : jl_GC} {n0 : Nat} {M : jl_MC} {E : jl_EC} {nx ce sl pc : Nat} {ls : List (Nat × jl_SV)} {st : List jl_SV} {σ : jl_Mm} {o : jl_O} {N : Nat} {n : Int} (hk : jl_kd nx = (21, N)) (hN : n = (N : Int)) (hB : N ≤ 1000000) (hc : ce + 1 ≤ M.2.2.2.2.cells ∧ sl + N ≤ M.2.2.2.2.slots) (hok : k0_ok nx ls st = true) (d : decode M.2.1 pc = .ok (.newarray .long, 2)) (k : k0_J G0 n0 M E (nx + 1) (ce + 1) (sl + N) (pc + 2) ls (.inl nx :: st) σ o) : k0_J G0 n0 M E nx ce sl pc ls (.inr (jl_vi n) :: st) σ o := by
  intro hf hn G hG r τ ho p e s m args below meth c H locs la C X S L
  have hK := C.2.2.2.2.2.2.2.1.1
  refine va_newa (atype := .long) (a0 := (N, .inr (.inl (fun _ => 0)))) C.1 C.2.1 (C.2.2.2.2.2.1 _ jw_1540) (ty := .long) rfl hK X.2.1 X.1 S (k0_hA C) (fun cA => rfl) (k0_lit hN hB).1 (k0_lit hN hB).2 (Nat.le_trans (Nat.mul_le_mul_right _ hB) (Nat.le_of_ble_eq_true rfl)) hc.1 hc.2 d (fun q cA H1 hK1 hP hD S1 => ?_)
  have e1 : s.vm.findClass ("[" ++ (FieldType.long).toString) = some cA := (hK1.2 6 (cA, .long) rfl).2
  have e2 : s.vm.findClass ("[" ++ (FieldType.long).toString) = some (G.2.2.2.1 21) := (hK.2 1 (G.2.2.2.1 21, .long) rfl).2
  have e3 : cA = G.2.2.2.1 21 := Option.some.inj (e1.symm.trans e2)
  subst e3
  refine k0_made (jl_kdl hk (by decide)) hf hn hG hok ho C X.2.2 S1 L ?_ hP hD k
  rw [jl_en_l hk]
  have e4 : (fun i => jl_i6 (jl_df nx i)) = fun _ => 0 := by
    funext i
    rw [k0_df0 hk (by decide) (by decide) i]
    rfl
  rw [e4]
theorem k0_nc {G0 : jl_GC} {n0 : Nat} {M : jl_MC} {E : jl_EC} {nx ce sl pc : Nat} {ls : List (Nat × jl_SV)} {st : List jl_SV} {σ : jl_Mm} {o : jl_O} {N : Nat} {n : Int} (hk : jl_kd nx = (22, N)) (hN : n = (N : Int)) (hB : N ≤ 1000000) (hc : ce + 1 ≤ M.2.2.2.2.cells ∧ sl + N ≤ M.2.2.2.2.slots) (hok : k0_ok nx ls st = true) (d : decode M.2.1 pc = .ok (.newarray .char, 2)) (k : k0_J G0 n0 M E (nx + 1) (ce + 1) (sl + N) (pc + 2) ls (.inl nx :: st) σ o) : k0_J G0 n0 M E nx ce sl pc ls (.inr (jl_vi n) :: st) σ o := by
  intro hf hn G hG r τ ho p e s m args below meth c H locs la C X S L
  have hK := C.2.2.2.2.2.2.2.1.1
  refine va_newa (atype := .char) (a0 := (N, .inl (fun _ => 0))) C.1 C.2.1 (C.2.2.2.2.2.1 _ jw_1539) (ty := .char) rfl hK X.2.1 X.1 S (k0_hA C) (fun cA => rfl) (k0_lit hN hB).1 (k0_lit hN hB).2 (Nat.le_trans (Nat.mul_le_mul_right _ hB) (Nat.le_of_ble_eq_true rfl)) hc.1 hc.2 d (fun q cA H1 hK1 hP hD S1 => ?_)
  have e1 : s.vm.findClass ("[" ++ (FieldType.char).toString) = some cA := (hK1.2 6 (cA, .char) rfl).2
  have e2 : s.vm.findClass ("[" ++ (FieldType.char).toString) = some (G.2.2.2.1 22) := (hK.2 2 (G.2.2.2.1 22, .char) rfl).2
  have e3 : cA = G.2.2.2.1 22 := Option.some.inj (e1.symm.trans e2)
  subst e3
  refine k0_made (jl_kdl hk (by decide)) hf hn hG hok ho C X.2.2 S1 L ?_ hP hD k
  rw [jl_en_i hk (Or.inr (Or.inl rfl))]
  have e4 : (fun i => jl_i3 (jl_df nx i)) = fun _ => 0 := by
    funext i
    rw [k0_df0 hk (by decide) (by decide) i]
    rfl
  rw [e4]
theorem k0_nz {G0 : jl_GC} {n0 : Nat} {M : jl_MC} {E : jl_EC} {nx ce sl pc : Nat} {ls : List (Nat × jl_SV)} {st : List jl_SV} {σ : jl_Mm} {o : jl_O} {N : Nat} {n : Int} (hk : jl_kd nx = (23, N)) (hN : n = (N : Int)) (hB : N ≤ 1000000) (hc : ce + 1 ≤ M.2.2.2.2.cells ∧ sl + N ≤ M.2.2.2.2.slots) (hok : k0_ok nx ls st = true) (d : decode M.2.1 pc = .ok (.newarray .boolean, 2)) (k : k0_J G0 n0 M E (nx + 1) (ce + 1) (sl + N) (pc + 2) ls (.inl nx :: st) σ o) : k0_J G0 n0 M E nx ce sl pc ls (.inr (jl_vi n) :: st) σ o := by
  intro hf hn G hG r τ ho p e s m args below meth c H locs la C X S L
  have hK := C.2.2.2.2.2.2.2.1.1
  refine va_newa (atype := .boolean) (a0 := (N, .inl (fun _ => 0))) C.1 C.2.1 (C.2.2.2.2.2.1 _ jw_1541) (ty := .boolean) rfl hK X.2.1 X.1 S (k0_hA C) (fun cA => rfl) (k0_lit hN hB).1 (k0_lit hN hB).2 (Nat.le_trans (Nat.mul_le_mul_right _ hB) (Nat.le_of_ble_eq_true rfl)) hc.1 hc.2 d (fun q cA H1 hK1 hP hD S1 => ?_)
  have e1 : s.vm.findClass ("[" ++ (FieldType.boolean).toString) = some cA := (hK1.2 6 (cA, .boolean) rfl).2
  have e2 : s.vm.findClass ("[" ++ (FieldType.boolean).toString) = some (G.2.2.2.1 23) := (hK.2 3 (G.2.2.2.1 23, .boolean) rfl).2
  have e3 : cA = G.2.2.2.1 23 := Option.some.inj (e1.symm.trans e2)
  subst e3
  refine k0_made (jl_kdl hk (by decide)) hf hn hG hok ho C X.2.2 S1 L ?_ hP hD k
  rw [jl_en_i hk (Or.inr (Or.inr rfl))]
  have e4 : (fun i => jl_i3 (jl_df nx i)) = fun _ => 0 := by
    funext i
    rw [k0_df0 hk (by decide) (by decide) i]
    rfl
  rw [e4]
theorem k0_q7 {G0 : jl_GC} {n0 : Nat} {M : jl_MC} {E : jl_EC} {nx ce sl pc : Nat} {ls : List (Nat × jl_SV)} {st : List jl_SV} {σ : jl_Mm} {o : jl_O} {N idx : Nat} {n : Int} (hk : jl_kd nx = (24, N)) (hN : n = (N : Int)) (hB : N ≤ 1000000) (hl : Cond.classLink M.1.cls idx RX7 ∈ jl_tbl) (hc : ce + 1 ≤ M.2.2.2.2.cells ∧ sl + N ≤ M.2.2.2.2.slots) (hok : k0_ok nx ls st = true) (d : decode M.2.1 pc = .ok (.anewarray idx, 3)) (k : k0_J G0 n0 M E (nx + 1) (ce + 1) (sl + N) (pc + 3) ls (.inl nx :: st) σ o) : k0_J G0 n0 M E nx ce sl pc ls (.inr (jl_vi n) :: st) σ o := by
  intro hf hn G hG r τ ho p e s m args below meth c H locs la C X S L
  by_cases h9 : k0_ao s
  rotate_left
  · exact fun T hT XX => ⟨_, Steps.refl _, fun h => absurd h h9⟩
  have hK := C.2.2.2.2.2.2.2.1.1
  refine va_newq (C := RX7) C.1 C.2.1 C.2.2.2.2.1 (C.2.2.2.2.2.1 _ hl) h9.1 hK X.2.1 X.1 S (k0_hA C) (k0_lit hN hB).1 (k0_lit hN hB).2 (Nat.le_trans (Nat.mul_le_mul_right _ hB) (Nat.le_of_ble_eq_true rfl)) hc.1 hc.2 d (fun q cA H1 hK1 hP hD S1 => ?_)
  obtain ⟨-, -, -, -, -, e1⟩ := (hK1.2 6 (cA, .object RX7) rfl).2
  obtain ⟨-, -, -, -, -, e2⟩ := (hK.2 4 (G.2.2.2.1 24, .object RX7) rfl).2
  have e3 : cA = G.2.2.2.1 24 := Option.some.inj (e1.symm.trans e2)
  subst e3
  refine k0_made (jl_kdl hk (by decide)) hf hn hG hok ho C X.2.2 S1 L ?_ hP hD k
  rw [jl_en_r hk (by decide)]
  have e4 : jl_ra (jl_adq G.2.2.2.2.1 nx q) jl_l0 nx (jl_df nx) = fun _ => none := by
    funext i
    have h1 : jl_df nx i = -1 := by simp [jl_df, jl_isr, hk]
    simp [jl_ra, jl_l0, h1]
  rw [e4]
theorem k0_q2 {G0 : jl_GC} {n0 : Nat} {M : jl_MC} {E : jl_EC} {nx ce sl pc : Nat} {ls : List (Nat × jl_SV)} {st : List jl_SV} {σ : jl_Mm} {o : jl_O} {N idx : Nat} {n : Int} (hk : jl_kd nx = (25, N)) (hN : n = (N : Int)) (hB : N ≤ 1000000) (hl : Cond.classLink M.1.cls idx RX2 ∈ jl_tbl) (hc : ce + 1 ≤ M.2.2.2.2.cells ∧ sl + N ≤ M.2.2.2.2.slots) (hok : k0_ok nx ls st = true) (d : decode M.2.1 pc = .ok (.anewarray idx, 3)) (k : k0_J G0 n0 M E (nx + 1) (ce + 1) (sl + N) (pc + 3) ls (.inl nx :: st) σ o) : k0_J G0 n0 M E nx ce sl pc ls (.inr (jl_vi n) :: st) σ o := by
  intro hf hn G hG r τ ho p e s m args below meth c H locs la C X S L
  by_cases h9 : k0_ao s
  rotate_left
  · exact fun T hT XX => ⟨_, Steps.refl _, fun h => absurd h h9⟩
  have hK := C.2.2.2.2.2.2.2.1.1
  refine va_newq (C := RX2) C.1 C.2.1 C.2.2.2.2.1 (C.2.2.2.2.2.1 _ hl) h9.2 hK X.2.1 X.1 S (k0_hA C) (k0_lit hN hB).1 (k0_lit hN hB).2 (Nat.le_trans (Nat.mul_le_mul_right _ hB) (Nat.le_of_ble_eq_true rfl)) hc.1 hc.2 d (fun q cA H1 hK1 hP hD S1 => ?_)
  obtain ⟨-, -, -, -, -, e1⟩ := (hK1.2 6 (cA, .object RX2) rfl).2
  obtain ⟨-, -, -, -, -, e2⟩ := (hK.2 5 (G.2.2.2.1 25, .object RX2) rfl).2
  have e3 : cA = G.2.2.2.1 25 := Option.some.inj (e1.symm.trans e2)
  subst e3
  refine k0_made (jl_kdl hk (by decide)) hf hn hG hok ho C X.2.2 S1 L ?_ hP hD k
  rw [jl_en_r hk (by decide)]
  have e4 : jl_ra (jl_adq G.2.2.2.2.1 nx q) jl_l0 nx (jl_df nx) = fun _ => none := by
    funext i
    have h1 : jl_df nx i = -1 := by simp [jl_df, jl_isr, hk]
    simp [jl_ra, jl_l0, h1]
  rw [e4]
/-! contracts of constructors -/
def k0_Q (G : jl_GC) (nx : Nat) (τ : jl_Mm) (nf : Nat) : Array Value → State → Outcome → State → Prop := fun _ st oc t => oc = .returned none ∧ (∃ G', jl_ext G G' nx ∧ jl_R jl_l0 G' τ nf t.heap) ∧ k0_f τ nf ∧ nx ≤ nf ∧ va_F (jl_A G) st t
def k0_E (G : jl_GC) (M : jl_MC) (nx nf : Nat) : jl_EC := fun _ τ args s below => MQ below (k0_Q G nx τ nf) args s M.2.2.2.2.cells M.2.2.2.2.slots (jl_A G)
def k0_pc (G : jl_GC) (av : List Value) (nx : Nat) (σ : jl_Mm) : Array Value → State → Prop := fun a U => jl_pc jl_l0 G av nx σ a U ∧ k0_ao U
theorem k0_blind {G : jl_GC} {av : List Value} {nx : Nat} {σ : jl_Mm} : FrameBlind (k0_pc G av nx σ) := by
  intro a U g mk q
  exact ⟨jl_blind a U g mk q.1, k0_ao.moved (u := U) (U := U.calling g mk a) (Vm.Alike.refl U.vm) q.2⟩
def k0_Ct (G : jl_GC) (Y : jl_MC) (av : List Value) (nx nf : Nat) (σ τ : jl_Mm) : Prop := k0_f σ nx → Met G.1 Y.1 (Cond.code Y.1 Y.2.1 Y.2.2.1 Y.2.2.2.1 :: jl_tbl) Y.2.2.2.2 (k0_pc G av nx σ) (k0_Q G nx τ nf) Y.2.2.2.2.cells Y.2.2.2.2.slots (jl_A G)
theorem k0_met {G : jl_GC} {M : jl_MC} {av : List Value} {ls : List (Nat × jl_SV)} {nx nf : Nat} {σ τ : jl_Mm} (hp : plainFor M.1 = true) (hlen : (lg_sl av).length ≤ M.2.2.1) (hv : lv_args 0 av = jl_ml G ls) (k : k0_J G nx M (k0_E G M nx nf) nx 0 0 0 ls [] σ (some (0, τ))) : k0_Ct G M av nx nf σ τ := by
  intro hf
  refine jl_ofWF (cc := M.2.1) (maxL := M.2.2.1) (ret := M.2.2.2.1) hp rfl ?_
  intro p e s m args below meth c s₁ B hml hv2
  obtain ⟨⟨rfl, hX, hK, hH⟩, hao⟩ := hv2
  have hts := atoms_spec (ws := Cond.code M.1 M.2.1 M.2.2.1 M.2.2.2.1 :: jl_tbl) B.pre
  have hl := lv_entry av (n := M.2.2.1) hlen
  rw [lg_entry_eq]
  generalize (lg_sl av ++ List.replicate (M.2.2.1 - (lg_sl av).length) Slot.unset).toArray = la at hl ⊢
  rw [hv] at hl
  intro T hT XX
  obtain ⟨t, a1, b1⟩ := k hf (Nat.le_refl _) G jl_ext.rf 0 τ rfl p e s m _ below meth c s.heap [] la ⟨B.exec, B.bytes, ⟨B.returns, (name_of_methodNamed B.named B.method).1⟩, hml, findClass_of_methodNamed B.named, fun w h => hts w (List.mem_cons_of_mem _ h), B.notSynchronized, hK, hH⟩ hX va_S.rf hl T hT XX
  exact ⟨t, a1, b1 hao⟩
theorem k0_ret {G0 : jl_GC} {n0 : Nat} {M : jl_MC} {nx pc : Nat} {ls : List (Nat × jl_SV)} {σ : jl_Mm} (hr : M.2.2.2.1 = none) (d : decode M.2.1 pc = .ok (.return_, 1)) : k0_J G0 n0 M (k0_E G0 M n0 nx) nx M.2.2.2.2.cells M.2.2.2.2.slots pc ls [] σ (some (0, σ)) := by
  intro hf hn G hG r τ ho p e s m args below meth c H locs la C X S L
  cases ho
  obtain ⟨a, rfl, h⟩ := hG
  have z : W p G0.1 e M.2.2.2.2 s m args below meth c H locs M.2.2.2.2.cells M.2.2.2.2.slots (k0_E G0 M n0 nx 0 σ args s below) (F0 m pc la []) := W.vret C.1 C.2.1 (C.2.2.1.1.trans hr) (fun t ht hW => ⟨rfl, ⟨_, ⟨a, rfl, h⟩, by rw [ht]; exact X⟩, hf, hn, S.F ht⟩) S.2.2 d C.2.2.2.2.2.2.1
  intro T hT XX
  obtain ⟨t, a1, b1⟩ := z T hT XX
  exact ⟨t, a1, fun _ => b1⟩
def k0_MI (Y : jl_MC) (n : Nat) : Prop := Cond.instanceMethod Y.1 ∈ jl_tbl ∧ Cond.initialized Y.1.cls ∈ jl_tbl ∧ Cond.code Y.1 Y.2.1 Y.2.2.1 none ∈ jl_tbl ∧ Y.2.2.2.1 = none ∧ Y.1.name = "<init>" ∧ (Y.1.cls ≠ "java/lang/invoke/MethodHandle" ∧ Y.1.cls ≠ "java/lang/invoke/VarHandle" ∧ (parseMethodDescriptor Y.1.desc).map (fun d => d.parameters.length) = some n)
theorem k0_run {G0 : jl_GC} {n0 : Nat} {M : jl_MC} {E : jl_EC} {nx ce sl pc : Nat} {ls : List (Nat × jl_SV)} {st : List jl_SV} {σ : jl_Mm} {o : jl_O} {Y : jl_MC} {x nf : Nat} {stk : List Value} {τ1 : jl_Mm} {a : Array Value} {G : jl_GC} {r : Int} {τ : jl_Mm} {p : Program} {e : Env} {s : State} {m : MethodId} {args : Array Value} {below : List Frame} {meth : Method} {c : Code} {H : Heap} {locs : List Loc} {la : Array Slot} (hn : n0 ≤ nx) (hG : jl_ext G0 G n0) (hok : k0_ok nx ls st = true) (ho : o = some (r, τ)) (C : jl_C G M p s m args meth c) (S : va_S (jl_A G) s.heap H locs) (L : lv_has la M.2.2.1 (jl_ml G ls)) (hr : va_Run p G.1 e M.2.2.2.2 s m args below meth c H locs ce sl Y.2.2.2.2.cells Y.2.2.2.2.slots (F0 m pc la stk) (jl_ms G st) (k0_Q G nx τ1 nf a) (jl_A G)) (k : k0_J G0 n0 M E nf (ce + Y.2.2.2.2.cells) (sl + Y.2.2.2.2.slots) (pc + 3) ls st τ1 o) : W p G.1 e M.2.2.2.2 s m args below meth c H locs ce sl (k0_EA E r τ args s below) (F0 m pc la stk) := by
  intro T hT XX
  obtain ⟨v, st₀, t, T', L1, h0, X', hL, e1, e2, ⟨hv, ⟨G', hx', hR'⟩, hff, hle, hz, hk⟩, stp⟩ := hr T hT XX
  cases hv
  rw [h0] at hz hk
  have S1 : va_S (jl_A G) s.heap T'.heap (locs ++ L1) := ⟨Nat.le_trans S.1 (by rw [e1]; exact hz), fun q h1 h2 => by rw [e1, hk q (Nat.lt_of_lt_of_le h1 S.1) h2]; exact S.2.1 q h1 h2, fun q hq => by
      rcases List.mem_append.mp hq with h | h
      · exact S.2.2 q h
      · exact hL q h⟩
  have e3 := jl_ml_ext hx' hok
  have e4 := jl_ms_ext hx' hok
  have hG' := hG.tr hx' hn
  obtain ⟨ad, rfl, h9⟩ := hx'
  have z := k hff (Nat.le_trans hn hle) _ hG' r τ ho p e s m args below meth c T'.heap (locs ++ L1) la C (by rw [e1]; exact hR') S1 (by rw [e3]; exact L)
  rw [e4] at z
  obtain ⟨t2, a1, b1⟩ := z T' rfl X'
  exact ⟨t2, stp t2 a1, b1⟩
theorem k0_call {G0 : jl_GC} {n0 : Nat} {M : jl_MC} {E : jl_EC} {nx ce sl pc : Nat} {ls : List (Nat × jl_SV)} {st : List jl_SV} {σ : jl_Mm} {o : jl_O} {Y : jl_MC} {x nf idx : Nat} {As stk : List jl_SV} {τ1 : jl_Mm} (hct : ∀ G, k0_Ct G Y (jl_vr G x :: jl_ms G As) nx nf σ τ1) (hY : k0_MI Y As.length) (hl : Cond.methodLink M.1.cls idx Y.1 ∈ jl_tbl) (hR : jl_fit M Y) (hs : stk = As.reverse ++ .inl x :: st) (hok : k0_ok nx ls st = true) (hw : ∀ G, ((jl_ms G st).map fun v => v.category).sum ≤ 8) (hc : ce + Y.2.2.2.2.cells ≤ M.2.2.2.2.cells ∧ sl + Y.2.2.2.2.slots ≤ M.2.2.2.2.slots) (d : decode M.2.1 pc = .ok (.invokespecial idx, 3)) (k : k0_J G0 n0 M E nf (ce + Y.2.2.2.2.cells) (sl + Y.2.2.2.2.slots) (pc + 3) ls st τ1 o) : k0_J G0 n0 M E nx ce sl pc ls stk σ o := by
  subst hs
  intro hf hn G hG r τ ho p e s m args below meth c H locs la C X S L
  obtain ⟨hi1, hi3, hi4, hi6, hi7, hi5⟩ := hY
  have hts := C.2.2.2.2.2.1
  have hct1 := hct G hf
  rw [hi6] at hct1
  by_cases h9 : k0_ao s
  rotate_left
  · exact fun T hT XX => ⟨_, Steps.refl _, fun h => absurd h h9⟩
  have hlen : (jl_ms G As).length = As.length := List.length_map ..
  refine k0_run (Y := Y) (x := x) (σ := σ) (a := (Value.ref (G.2.2.2.2.1 x) :: jl_ms G As).toArray) hn hG hok ho C S L ?_ k
  exact va_runI ⟨C.1, C.2.1, C.2.2.2.1, C.2.2.2.2.1, hts⟩ hct1 ⟨callB_of As.length hts (jl_goodIn (jl_ws_in hi4)) rfl rfl rfl (hts _ hi3) (hts _ hl) hi5 hR, hi7, hts _ hi1⟩ ⟨k0_blind, fun U hU hW => ⟨⟨rfl, by rw [hU]; exact X, C.2.2.2.2.2.2.2.1.warm hW, by rw [hU]; exact jl_H.S C.2.2.2.2.2.2.2.2 S⟩, h9.moved hW.alike⟩⟩ rfl hlen L.1 (by simp [jl_re]) (lv_room (hw G)) d hc
theorem k0_callN {G0 : jl_GC} {n0 : Nat} {M : jl_MC} {E : jl_EC} {nx ce sl pc : Nat} {ls : List (Nat × jl_SV)} {st : List jl_SV} {σ : jl_Mm} {o : jl_O} {Y : jl_MC} {x nf idx : Nat} {As stk : List jl_SV} {τ1 : jl_Mm} {host : String} (hct : ∀ G, k0_Ct G Y (jl_vr G x :: jl_ms G As) nx nf σ τ1) (hY : k0_MI Y As.length) (hl : Cond.methodLinkNest M.1.cls idx Y.1 host ∈ jl_nw) (hR : jl_fit M Y) (hs : stk = As.reverse ++ .inl x :: st) (hok : k0_ok nx ls st = true) (hw : ∀ G, ((jl_ms G st).map fun v => v.category).sum ≤ 8) (hc : ce + Y.2.2.2.2.cells ≤ M.2.2.2.2.cells ∧ sl + Y.2.2.2.2.slots ≤ M.2.2.2.2.slots) (d : decode M.2.1 pc = .ok (.invokespecial idx, 3)) (k : k0_J G0 n0 M E nf (ce + Y.2.2.2.2.cells) (sl + Y.2.2.2.2.slots) (pc + 3) ls st τ1 o) : k0_J G0 n0 M E nx ce sl pc ls stk σ o := by
  subst hs
  intro hf hn G hG r τ ho p e s m args below meth c H locs la C X S L
  obtain ⟨hi1, hi3, hi4, hi6, hi7, hi5⟩ := hY
  have hts := C.2.2.2.2.2.1
  have hct1 := hct G hf
  rw [hi6] at hct1
  by_cases h9 : k0_ao s
  rotate_left
  · exact fun T hT XX => ⟨_, Steps.refl _, fun h => absurd h h9⟩
  have hlen : (jl_ms G As).length = As.length := List.length_map ..
  refine k0_run (Y := Y) (x := x) (σ := σ) (a := (Value.ref (G.2.2.2.2.1 x) :: jl_ms G As).toArray) hn hG hok ho C S L ?_ k
  exact va_runIN ⟨C.1, C.2.1, C.2.2.2.1, C.2.2.2.2.1, hts⟩ hct1 ⟨va_cnB As.length hts (jl_goodIn (jl_ws_in hi4)) rfl rfl rfl (C.2.2.2.2.2.2.2.1.2.2.2.1 _ hl) (hts _ hi3) hi5 hR, hi7, hts _ hi1⟩ ⟨k0_blind, fun U hU hW => ⟨⟨rfl, by rw [hU]; exact X, C.2.2.2.2.2.2.2.1.warm hW, by rw [hU]; exact jl_H.S C.2.2.2.2.2.2.2.2 S⟩, h9.moved hW.alike⟩⟩ rfl hlen L.1 (by simp [jl_re]) (lv_room (hw G)) d hc
