/-! PURE, both: the codes of a street and of a question, what they tell of a LIE -/
def kv_val (env : Int → Int) (of : Int → Int → Int) (D : List Int) : Int := (kv_run env of D []).headD 0
/-- codes that tell one: a test, or a sum -/
def kv_T (kind : Nat) (t : Bool) (D : List Int) : Prop := jq_ty D [] = some [t] ∧ ∀ c ∈ D, jq_cq kind c
theorem kv_runok {env : Int → Int} {of : Int → Int → Int} : ∀ (D : List Int) (ts us : List Bool) (vs : List Int), kv_ok ts vs → jq_ty D ts = some us → (∀ c ∈ D, 40 ≤ c → c < 50 → kv_b (env c)) → (∀ c ∈ D, c = 60 ∨ c = 61 → ∀ v, kv_b v → kv_b (of c v)) → kv_ok us (kv_run env of D vs) := by
  intro D
  induction D with
  | nil => intro ts us vs h ht _ _; rw [jq_ty] at ht; cases ht; exact h
  | cons c D ih =>
    intro ts us vs h ht he ho
    rw [jq_ty] at ht
    cases h1 : jq_t1 c ts with
    | none => rw [h1] at ht; cases ht
    | some q =>
      rw [h1, Option.bind_some] at ht
      by_cases hq : q.length ≤ 128
      · rw [if_pos hq] at ht
        exact ih q us _ (kv_ok1 h h1 (he c (List.mem_cons_self ..)) (ho c (List.mem_cons_self ..))) ht (fun c hc => he c (List.mem_cons_of_mem _ hc)) (fun c hc => ho c (List.mem_cons_of_mem _ hc))
      · rw [if_neg hq] at ht; cases ht
theorem kv_val_ok {env : Int → Int} {of : Int → Int → Int} {D : List Int} {t : Bool} (h : jq_ty D [] = some [t]) (he : ∀ c ∈ D, 40 ≤ c → c < 50 → kv_b (env c)) (ho : ∀ c ∈ D, c = 60 ∨ c = 61 → ∀ v, kv_b v → kv_b (of c v)) : kv_run env of D [] = [kv_val env of D] ∧ (if t = true then kv_val env of D = 0 ∨ kv_val env of D = 1 else kv_b (kv_val env of D)) := by
  have k := kv_runok (env := env) (of := of) D [] [t] [] trivial h he ho
  rw [kv_val]
  match kv_run env of D [], k with
  | [v], k => exact ⟨rfl, k.1⟩
theorem kv_cg {env env' : Int → Int} {of of' : Int → Int → Int} : ∀ (D vs : List Int), (∀ c ∈ D, 40 ≤ c → c < 60 → env c = env' c) → (∀ c ∈ D, 60 ≤ c → c < 1000 → ∀ v, of c v = of' c v) → kv_run env of D vs = kv_run env' of' D vs := by
  intro D
  induction D with
  | nil => intros; rfl
  | cons c D ih =>
    intro vs h1 h2
    rw [kv_run, kv_run]
    have e : kv_1 env of c vs = kv_1 env' of' c vs := by
      unfold kv_1
      by_cases c0 : 1000 ≤ c
      · rw [if_pos c0, if_pos c0]
      · rw [if_neg c0, if_neg c0]
        by_cases c1 : 60 ≤ c
        · rw [if_pos c1, if_pos c1]
          cases vs with
          | nil => rfl
          | cons v r => simp only [h2 c (List.mem_cons_self ..) c1 (by omega)]
        · rw [if_neg c1, if_neg c1]
          by_cases c2 : 40 ≤ c
          · rw [if_pos c2, if_pos c2, h1 c (List.mem_cons_self ..) c2 (by omega)]
          · rw [if_neg c2, if_neg c2]
    rw [e]
    exact ih _ (fun c hc => h1 c (List.mem_cons_of_mem _ hc)) (fun c hc => h2 c (List.mem_cons_of_mem _ hc))
theorem kv_cq {kind : Nat} {c : Int} (h : jq_cq kind c) (h1 : 40 ≤ c) (h2 : c < 1000) : (kind = 0 → c = 40 ∨ c = 41) ∧ (kind = 1 → c = 40 ∨ c = 42 ∨ c = 43 ∨ c = 44 ∨ c = 45) ∧ (kind = 2 → c = 40 ∨ c = 42 ∨ c = 43 ∨ c = 44 ∨ c = 45 ∨ c = 46) := by
  obtain ⟨-, h⟩ := h
  rcases h with h | h | ⟨w, hw, hc⟩
  · omega
  · omega
  · refine ⟨fun k => ?_, fun k => ?_, fun k => ?_⟩
    · subst k
      have : w = 19 ∨ w = 20 := by simpa [jq_al] using hw
      rcases this with rfl | rfl <;> simp [jq_cd] at hc <;> omega
    · subst k
      have : w = 19 ∨ w = 15 ∨ w = 16 ∨ w = 17 ∨ w = 18 := by simpa [jq_al] using hw
      rcases this with rfl | rfl | rfl | rfl | rfl <;> simp [jq_cd] at hc <;> omega
    · subst k
      have : w = 19 ∨ w = 15 ∨ w = 16 ∨ w = 17 ∨ w = 18 ∨ w = 3 := by simpa [jq_al] using hw
      rcases this with rfl | rfl | rfl | rfl | rfl | rfl <;> simp [jq_cd] at hc <;> omega
/-- how draughty: the codes of drafts, an hour, a window -/
def ks_c9 (v : Int) : Int := if v < 0 then 0 else if 9 < v then 9 else v
def ks_dr (D : List Int) (h w : Int) : Int := ks_c9 (kv_val (fun c => if c = 40 then h else w) (fun _ v => v) D)
theorem ks_c9_b (v : Int) : 0 ≤ ks_c9 v ∧ ks_c9 v ≤ 9 := by
  rw [ks_c9]
  split
  · omega
  · split <;> omega
/-- what a word is for a LIE; what a word of a number is -/
def ks_env (Z : jz_Z) (D : List Int) (a : Nat → Int) (held : Int) (l : Nat) : Int → Int := fun c =>
  if c = 40 then a 0 else if c = 41 then a (2 + ks_ow Z l) else if c = 42 then a (8 + l) else if c = 43 then ks_near Z a l
  else if c = 44 then ks_dr D (a 0) (a (2 + ks_ow Z l)) else if c = 45 then a (16 + l) else if c = 46 then Z.2.1 3 (ks_ow Z l)
  else if c = 47 then ((l : Nat) : Int) else if c = 48 then (if 0 < a (8 + l) then 1 else 0) else held
def ks_oo (Z : jz_Z) (a : Nat → Int) : Int → Int → Int := fun c v =>
  if c = 60 then (if 0 ≤ v ∧ v < ((ks_nl Z : Nat) : Int) then a (8 + v.toNat) else 0) else (if 0 ≤ v ∧ v < ((ks_nw Z : Nat) : Int) then ks_in Z a v else 0)
theorem ks_env_b {Z : jz_Z} {D : List Int} {a : Nat → Int} {held : Int} {l : Nat} (hZ : kz_V Z) (hV : ks_V Z a) (hl : l < ks_nl Z) (hh : 0 ≤ held ∧ held ≤ 1) (c : Int) : kv_b (ks_env Z D a held l c) := by
  have h8 := hZ.l
  have ho := hZ.o hl
  have hp := hZ.p
  have hw := hZ.w
  have h1 := hV.1
  have h2 := hV.2.2.1 _ ho.2.1
  have h3 := hV.2.2.2 l (by omega)
  have h4 := ku_n_ge (ks_nearP Z a l) (ks_nl Z)
  have h5 := ks_c9_b (kv_val (fun c => if c = 40 then a 0 else a (2 + ks_ow Z l)) (fun _ v => v) D)
  have h6 := (hZ.2.2.2.2.2.2.1 (ks_ow Z l) (by omega)).2
  have e4 : ks_near Z a l = ku_n (ks_nearP Z a l) (ks_nl Z) := rfl
  have e5 : ks_dr D (a 0) (a (2 + ks_ow Z l)) = ks_c9 (kv_val (fun c => if c = 40 then a 0 else a (2 + ks_ow Z l)) (fun _ v => v) D) := rfl
  simp only [ks_env, kv_b]
  rw [e4, e5]
  by_cases c0 : c = 40
  · rw [if_pos c0]; omega
  rw [if_neg c0]
  by_cases c0 : c = 41
  · rw [if_pos c0]; omega
  rw [if_neg c0]
  by_cases c0 : c = 42
  · rw [if_pos c0]; omega
  rw [if_neg c0]
  by_cases c0 : c = 43
  · rw [if_pos c0]; omega
  rw [if_neg c0]
  by_cases c0 : c = 44
  · rw [if_pos c0]; omega
  rw [if_neg c0]
  by_cases c0 : c = 45
  · rw [if_pos c0]; omega
  rw [if_neg c0]
  by_cases c0 : c = 46
  · rw [if_pos c0]; omega
  rw [if_neg c0]
  by_cases c0 : c = 47
  · rw [if_pos c0]; omega
  rw [if_neg c0]
  by_cases c0 : c = 48
  · rw [if_pos c0]; split <;> omega
  rw [if_neg c0]
  omega
theorem ks_oo_b {Z : jz_Z} {a : Nat → Int} (hZ : kz_V Z) (hV : ks_V Z a) (c v : Int) : kv_b (ks_oo Z a c v) := by
  have h8 := hZ.l
  have hg := ku_n_ge (ks_inP Z a v) (ks_nl Z)
  have e : ks_in Z a v = ku_n (ks_inP Z a v) (ks_nl Z) := rfl
  simp only [ks_oo, kv_b]
  rw [e]
  split
  · split
    · have := hV.2.2.2 v.toNat (by omega)
      omega
    · omega
  · split <;> omega
/-- the class's Code q holds D as its part w -/
def kc_C (q w : Nat) (D : List Int) (s : jl_Mm) : Prop :=
  ∃ f t : Nat, jl_g s (q + 2) w = (f : Int) ∧ jl_g s (q + 3) w = (t : Int) ∧ f + D.length = t ∧ t ≤ 1608 ∧ (∀ i (h : i < D.length), jl_g s (q + 1) (f + i) = jq_U D[i]) ∧
    (43 ∈ D → jl_and (jl_shr (jl_g s (q + 4) w) 16) 1 = 1) ∧ (44 ∈ D → jl_and (jl_shr (jl_g s (q + 4) w) 17) 1 = 1)
theorem kc_C.fr {q w : Nat} {D : List Int} {s τ : jl_Mm} {F : jp_F} (h : kc_C q w D s) (f : jp_fr F s τ) (z : ∀ c i, q < c → c < q + 5 → jp_in F c i = false) : kc_C q w D τ := by
  obtain ⟨a, b, h1, h2, h3, h4, h5, h6, h7⟩ := h
  refine ⟨a, b, (f.g _ _ (z _ _ (by omega) (by omega))).trans h1, (f.g _ _ (z _ _ (by omega) (by omega))).trans h2, h3, h4, fun i hi => (f.g _ _ (z _ _ (by omega) (by omega))).trans (h5 i hi), fun m => ?_, fun m => ?_⟩
  · rw [f.g _ _ (z _ _ (by omega) (by omega))]; exact h6 m
  · rw [f.g _ _ (z _ _ (by omega) (by omega))]; exact h7 m
theorem kc_run {q1 q2 w : Nat} {D : List Int} {t : Bool} {env : Int → Int} {of : Int → Int → Int} {s : jl_Mm} (hq : kc_q q1) (hk : (jl_kd q2).1 = 0) (hq2 : q2 + 4 < 191) (hw : w < 3) (hC : kc_C q2 w D s) (hT : jq_ty D [] = some [t]) (he : ∀ c ∈ D, 40 ≤ c → c < 50 → kv_b (env c) ∧ jl_g s 192 (kv_wi c) = env c) (ho : ∀ c ∈ D, c = 60 ∨ c = 61 → ∀ v, kv_b v → kv_b (of c v) ∧ ∀ τ, jp_fr [(191, 0, 0)] s τ → jf_X5_ofOne q1 (c - 36) v τ = some (of c v, τ)) : jE (jf_X5_run q1 q2 (w : Int) s) (kv_val env of D) [(191, 0, 0)] s (fun _ => True) := by
  obtain ⟨f, to, h1, h2, h3, h4, h5, h6, h7⟩ := hC
  rw [jf_X5_run, if_pos (kc_q7 hq), if_pos hk, if_pos (by omega), Int.toNat_natCast, h1, jp_let]
  exact kc_runL hw h4 (kc_q7 hq) (by omega) h2 D jl_fu f [] [t] [] s _ h3 (by show D.length < 4000; omega) trivial (Nat.zero_le _) hT trivial jp_fr.rf h5 he ho (kv_val_ok hT (fun c hc x y => (he c hc x y).1) (fun c hc x v hv => (ho c hc x v hv).1)).1
