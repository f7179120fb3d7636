/-! PURE: the reference's sums are read as jq_g tells -/
theorem jq_smL_k {T : Nat → Int} {e : Nat} {f : jq_S → jq_S} {c1 c2 : Int} {st : jq_S} (h : st.1 ≠ 0) (h1 : c1 ≠ -1) (h2 : c2 ≠ -1) (n : Nat) : jq_smL T e f c1 c2 n st = st := by
  cases n with
  | zero => rfl
  | succ n =>
    rw [jq_smL, if_neg]
    rw [jq_pc, jq_atk h, jq_pk_end (Nat.le_refl _)]
    omega
theorem jq_xs_k {T : Nat → Int} {e : Nat} {c : Int} {st : jq_S} (h : st.1 ≠ 0) (hc : c ≠ -1) : jq_xs T e c st = st := by
  rw [jq_xs, if_neg, jq_flk h]
  intro q
  exact h (jq_pc_in q hc).1
theorem jq_xs_y {T : Nat → Int} {e : Nat} {c : Int} {st : jq_S} (h : st.1 = 0) (hc : jq_pk T e st.2.1 = c) : jq_xs T e c st = (0, jq_sk T e (st.2.1 + 1), st.2.2) := by
  rw [jq_xs, if_pos (by rw [jq_pc, jq_at0 h]; exact hc), jq_mv0 h, jq_at0 h]
theorem jq_xs_n {T : Nat → Int} {e : Nat} {c : Int} {st : jq_S} (h : st.1 = 0) (hc : jq_pk T e st.2.1 ≠ c) : jq_xs T e c st = (1, st.2.1, st.2.2) := by
  rw [jq_xs, if_neg (by rw [jq_pc, jq_at0 h]; exact hc), jq_fl0 h, jq_at0 h]
/-- what a reading r comes to: a fault, or the place behind it -/
def jy_to (r : jq_S) (Post : jl_Mm → Prop) (C : Nat → List Int → Prop) : Prop := (r.1 ≠ 0 → ∀ τ, jy_M r.1 r.2.1 τ → Post τ) ∧ (r.1 = 0 → C r.2.1 r.2.2)
def jy_S5 (T : Nat → Int) (e kind d : Nat) : Prop := ∀ (o p : Nat) (B V cs : List Int) (l1 : Int) (Post : jl_Mm → Prop), jq_nd 5 o ≤ d → o ≤ 6 → p ≤ e → jq_sk T e p = p → jy_to (jq_g T e kind d 5 0 o (0, p, cs)) Post (fun p' cs' => jy_CE T e kind o B.length p' (B ++ V) cs' l1 Post) → jy_CP T e kind o B.length p (B ++ V) cs l1 Post
def jy_S6 (T : Nat → Int) (e kind d : Nat) : Prop := ∀ (o p : Nat) (B V cs : List Int) (l1 : Int) (Post : jl_Mm → Prop), jq_nd 6 o ≤ d → o ≤ 6 → p ≤ e → jq_sk T e p = p → ¬ jq_dg (jq_pk T e p) → jq_pk T e p ≠ 40 → jy_to (jq_g T e kind d 6 (jq_wn T e p) o (0, p, cs)) Post (fun p' cs' => jy_CE T e kind o B.length p' (B ++ V) cs' l1 Post) → jy_CP T e kind o B.length p (B ++ V) cs l1 Post
def jy_S7 (T : Nat → Int) (e kind d : Nat) : Prop := ∀ (o q : Nat) (a : Int) (B V cs : List Int) (l1 : Int) (Post : jl_Mm → Prop), jq_nd 7 o ≤ d → o ≤ 6 → q ≤ e → jq_sk T e q = q → (a = 30 ∨ a = 31) → jy_to (jq_g T e kind d 7 a o (0, q, cs)) Post (fun p' cs' => jy_CE T e kind o B.length p' (B ++ V) cs' l1 Post) → (jq_pk T e q ≠ 40 → ∀ τ, jy_M 1 q τ → Post τ) ∧ (jq_pk T e q = 40 → ¬ o < 6 → ∀ τ, jy_M 4 q τ → Post τ) ∧ (jq_pk T e q = 40 → o < 6 → jy_CP T e kind (o + 1) B.length (jq_sk T e (q + 1)) (B ++ V ++ [if a = 30 then 21 else 22]) cs l1 Post)
def jy_S4 (T : Nat → Int) (e kind d : Nat) : Prop := ∀ (o p : Nat) (B V cs : List Int) (l1 : Int) (Post : jl_Mm → Prop), jq_nd 4 o ≤ d → o ≤ 6 → p ≤ e → jq_sk T e p = p → ((B ++ V).getLast? ≠ some 3 ∧ (B ++ V).getLast? ≠ some 4) → (V = [] ∨ ∃ V' x, V = V' ++ [x] ∧ x < 60) → jy_to (jq_g T e kind d 4 0 o (0, p, cs)) Post (fun p' cs' => ∀ pd cs'', cs'' ++ pd = cs' → (∀ x ∈ pd, x = 3 ∨ x = 4) → (jq_pk T e p' ≠ 42 ∧ jq_pk T e p' ≠ 47) → jy_CG T e kind o B.length p' (B ++ V ++ pd.reverse) cs'' l1 Post) → jy_CP T e kind o B.length p (B ++ V) cs l1 Post
def jy_S3 (T : Nat → Int) (e kind d : Nat) : Prop := ∀ (o p : Nat) (B V cs : List Int) (l1 : Int) (Post : jl_Mm → Prop), jq_nd 3 o ≤ d → o ≤ 6 → p ≤ e → jq_sk T e p = p → ((B ++ V).getLast? ≠ some 3 ∧ (B ++ V).getLast? ≠ some 4 ∧ (B ++ V).getLast? ≠ some 1 ∧ (B ++ V).getLast? ≠ some 2) → (V = [] ∨ ∃ V' x, V = V' ++ [x] ∧ x < 60) → jy_to (jq_g T e kind d 3 0 o (0, p, cs)) Post (fun p' cs' => ∀ pd cs'', cs'' ++ pd = cs' → (∀ x ∈ pd, x = 3 ∨ x = 4 ∨ x = 1 ∨ x = 2) → (jq_pk T e p' ≠ 42 ∧ jq_pk T e p' ≠ 47 ∧ jq_pk T e p' ≠ 43 ∧ jq_pk T e p' ≠ 45) → jy_CG T e kind o B.length p' (B ++ V ++ pd.reverse) cs'' l1 Post) → jy_CP T e kind o B.length p (B ++ V) cs l1 Post
theorem jy_loop4 {T : Nat → Int} {e kind d o : Nat} (hS : jy_S5 T e kind d) (hn : jq_nd 5 o ≤ d) (h6 : o ≤ 6) {B V : List Int} {l1 : Int} {Post : jl_Mm → Prop} (hW : (B ++ V).getLast? ≠ some 3 ∧ (B ++ V).getLast? ≠ some 4) : ∀ (m p : Nat) (pd cs : List Int), e - p < m → p ≤ e → jq_sk T e p = p → (∀ x ∈ pd, x = 3 ∨ x = 4) → jy_to (jq_smL T e (jq_g T e kind d 5 0 o) 42 47 m (0, p, cs ++ pd)) Post (fun p' cs' => ∀ pd cs'', cs'' ++ pd = cs' → (∀ x ∈ pd, x = 3 ∨ x = 4) → (jq_pk T e p' ≠ 42 ∧ jq_pk T e p' ≠ 47) → jy_CG T e kind o B.length p' (B ++ V ++ pd.reverse) cs'' l1 Post) → jy_CG T e kind o B.length p (B ++ V ++ pd.reverse) cs l1 Post := by
  intro m
  induction m with
  | zero => intro p pd cs h; omega
  | succ m ih =>
    intro p pd cs hm hpe hsk hpd hto
    have hat : jq_at e ((0, p, cs ++ pd) : jq_S) = p := rfl
    rw [jq_smL, jq_pc, hat] at hto
    by_cases q : jq_pk T e p = 42 ∨ jq_pk T e p = 47
    · rw [if_pos q] at hto
      have hlt : p < e := (jq_pk_lt (T := T) (c := jq_pk T e p) rfl (by omega)).1
      have s1 := jy_sk1 (T := T) hlt
      refine jy_stC hpd hW q ?_
      rw [jq_mv0 (show ((0, p, cs ++ pd) : jq_S).1 = 0 from rfl)] at hto
      simp only at hto
      have hM := jq_ML_all (T := T) (e := e) (kind := kind) d 5 0 o (0, jq_sk T e (p + 1), cs ++ pd) hn (by omega) h6 ⟨s1.2, fun _ => jq_sk_idem⟩ (fun z => by omega) (fun z => by omega)
      rw [List.append_assoc]
      refine hS o _ B (V ++ [jq_cs (jq_pk T e p)]) _ l1 Post hn h6 s1.2 jq_sk_idem ⟨fun hk => ?_, fun h0 => ?_⟩
      · intro τ hτ
        have e1 := jq_smL_k (T := T) (e := e) (f := jq_g T e kind d 5 0 o) (c1 := 42) (c2 := 47) (st := jq_em (jq_cs (jq_pk T e p)) (jq_g T e kind d 5 0 o (0, jq_sk T e (p + 1), cs ++ pd))) hk (by decide) (by decide) m
        rw [e1] at hto
        exact hto.1 hk τ hτ
      · generalize jq_g T e kind d 5 0 o (0, jq_sk T e (p + 1), cs ++ pd) = r at *
        obtain ⟨k, p', cs'⟩ := r
        simp only at h0
        subst h0
        have hwf := hM.1
        obtain ⟨c, c1, c2, c3, -⟩ := hM.2.2 rfl rfl
        simp only at c2 c3
        refine jy_stA (Or.inr ⟨B ++ V, jq_cs (jq_pk T e p), by simp, by rcases q with z | z <;> rw [z] <;> decide⟩) ?_
        have z := ih p' [jq_cs (jq_pk T e p)] cs' (by omega) hwf.1 (hwf.2 rfl) (by intro x hx; rw [List.mem_singleton.mp hx]; rcases q with z | z <;> rw [z] <;> decide) hto
        rw [← List.append_assoc]
        exact z
    · rw [if_neg q] at hto
      exact hto.2 rfl pd cs rfl hpd (by simp only; omega)
theorem jy_loop3 {T : Nat → Int} {e kind d o : Nat} (hS : jy_S4 T e kind d) (hn : jq_nd 4 o ≤ d) (h6 : o ≤ 6) {B V : List Int} {l1 : Int} {Post : jl_Mm → Prop} (hW : (B ++ V).getLast? ≠ some 3 ∧ (B ++ V).getLast? ≠ some 4 ∧ (B ++ V).getLast? ≠ some 1 ∧ (B ++ V).getLast? ≠ some 2) : ∀ (m p : Nat) (pd cs : List Int), e - p < m → p ≤ e → jq_sk T e p = p → (∀ x ∈ pd, x = 3 ∨ x = 4 ∨ x = 1 ∨ x = 2) → (jq_pk T e p ≠ 42 ∧ jq_pk T e p ≠ 47) → jy_to (jq_smL T e (jq_g T e kind d 4 0 o) 43 45 m (0, p, cs ++ pd)) Post (fun p' cs' => ∀ pd cs'', cs'' ++ pd = cs' → (∀ x ∈ pd, x = 3 ∨ x = 4 ∨ x = 1 ∨ x = 2) → (jq_pk T e p' ≠ 42 ∧ jq_pk T e p' ≠ 47 ∧ jq_pk T e p' ≠ 43 ∧ jq_pk T e p' ≠ 45) → jy_CG T e kind o B.length p' (B ++ V ++ pd.reverse) cs'' l1 Post) → jy_CG T e kind o B.length p (B ++ V ++ pd.reverse) cs l1 Post := by
  intro m
  induction m with
  | zero => intro p pd cs h; omega
  | succ m ih =>
    intro p pd cs hm hpe hsk hpd hnc hto
    have hat : jq_at e ((0, p, cs ++ pd) : jq_S) = p := rfl
    rw [jq_smL, jq_pc, hat] at hto
    by_cases q : jq_pk T e p = 43 ∨ jq_pk T e p = 45
    · rw [if_pos q] at hto
      have hlt : p < e := (jq_pk_lt (T := T) (c := jq_pk T e p) rfl (by omega)).1
      have s1 := jy_sk1 (T := T) hlt
      refine jy_stD hpd hW q ?_
      rw [jq_mv0 (show ((0, p, cs ++ pd) : jq_S).1 = 0 from rfl)] at hto
      simp only at hto
      have hM := jq_ML_all (T := T) (e := e) (kind := kind) d 4 0 o (0, jq_sk T e (p + 1), cs ++ pd) hn (by omega) h6 ⟨s1.2, fun _ => jq_sk_idem⟩ (fun z => by omega) (fun z => by omega)
      have hop : jq_cs (jq_pk T e p) = 1 ∨ jq_cs (jq_pk T e p) = 2 := by
        rcases q with z | z <;> rw [z] <;> decide
      have hl : (B ++ (V ++ [jq_cs (jq_pk T e p)])).getLast? = some (jq_cs (jq_pk T e p)) := by
        rw [← List.append_assoc]; simp
      rw [List.append_assoc]
      refine hS o _ B (V ++ [jq_cs (jq_pk T e p)]) _ l1 Post hn h6 s1.2 jq_sk_idem ?_ (Or.inr ⟨V, _, rfl, by omega⟩) ⟨fun hk => ?_, fun h0 => ?_⟩
      · rw [hl]
        rcases hop with z | z <;> rw [z] <;> exact ⟨by decide, by decide⟩
      · intro τ hτ
        have e1 := jq_smL_k (T := T) (e := e) (f := jq_g T e kind d 4 0 o) (c1 := 43) (c2 := 45) (st := jq_em (jq_cs (jq_pk T e p)) (jq_g T e kind d 4 0 o (0, jq_sk T e (p + 1), cs ++ pd))) hk (by decide) (by decide) m
        rw [e1] at hto
        exact hto.1 hk τ hτ
      · generalize jq_g T e kind d 4 0 o (0, jq_sk T e (p + 1), cs ++ pd) = r at *
        obtain ⟨k, p', cs'⟩ := r
        simp only at h0
        subst h0
        have hwf := hM.1
        obtain ⟨c, c1, c2, c3, -⟩ := hM.2.2 rfl rfl
        simp only at c2 c3
        intro pd1 cs1 he hpd1 hnc1
        simp only at he
        subst he
        have z := ih p' (pd1 ++ [jq_cs (jq_pk T e p)]) cs1 (by omega) hwf.1 (hwf.2 rfl) (by
          intro x hx
          rcases List.mem_append.mp hx with y | y
          · have := hpd1 x y; omega
          · rw [List.mem_singleton.mp y]; omega) hnc1 (by
          have e1 : cs1 ++ (pd1 ++ [jq_cs (jq_pk T e p)]) = cs1 ++ pd1 ++ [jq_cs (jq_pk T e p)] := by simp
          rw [e1]
          exact hto)
        simpa using z
    · rw [if_neg q] at hto
      exact hto.2 rfl pd cs rfl hpd (by simp only; omega)
theorem jy_S_all {T : Nat → Int} {e kind : Nat} (hk : kind < 4) (he : e ≤ 1600) : ∀ d, jy_S3 T e kind d ∧ jy_S4 T e kind d ∧ jy_S5 T e kind d ∧ jy_S6 T e kind d ∧ jy_S7 T e kind d := by
  intro d
  induction d with
  | zero =>
    refine ⟨?_, ?_, ?_, ?_, ?_⟩
    · intro o p B V cs l1 Post h; simp only [jq_nd] at h; omega
    · intro o p B V cs l1 Post h; simp only [jq_nd] at h; omega
    · intro o p B V cs l1 Post h; simp only [jq_nd] at h; omega
    · intro o p B V cs l1 Post h; simp only [jq_nd] at h; omega
    · intro o q a B V cs l1 Post h; simp only [jq_nd] at h; omega
  | succ d ih =>
    obtain ⟨i3, i4, i5, i6, i7⟩ := ih
    refine ⟨?_, ?_, ?_, ?_, ?_⟩
    · intro o p B V cs l1 Post hn h6 hpe hsk hW hV hto
      simp only [jq_nd] at hn
      have hn4 : jq_nd 4 o ≤ d := by simp only [jq_nd]; omega
      rw [jq_g, if_neg (by decide), if_neg (by decide), if_neg (by decide), if_pos rfl] at hto
      have hM := jq_ML_all (T := T) (e := e) (kind := kind) d 4 0 o (0, p, cs) hn4 (by omega) h6 ⟨hpe, fun _ => hsk⟩ (fun z => by omega) (fun z => by omega)
      refine i4 o p B V cs l1 Post hn4 h6 hpe hsk ⟨hW.1, hW.2.1⟩ hV ⟨fun hf τ hτ => ?_, fun h0 => ?_⟩
      · refine hto.1 ?_ τ ?_
        · rw [jq_smL_k hf (by decide) (by decide)]; exact hf
        · rw [jq_smL_k hf (by decide) (by decide)]; exact hτ
      · generalize jq_g T e kind d 4 0 o (0, p, cs) = r at *
        obtain ⟨k, p', cs'⟩ := r
        simp only at h0
        subst h0
        intro pd cs1 he1 hpd hnc
        simp only at he1
        subst he1
        refine jy_loop3 i4 hn4 h6 hW 1600 p' pd cs1 ?_ hM.1.1 (hM.1.2 rfl) (fun x hx => by have := hpd x hx; omega) hnc hto
        obtain ⟨c, c1, c2, c3, -⟩ := hM.2.2 rfl rfl
        simp only at c3
        omega
    · intro o p B V cs l1 Post hn h6 hpe hsk hW hV hto
      simp only [jq_nd] at hn
      have hn5 : jq_nd 5 o ≤ d := by simp only [jq_nd]; omega
      rw [jq_g, if_neg (by decide), if_neg (by decide), if_neg (by decide), if_neg (by decide), if_pos rfl] at hto
      have hM := jq_ML_all (T := T) (e := e) (kind := kind) d 5 0 o (0, p, cs) hn5 (by omega) h6 ⟨hpe, fun _ => hsk⟩ (fun z => by omega) (fun z => by omega)
      refine i5 o p B V cs l1 Post hn5 h6 hpe hsk ⟨fun hf τ hτ => ?_, fun h0 => ?_⟩
      · refine hto.1 ?_ τ ?_
        · rw [jq_smL_k hf (by decide) (by decide)]; exact hf
        · rw [jq_smL_k hf (by decide) (by decide)]; exact hτ
      · generalize jq_g T e kind d 5 0 o (0, p, cs) = r at *
        obtain ⟨k, p', cs'⟩ := r
        simp only at h0
        subst h0
        obtain ⟨c, c1, c2, c3, -⟩ := hM.2.2 rfl rfl
        simp only at c3
        refine jy_stA ?_ ?_
        · rcases hV with rfl | ⟨V', x, rfl, hx⟩
          · exact Or.inl (by simp)
          · exact Or.inr ⟨B ++ V', x, by simp, hx⟩
        · have z := jy_loop4 i5 hn5 h6 hW 1600 p' [] cs' (by omega) hM.1.1 (hM.1.2 rfl) (fun x hx => by cases hx) (by simpa using hto)
          simpa using z
    · intro o p B V cs l1 Post hn h6 hpe hsk hto
      simp only [jq_nd] at hn
      have hat : jq_at e ((0, p, cs) : jq_S) = p := rfl
      have hpc : jq_pc T e ((0, p, cs) : jq_S) = jq_pk T e p := rfl
      rw [jq_g, if_neg (by decide), if_neg (by decide), if_neg (by decide), if_neg (by decide), if_neg (by decide), if_pos rfl, jq_part, hpc] at hto
      by_cases hd : jq_dg (jq_pk T e p)
      · rw [if_pos hd, jq_numP, hat] at hto
        have hwn : jq_wn T e p = -1 := jq_wn_pk (by omega)
        refine jy_stP5 hk (by omega) (by rw [hwn]; exact ⟨by decide, by decide, Or.inl (by decide)⟩) (fun hf τ hτ => ?_) (fun h0 => ?_)
        · rw [if_neg hf, jq_fl0 rfl] at hto
          exact hto.1 hf τ hτ
        · rw [if_pos h0, jq_mv0 rfl] at hto
          exact hto.2 rfl
      · rw [if_neg hd] at hto
        by_cases h40 : jq_pk T e p = 40
        · rw [if_pos h40, hat, jq_mv0 rfl] at hto
          refine jy_stP1 hk h40 (fun ho τ hτ => ?_) (fun ho => ?_)
          · rw [if_neg ho, jq_fl0 rfl] at hto
            exact hto.1 (by simp) τ hτ
          · rw [if_pos ho] at hto
            have hlt : p < e := (jq_pk_lt h40 (by decide)).1
            have s1 := jy_sk1 (T := T) hlt
            have hn3 : jq_nd 3 (o + 1) ≤ d := by simp only [jq_nd]; omega
            have hl : (B ++ (V ++ [20])).getLast? = some 20 := by rw [← List.append_assoc]; simp
            rw [List.append_assoc]
            refine i3 (o + 1) _ B (V ++ [20]) cs l1 Post hn3 (by omega) s1.2 jq_sk_idem (by rw [hl]; exact ⟨by decide, by decide, by decide, by decide⟩) (Or.inr ⟨V, 20, rfl, by decide⟩) ⟨fun hf τ hτ => ?_, fun h0 => ?_⟩
            · rw [jq_xs_k hf (by decide)] at hto
              exact hto.1 hf τ hτ
            · simp only at hto
              generalize jq_g T e kind d 3 0 (o + 1) (0, jq_sk T e (p + 1), cs) = r at *
              obtain ⟨k, p', cs'⟩ := r
              simp only at h0
              subst h0
              intro pd cs1 he1 hpd hnc
              simp only at he1 hnc
              subst he1
              rw [← List.append_assoc]
              by_cases h41 : jq_pk T e p' = 41
              · rw [jq_xs_y rfl h41] at hto
                refine jy_stE (Or.inl rfl) (fun y hy => by have := hpd y hy; omega) ho h41 ?_
                rw [if_pos rfl]
                exact hto.2 rfl
              · rw [jq_xs_n rfl h41] at hto
                exact jy_stG ⟨by decide, by decide⟩ (fun y hy => by have := hpd y hy; omega) hnc (by rw [if_neg (by decide)]; exact h41) (hto.1 (by simp))
        · rw [if_neg h40] at hto
          exact i6 o p B V cs l1 Post (by simp only [jq_nd]; omega) h6 hpe hsk hd h40 hto
    · intro o p B V cs l1 Post hn h6 hpe hsk hd h40 hto
      simp only [jq_nd] at hn
      have hat : jq_at e ((0, p, cs) : jq_S) = p := rfl
      have hpb : jq_pb T e ((0, p, cs) : jq_S) = jq_wb T e p := rfl
      rw [jq_g, if_neg (by decide), if_neg (by decide), if_neg (by decide), if_neg (by decide), if_neg (by decide), if_neg (by decide), if_pos rfl, jq_word, hpb, hat, jq_mv0 rfl] at hto
      have hwe : jq_wn T e p ≠ -1 → jq_wb T e p = jq_we T e p ∧ jq_sk T e (jq_we T e p) ≤ e := by
        intro z
        have hbg := jq_wn_bg z
        exact ⟨by rw [jq_wb, if_pos hbg], jq_sk_ub (jq_we_ub hpe)⟩
      by_cases h30 : jq_wn T e p = 30 ∨ jq_wn T e p = 31
      · obtain ⟨w1, w2⟩ := hwe (by omega)
        rw [if_pos h30, w1] at hto
        have z := i7 o (jq_sk T e (jq_we T e p)) (jq_wn T e p) B V cs l1 Post (by simp only [jq_nd]; omega) h6 w2 jq_sk_idem h30 hto
        exact jy_stP3 hk h30 z.1 z.2.1 z.2.2
      · rw [if_neg h30] at hto
        have hcas := jy_k_cases (jq_wn T e p)
        by_cases hbad : jq_wn T e p < 0 ∨ 31 < jq_wn T e p ∨ jq_al kind (jq_wn T e p) = false
        · rw [if_pos hbad, jq_fl0 rfl] at hto
          have hnm : jq_nm T e 0 9999 p = (1, p, 0) := by
            rw [jq_nm, if_pos]
            refine Or.inl (fun z => hd ?_)
            rw [jq_pk_in z.1]; exact z.2
          refine jy_stP5 hk h40 ⟨by omega, by omega, ?_⟩ (fun _ => ?_) (fun z => ?_)
          · rcases hbad with z | z | z
            · left; rcases hcas with y | y | y | y | y | y | y | y | y | y | y | y | y <;> omega
            · left; rcases hcas with y | y | y | y | y | y | y | y | y | y | y | y | y <;> omega
            · exact Or.inr z
          · rw [hnm]; exact hto.1 (by simp)
          · rw [hnm] at z; simp at z
        · rw [if_neg hbad] at hto
          have hal : jq_al kind (jq_wn T e p) = true := by
            cases hq : jq_al kind (jq_wn T e p) with
            | true => rfl
            | false => exact absurd (Or.inr (Or.inr hq)) hbad
          obtain ⟨w1, w2⟩ := hwe (by omega)
          rw [w1] at hto
          by_cases h24 : jq_wn T e p = 24 ∨ jq_wn T e p = 25
          · rw [if_pos h24] at hto
            refine jy_stP2 hk h24 hal (fun ho τ hτ => ?_) (fun ho => ?_)
            · rw [if_neg ho, jq_fl0 rfl] at hto
              exact hto.1 (by simp) τ hτ
            · rw [if_pos ho] at hto
              have hn5 : jq_nd 5 (o + 1) ≤ d := by simp only [jq_nd]; omega
              rw [List.append_assoc]
              refine i5 (o + 1) _ B (V ++ [jq_cd (jq_wn T e p)]) cs l1 Post hn5 (by omega) w2 jq_sk_idem ⟨fun hf τ hτ => ?_, fun h0 => ?_⟩
              · exact hto.1 hf τ hτ
              · simp only at hto
                generalize jq_g T e kind d 5 0 (o + 1) (0, jq_sk T e (jq_we T e p), cs) = r at *
                obtain ⟨k, p', cs'⟩ := r
                simp only at h0
                subst h0
                rw [← List.append_assoc]
                refine jy_stB ?_ (by simp) ho (hto.2 rfl)
                rcases h24 with z | z <;> rw [z] <;> decide
          · rw [if_neg h24] at hto
            refine jy_stP4 hk ?_ hal (hto.2 rfl)
            have hne : jy_k (jq_wn T e p) ≠ -1 := by
              intro z
              have h12 : [19, 15, 16, 17, 18, 3, 20, 21, 22, 23, 24, 25].contains (jq_wn T e p) = true := by
                unfold jq_al at hal
                split at hal <;> simp at hal ⊢ <;> omega
              simp at h12
              rcases h12 with y | y | y | y | y | y | y | y | y | y | y | y <;> rw [y] at z <;> exact absurd z (by decide)
            rcases hcas with y | y | y | y | y | y | y | y | y | y | y | y | y
            · exact absurd y hne
            all_goals first | exact absurd (Or.inl y) h24 | exact absurd (Or.inr y) h24 | (rw [y]; exact ⟨by decide, by decide⟩)
    · intro o q a B V cs l1 Post hn h6 hqe hsk ha hto
      simp only [jq_nd] at hn
      have hat : jq_at e ((0, q, cs) : jq_S) = q := rfl
      have hpc : jq_pc T e ((0, q, cs) : jq_S) = jq_pk T e q := rfl
      rw [jq_g, if_neg (by decide), if_neg (by decide), if_neg (by decide), if_neg (by decide), if_neg (by decide), if_neg (by decide), if_neg (by decide), jq_pair, hpc, hat, jq_mv0 rfl] at hto
      refine ⟨fun h40 τ hτ => ?_, fun h40 ho τ hτ => ?_, fun h40 ho => ?_⟩
      · rw [if_neg h40, jq_fl0 rfl] at hto
        exact hto.1 (by simp) τ hτ
      · rw [if_pos h40, if_neg ho, jq_fl0 rfl] at hto
        exact hto.1 (by simp) τ hτ
      · rw [if_pos h40, if_pos ho] at hto
        have hlt : q < e := (jq_pk_lt h40 (by decide)).1
        have s1 := jy_sk1 (T := T) hlt
        have hn3 : jq_nd 3 (o + 1) ≤ d := by simp only [jq_nd]; omega
        have hx : (if a = 30 then (21 : Int) else 22) = 21 ∨ (if a = 30 then (21 : Int) else 22) = 22 := by
          split <;> simp
        have hx5 : jq_cd a = if (if a = 30 then (21 : Int) else 22) + 2 = 23 then 5 else 6 := by
          rcases ha with rfl | rfl <;> decide
        generalize (if a = 30 then (21 : Int) else 22) = x at *
        have hl : ∀ y : Int, y = x ∨ y = x + 2 → (B ++ (V ++ [y])).getLast? ≠ some 3 ∧ (B ++ (V ++ [y])).getLast? ≠ some 4 ∧ (B ++ (V ++ [y])).getLast? ≠ some 1 ∧ (B ++ (V ++ [y])).getLast? ≠ some 2 := by
          intro y hy
          have : (B ++ (V ++ [y])).getLast? = some y := by rw [← List.append_assoc]; simp
          rw [this]
          refine ⟨?_, ?_, ?_, ?_⟩ <;> simp <;> omega
        have hM := jq_ML_all (T := T) (e := e) (kind := kind) d 3 0 (o + 1) (0, jq_sk T e (q + 1), cs) hn3 (by omega) (by omega) ⟨s1.2, fun _ => jq_sk_idem⟩ (fun z => by omega) (fun z => by omega)
        rw [List.append_assoc]
        refine i3 (o + 1) _ B (V ++ [x]) cs l1 Post hn3 (by omega) s1.2 jq_sk_idem (hl x (Or.inl rfl)) (Or.inr ⟨V, x, rfl, by omega⟩) ⟨fun hf τ hτ => ?_, fun h0 => ?_⟩
        · have g1 := jq_ML_all (T := T) (e := e) (kind := kind) d 3 0 (o + 1) (jq_g T e kind d 3 0 (o + 1) (0, jq_sk T e (q + 1), cs)) hn3 (by omega) (by omega) hM.1 (fun z => by omega) (fun z => by omega)
          simp only [jq_xs_k (T := T) (e := e) (c := 44) hf (by decide)] at hto
          obtain ⟨g2, g3⟩ := g1.2.1 hf
          generalize jq_g T e kind d 3 0 (o + 1) (jq_g T e kind d 3 0 (o + 1) (0, jq_sk T e (q + 1), cs)) = r2 at *
          have hf2 : r2.1 ≠ 0 := by rw [g2]; exact hf
          rw [jq_xs_k hf2 (by decide)] at hto
          refine hto.1 hf2 τ ?_
          show jy_M r2.1 r2.2.1 τ
          rw [g2, g3]
          exact hτ
        · simp only at hto
          generalize jq_g T e kind d 3 0 (o + 1) (0, jq_sk T e (q + 1), cs) = r at *
          obtain ⟨k, p', cs'⟩ := r
          simp only at h0
          subst h0
          intro pd cs1 he1 hpd hnc
          simp only at he1 hnc
          subst he1
          rw [← List.append_assoc]
          by_cases h44 : jq_pk T e p' = 44
          · rw [jq_xs_y (st := (0, p', cs1 ++ pd)) rfl h44] at hto
            have hlt2 : p' < e := (jq_pk_lt h44 (by decide)).1
            have s2 := jy_sk1 (T := T) hlt2
            refine jy_stF hx (fun y hy => by have := hpd y hy; omega) h44 ?_
            simp only at hto ⊢
            rw [List.append_assoc]
            refine i3 (o + 1) _ B (V ++ [x + 2]) _ l1 Post hn3 (by omega) s2.2 jq_sk_idem (hl (x + 2) (Or.inr rfl)) (Or.inr ⟨V, x + 2, rfl, by omega⟩) ⟨fun hf τ hτ => ?_, fun h0 => ?_⟩
            · rw [jq_xs_k hf (by decide)] at hto
              exact hto.1 hf τ hτ
            · generalize jq_g T e kind d 3 0 (o + 1) (0, jq_sk T e (p' + 1), cs1 ++ pd) = r2 at *
              obtain ⟨k2, p2, cs2⟩ := r2
              simp only at h0
              subst h0
              intro pd2 cs3 he2 hpd2 hnc2
              simp only at he2 hnc2
              subst he2
              rw [← List.append_assoc]
              by_cases h41 : jq_pk T e p2 = 41
              · rw [jq_xs_y rfl h41] at hto
                refine jy_stE (by omega) (fun y hy => by have := hpd2 y hy; omega) ho h41 ?_
                have z := hto.2 rfl
                simp only [jq_em, hx5] at z
                rw [if_neg (by omega)]
                by_cases h23 : x + 2 = 23
                · rw [if_pos h23] at z ⊢; exact z
                · rw [if_neg h23] at z ⊢; exact z
              · rw [jq_xs_n rfl h41] at hto
                exact jy_stG ⟨by omega, by omega⟩ (fun y hy => by have := hpd2 y hy; omega) hnc2 (by rw [if_neg (by omega)]; exact h41) (hto.1 (by simp [jq_em]))
          · rw [jq_xs_n (st := (0, p', cs1 ++ pd)) rfl h44] at hto
            have g1 := jq_ML_all (T := T) (e := e) (kind := kind) d 3 0 (o + 1) (1, p', cs1 ++ pd) hn3 (by omega) (by omega) ⟨hM.1.1, fun z => by simp at z⟩ (fun z => by omega) (fun z => by omega)
            simp only at hto
            obtain ⟨g2, g3⟩ := g1.2.1 (by simp)
            generalize jq_g T e kind d 3 0 (o + 1) (1, p', cs1 ++ pd) = r2 at *
            simp only at g2 g3
            have hf2 : r2.1 ≠ 0 := by rw [g2]; simp
            rw [jq_xs_k hf2 (by decide)] at hto
            refine jy_stG ⟨by omega, by omega⟩ (fun y hy => by have := hpd y hy; omega) hnc (by rw [if_pos (by omega)]; exact h44) (fun τ hτ => hto.1 hf2 τ ?_)
            show jy_M r2.1 r2.2.1 τ
            rw [g2, g3]
            exact hτ
/-- a sum, all of it -/
theorem jx12_qSums {T : Nat → Int} {e p kind o base0 d : Nat} {B cs : List Int} {s : jl_Mm} (hk : kind < 4) (hn : jq_nd 3 o ≤ d) (hB : B.getLast? ≠ some 3 ∧ B.getLast? ≠ some 4 ∧ B.getLast? ≠ some 1 ∧ B.getLast? ≠ some 2) (hb : base0 ≤ 2000) (hQ : jy_Q T e p kind o base0 p B cs s) : jE (jf_X12_qSums s) 0 jy_FQ s (fun τ => ((jq_g T e kind d 3 0 o (0, p, cs)).1 ≠ 0 → jy_M (jq_g T e kind d 3 0 o (0, p, cs)).1 (jq_g T e kind d 3 0 o (0, p, cs)).2.1 τ) ∧ ((jq_g T e kind d 3 0 o (0, p, cs)).1 = 0 → jy_Q T e (jq_g T e kind d 3 0 o (0, p, cs)).2.1 kind o base0 (jq_g T e kind d 3 0 o (0, p, cs)).2.1 B (jq_g T e kind d 3 0 o (0, p, cs)).2.2 τ)) := by
  have hpe := hQ.1.pe
  have he := hQ.1.1
  have h3 := hQ.2.2.2.1
  have h4 := hQ.2.2.2.2.1
  have h6 := hQ.2.2.2.2.2.2.2.2.2.2
  have h8 := hQ.2.2.2.2.2.2.2.2.1
  rw [jf_X12_qSums, h3, h4, jp_let]
  refine jE.lm (by simp [jy_FQ, jp_in]) ?_
  have f : jp_fr [(206, 104, 105)] s (jl_up s 206 104 (B.length : Int)) := jp_fr.rf.up rfl
  have g : jl_g (jl_up s 206 104 (B.length : Int)) 206 104 = (B.length : Int) := by
    simp (disch := omega) only [if_pos, if_neg, jp_bd, jp_lm, jp_let, jp_zb0, jp_zb1, jp_add, jp_sub, jp_g_eq, jp_g_eqg, jp_g_ne, jp_g_nei, jp_r_ne, jp_r_nei, Int.toNat_natCast]
  generalize jl_up s 206 104 (B.length : Int) = τ at *
  have Q2 : jy_Q T e p kind o B.length p B cs τ := by
    obtain ⟨hL, b1, b2, b3, b4, b5, b6, b7, b8⟩ := hQ
    exact ⟨hL.V f (by decide), (f.g _ _ rfl).trans b1, (f.g _ _ rfl).trans b2, g, (f.g _ _ rfl).trans b4, fun i hi => (f.g _ _ rfl).trans (b5 i hi), (f.g _ _ rfl).trans b6, fun i hi => (f.g _ _ rfl).trans (b7 i hi), b8⟩
  rw [show jl_fu = 3999 + 1 from rfl, jy_L15 _ _ _ Q2.1.2.2.2.1]
  have S := (jy_S_all (T := T) hk he d).1 o p B [] cs (base0 : Int) (fun τ => ((jq_g T e kind d 3 0 o (0, p, cs)).1 ≠ 0 → jy_M (jq_g T e kind d 3 0 o (0, p, cs)).1 (jq_g T e kind d 3 0 o (0, p, cs)).2.1 τ) ∧ ((jq_g T e kind d 3 0 o (0, p, cs)).1 = 0 → jy_Q T e (jq_g T e kind d 3 0 o (0, p, cs)).2.1 kind o base0 (jq_g T e kind d 3 0 o (0, p, cs)).2.1 B (jq_g T e kind d 3 0 o (0, p, cs)).2.2 τ)) hn h6 hpe.1 hpe.2 (by simpa using hB) (Or.inl rfl) ⟨fun hf υ hυ => ⟨fun _ => hυ, fun z => absurd z hf⟩, fun h0 => ?_⟩
  · rw [List.append_nil] at S
    exact S 3999 jl_fu τ (by omega) (by show _ < 4000; omega) Q2
  · intro pd cs1 he1 hpd hnc
    rw [List.append_nil]
    refine jy_stH (fun y hy => by have := hpd y hy; omega) hnc hb (fun υ hυ => ⟨fun z => absurd h0 z, fun _ => ?_⟩)
    rw [he1] at hυ
    exact hυ
