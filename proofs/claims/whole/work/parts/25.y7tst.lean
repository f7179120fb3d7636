/-! PURE: the reference's tests are read as jq_g tells -/
theorem jq_orL_k {T : Nat → Int} {e : Nat} {f : jq_S → jq_S} {w c : Int} {st : jq_S} (h : st.1 ≠ 0) (hw : w ≠ -1) (n : Nat) : jq_orL T e f w c n st = st := by
  cases n with
  | zero => rfl
  | succ n =>
    rw [jq_orL, if_neg]
    intro q
    exact h (jq_pn_in q hw).1
def jy_vt (V : List Int) (ok : List Int) : Prop := V = [] ∨ ∃ V' x, V = V' ++ [x] ∧ x ∈ ok
theorem jy_vt.ne {V ok : List Int} {v : Int} (h : jy_vt V ok) (hv : v ∉ ok) : V.getLast? ≠ some v := by
  rcases h with rfl | ⟨V', x, rfl, hx⟩
  · simp
  · intro z
    simp at z
    exact hv (z ▸ hx)
theorem jy_vt.w {V ok ok' : List Int} (h : jy_vt V ok) (w : ∀ x ∈ ok, x ∈ ok') : jy_vt V ok' := by
  rcases h with rfl | ⟨V', x, rfl, hx⟩
  · exact Or.inl rfl
  · exact Or.inr ⟨V', x, rfl, w x hx⟩
def jy_T2 (T : Nat → Int) (e kind d : Nat) : Prop := ∀ (o p base : Nat) (V cs : List Int) (Post : jl_Mm → Prop), base ≤ 2000 → jq_nd 2 o ≤ d → o ≤ 6 → p ≤ e → jq_sk T e p = p → jy_vt V [10, 11, 12, 25] → jy_tk (jq_g T e kind d 2 0 o (0, p, cs)) Post (fun p' cs' => jy_CN T e kind o base p' V cs' Post) → jy_CT T e kind o base p V cs Post
def jy_T1 (T : Nat → Int) (e kind d : Nat) : Prop := ∀ (o p base : Nat) (V cs : List Int) (Post : jl_Mm → Prop), base ≤ 2000 → jq_nd 1 o ≤ d → o ≤ 6 → p ≤ e → jq_sk T e p = p → jy_vt V [11, 25] → jy_tk (jq_g T e kind d 1 0 o (0, p, cs)) Post (fun p' cs' => ∀ pd cs'', cs'' ++ pd = cs' → (∀ x ∈ pd, x = 10) → jq_wn T e p' ≠ 27 → jy_CH T e kind o base p' (V ++ pd.reverse) cs'' Post) → jy_CT T e kind o base p V cs Post
def jy_T0 (T : Nat → Int) (e kind d : Nat) : Prop := ∀ (o p base : Nat) (V cs : List Int) (Post : jl_Mm → Prop), base ≤ 2000 → jq_nd 0 o ≤ d → o ≤ 6 → p ≤ e → jq_sk T e p = p → jy_vt V [25] → jy_tk (jq_g T e kind d 0 0 o (0, p, cs)) Post (fun p' cs' => ∀ pd cs'', cs'' ++ pd = cs' → (∀ x ∈ pd, x = 10 ∨ x = 11) → (jq_wn T e p' ≠ 27 ∧ jq_wn T e p' ≠ 26) → jy_CH T e kind o base p' (V ++ pd.reverse) cs'' Post) → jy_CT T e kind o base p V cs Post
theorem jy_loopA {T : Nat → Int} {e kind d o base : Nat} (hS : jy_T2 T e kind d) (hb : base ≤ 2000) (hn : jq_nd 2 o ≤ d) (h6 : o ≤ 6) {V : List Int} {Post : jl_Mm → Prop} (hV : jy_vt V [11, 25]) : ∀ (m p : Nat) (pd cs : List Int), e - p < m → p ≤ e → jq_sk T e p = p → (∀ x ∈ pd, x = 10) → jy_tk (jq_orL T e (jq_g T e kind d 2 0 o) 27 10 m (0, p, cs ++ pd)) Post (fun p' cs' => ∀ pd cs'', cs'' ++ pd = cs' → (∀ x ∈ pd, x = 10) → jq_wn T e p' ≠ 27 → jy_CH T e kind o base p' (V ++ pd.reverse) cs'' Post) → jy_CH T e kind o base p (V ++ pd.reverse) cs Post := by
  intro m
  induction m with
  | zero => intro p pd cs h; omega
  | succ m ih =>
    intro p pd cs hm hpe hsk hpd hto
    have hat : jq_at e ((0, p, cs ++ pd) : jq_S) = p := rfl
    have hpb : jq_pb T e ((0, p, cs ++ pd) : jq_S) = jq_wb T e p := rfl
    rw [jq_orL, jq_pn, hat] at hto
    by_cases q : jq_wn T e p = 27
    · have s1 := jy_wsk (T := T) (e := e) (p := p) (by omega) hpe
      have hbg := jq_wn_bg (T := T) (e := e) (p := p) (by omega)
      rw [if_pos q, hpb, jq_wb, if_pos hbg, jq_mv0 (show ((0, p, cs ++ pd) : jq_S).1 = 0 from rfl)] at hto
      simp only at hto
      refine jy_ttC hpd (hV.ne (by decide)) q ?_
      have hM := jq_ML_all (T := T) (e := e) (kind := kind) d 2 0 o (0, jq_sk T e (jq_we T e p), cs ++ pd) hn (by omega) h6 ⟨s1.2.1, fun _ => jq_sk_idem⟩ (fun z => by omega) (fun z => by omega)
      refine hS o _ base (V ++ [10]) _ Post hb hn h6 s1.2.1 jq_sk_idem (Or.inr ⟨V, 10, rfl, by decide⟩) ⟨fun hk τ hτ => ?_, fun h0 => ?_⟩
      · have e1 := jq_orL_k (T := T) (e := e) (f := jq_g T e kind d 2 0 o) (w := 27) (c := 10) (st := jq_em 10 (jq_g T e kind d 2 0 o (0, jq_sk T e (jq_we T e p), cs ++ pd))) hk (by decide) m
        rw [e1] at hto
        exact hto.1 hk τ hτ
      · generalize jq_g T e kind d 2 0 o (0, jq_sk T e (jq_we T e p), cs ++ pd) = r at *
        obtain ⟨k, p', cs'⟩ := r
        simp only at h0
        subst h0
        have hwf := hM.1
        obtain ⟨c, c1, c2, c3, -⟩ := hM.2.2 rfl rfl
        simp only at c2 c3
        refine jy_ttA (jy_lst (by decide)) ?_
        exact ih p' [10] cs' (by omega) hwf.1 (hwf.2 rfl) (by intro x hx; exact List.mem_singleton.mp hx) hto
    · rw [if_neg q] at hto
      exact hto.2 rfl pd cs rfl hpd q
theorem jy_loopO {T : Nat → Int} {e kind d o base : Nat} (hS : jy_T1 T e kind d) (hb : base ≤ 2000) (hn : jq_nd 1 o ≤ d) (h6 : o ≤ 6) {V : List Int} {Post : jl_Mm → Prop} (hV : jy_vt V [25]) : ∀ (m p : Nat) (pd cs : List Int), e - p < m → p ≤ e → jq_sk T e p = p → (∀ x ∈ pd, x = 10 ∨ x = 11) → jq_wn T e p ≠ 27 → jy_tk (jq_orL T e (jq_g T e kind d 1 0 o) 26 11 m (0, p, cs ++ pd)) Post (fun p' cs' => ∀ pd cs'', cs'' ++ pd = cs' → (∀ x ∈ pd, x = 10 ∨ x = 11) → (jq_wn T e p' ≠ 27 ∧ jq_wn T e p' ≠ 26) → jy_CH T e kind o base p' (V ++ pd.reverse) cs'' Post) → jy_CH T e kind o base p (V ++ pd.reverse) cs Post := by
  intro m
  induction m with
  | zero => intro p pd cs h; omega
  | succ m ih =>
    intro p pd cs hm hpe hsk hpd h27 hto
    have hat : jq_at e ((0, p, cs ++ pd) : jq_S) = p := rfl
    have hpb : jq_pb T e ((0, p, cs ++ pd) : jq_S) = jq_wb T e p := rfl
    rw [jq_orL, jq_pn, hat] at hto
    by_cases q : jq_wn T e p = 26
    · have s1 := jy_wsk (T := T) (e := e) (p := p) (by omega) hpe
      have hbg := jq_wn_bg (T := T) (e := e) (p := p) (by omega)
      rw [if_pos q, hpb, jq_wb, if_pos hbg, jq_mv0 (show ((0, p, cs ++ pd) : jq_S).1 = 0 from rfl)] at hto
      simp only at hto
      refine jy_ttD hpd ⟨hV.ne (by decide), hV.ne (by decide)⟩ q ?_
      have hM := jq_ML_all (T := T) (e := e) (kind := kind) d 1 0 o (0, jq_sk T e (jq_we T e p), cs ++ pd) hn (by omega) h6 ⟨s1.2.1, fun _ => jq_sk_idem⟩ (fun z => by omega) (fun z => by omega)
      refine hS o _ base (V ++ [11]) _ Post hb hn h6 s1.2.1 jq_sk_idem (Or.inr ⟨V, 11, rfl, by decide⟩) ⟨fun hk τ hτ => ?_, fun h0 => ?_⟩
      · have e1 := jq_orL_k (T := T) (e := e) (f := jq_g T e kind d 1 0 o) (w := 26) (c := 11) (st := jq_em 11 (jq_g T e kind d 1 0 o (0, jq_sk T e (jq_we T e p), cs ++ pd))) hk (by decide) m
        rw [e1] at hto
        exact hto.1 hk τ hτ
      · generalize jq_g T e kind d 1 0 o (0, jq_sk T e (jq_we T e p), cs ++ pd) = r at *
        obtain ⟨k, p', cs'⟩ := r
        simp only at h0
        subst h0
        have hwf := hM.1
        obtain ⟨c, c1, c2, c3, -⟩ := hM.2.2 rfl rfl
        simp only at c2 c3
        intro pd1 cs1 he hpd1 hw1
        simp only at he
        subst he
        have z := ih p' (pd1 ++ [11]) cs1 (by omega) hwf.1 (hwf.2 rfl) (by
          intro x hx
          rcases List.mem_append.mp hx with y | y
          · exact Or.inl (hpd1 x y)
          · exact Or.inr (List.mem_singleton.mp y)) hw1 (by
          have e1 : cs1 ++ (pd1 ++ [11]) = cs1 ++ pd1 ++ [11] := by simp
          rw [e1]
          exact hto)
        simpa using z
    · rw [if_neg q] at hto
      exact hto.2 rfl pd cs rfl hpd ⟨h27, q⟩
theorem jy_T_all {T : Nat → Int} {e kind : Nat} (hk : kind < 4) (he : e ≤ 1600) : ∀ d, jy_T0 T e kind d ∧ jy_T1 T e kind d ∧ jy_T2 T e kind d := by
  intro d
  induction d with
  | zero =>
    refine ⟨?_, ?_, ?_⟩
    · intro o p base V cs Post _ h; simp only [jq_nd] at h; omega
    · intro o p base V cs Post _ h; simp only [jq_nd] at h; omega
    · intro o p base V cs Post _ h; simp only [jq_nd] at h; omega
  | succ d ih =>
    obtain ⟨i0, i1, i2⟩ := ih
    refine ⟨?_, ?_, ?_⟩
    · intro o p base V cs Post hb hn h6 hpe hsk hV hto
      simp only [jq_nd] at hn
      have hn1 : jq_nd 1 o ≤ d := by simp only [jq_nd]; omega
      rw [jq_g, if_pos rfl] at hto
      have hM := jq_ML_all (T := T) (e := e) (kind := kind) d 1 0 o (0, p, cs) hn1 (by omega) h6 ⟨hpe, fun _ => hsk⟩ (fun z => by omega) (fun z => by omega)
      refine i1 o p base V cs Post hb hn1 h6 hpe hsk (hV.w (by decide)) ⟨fun hf τ hτ => ?_, fun h0 => ?_⟩
      · rw [jq_orL_k hf (by decide)] at hto
        exact hto.1 hf τ hτ
      · generalize jq_g T e kind d 1 0 o (0, p, cs) = r at *
        obtain ⟨k, p', cs'⟩ := r
        simp only at h0
        subst h0
        intro pd cs1 he1 hpd hw
        simp only at he1
        subst he1
        obtain ⟨c, c1, c2, c3, -⟩ := hM.2.2 rfl rfl
        simp only at c3
        exact jy_loopO i1 hb hn1 h6 hV 1600 p' pd cs1 (by omega) hM.1.1 (hM.1.2 rfl) (fun x hx => Or.inl (hpd x hx)) hw hto
    · intro o p base V cs Post hb hn h6 hpe hsk hV hto
      simp only [jq_nd] at hn
      have hn2 : jq_nd 2 o ≤ d := by simp only [jq_nd]; omega
      rw [jq_g, if_neg (by decide), if_pos rfl] at hto
      have hM := jq_ML_all (T := T) (e := e) (kind := kind) d 2 0 o (0, p, cs) hn2 (by omega) h6 ⟨hpe, fun _ => hsk⟩ (fun z => by omega) (fun z => by omega)
      refine i2 o p base V cs Post hb hn2 h6 hpe hsk (hV.w (by decide)) ⟨fun hf τ hτ => ?_, fun h0 => ?_⟩
      · rw [jq_orL_k hf (by decide)] at hto
        exact hto.1 hf τ hτ
      · generalize jq_g T e kind d 2 0 o (0, p, cs) = r at *
        obtain ⟨k, p', cs'⟩ := r
        simp only at h0
        subst h0
        obtain ⟨c, c1, c2, c3, -⟩ := hM.2.2 rfl rfl
        simp only at c3
        refine jy_ttA (hV.ne (by decide)) ?_
        have z := jy_loopA i2 hb hn2 h6 hV 1600 p' [] cs' (by omega) hM.1.1 (hM.1.2 rfl) (fun x hx => by cases hx) (by simpa using hto)
        simpa using z
    · intro o p base V cs Post hb hn h6 hpe hsk hV hto
      simp only [jq_nd] at hn
      have hat : jq_at e ((0, p, cs) : jq_S) = p := rfl
      have hpn : jq_pn T e ((0, p, cs) : jq_S) = jq_wn T e p := rfl
      have hpc : jq_pc T e ((0, p, cs) : jq_S) = jq_pk T e p := rfl
      have hpb : jq_pb T e ((0, p, cs) : jq_S) = jq_wb T e p := rfl
      rw [jq_g, if_neg (by decide), if_neg (by decide), if_pos rfl, jq_fact, hpn, hpc, hat, hpb] at hto
      by_cases q28 : jq_wn T e p = 28
      · have s1 := jy_wsk (T := T) (e := e) (p := p) (by omega) hpe
        have hbg := jq_wn_bg (T := T) (e := e) (p := p) (by omega)
        rw [if_pos q28, jq_wb, if_pos hbg, jq_mv0 rfl] at hto
        simp only at hto
        refine jy_ttP2 q28 (fun ho τ hτ => ?_) (fun ho => ?_)
        · rw [if_neg ho, jq_fl0 rfl] at hto
          exact hto.1 (by simp) τ hτ
        · rw [if_pos ho] at hto
          have hn2 : jq_nd 2 (o + 1) ≤ d := by simp only [jq_nd]; omega
          refine i2 (o + 1) _ base (V ++ [12]) cs Post hb hn2 (by omega) s1.2.1 jq_sk_idem (Or.inr ⟨V, 12, rfl, by decide⟩) ⟨fun hf τ hτ => hto.1 hf τ hτ, fun h0 => ?_⟩
          generalize jq_g T e kind d 2 0 (o + 1) (0, jq_sk T e (jq_we T e p), cs) = r at *
          obtain ⟨k, p', cs'⟩ := r
          simp only at h0
          subst h0
          exact jy_ttB ho (hto.2 rfl)
      · rw [if_neg q28] at hto
        by_cases q29 : jq_wn T e p = 29
        · have hbg := jq_wn_bg (T := T) (e := e) (p := p) (by omega)
          rw [if_pos q29, jq_wb, if_pos hbg, jq_mv0 rfl] at hto
          exact jy_ttP3 q29 (hto.2 rfl)
        · rw [if_neg q29] at hto
          by_cases q91 : jq_pk T e p = 91
          · rw [if_pos q91, jq_mv0 rfl] at hto
            simp only at hto
            have hlt : p < e := (jq_pk_lt q91 (by decide)).1
            have s1 := jy_sk1 (T := T) hlt
            refine jy_ttP1 q91 (fun ho τ hτ => ?_) (fun ho => ?_)
            · rw [if_neg ho, jq_fl0 rfl] at hto
              exact hto.1 (by simp) τ hτ
            · rw [if_pos ho] at hto
              have hn0 : jq_nd 0 (o + 1) ≤ d := by simp only [jq_nd]; omega
              refine i0 (o + 1) _ base (V ++ [25]) cs Post hb hn0 (by omega) s1.2 jq_sk_idem (Or.inr ⟨V, 25, rfl, by decide⟩) ⟨fun hf τ hτ => ?_, fun h0 => ?_⟩
              · rw [jq_xs_k hf (by decide)] at hto
                exact hto.1 hf τ hτ
              · generalize jq_g T e kind d 0 0 (o + 1) (0, jq_sk T e (p + 1), cs) = r at *
                obtain ⟨k, p', cs'⟩ := r
                simp only at h0
                subst h0
                intro pd cs1 he1 hpd hw
                simp only at he1 hw
                subst he1
                by_cases h93 : jq_pk T e p' = 93
                · rw [jq_xs_y (st := (0, p', cs1 ++ pd)) rfl h93] at hto
                  exact jy_ttE (fun y hy => by have := hpd y hy; omega) ho h93 (hto.2 rfl)
                · rw [jq_xs_n (st := (0, p', cs1 ++ pd)) rfl h93] at hto
                  exact jy_ttG (by simp) h93 hw (hto.1 (by simp))
          · rw [if_neg q91] at hto
            exact jy_ttP4 hk hb (by simp only [jq_nd]; omega) ⟨hV.ne (by decide), hV.ne (by decide), hV.ne (by decide), hV.ne (by decide)⟩ q91 ⟨q28, q29⟩ hto
/-- a test, all of it -/
theorem jx12_qTest {T : Nat → Int} {e p kind o base d : Nat} {cs : List Int} {s : jl_Mm} (hk : kind < 4) (hn : jq_nd 0 o ≤ d) (hb : base ≤ 2000) (hQ : jy_Q T e p kind o base p [] cs s) : jE (jf_X12_qTest s) 0 jy_FQ s (fun τ => ((jq_g T e kind d 0 0 o (0, p, cs)).1 ≠ 0 → jy_K (jq_g T e kind d 0 0 o (0, p, cs)).1 (jq_g T e kind d 0 0 o (0, p, cs)).2.1 τ) ∧ ((jq_g T e kind d 0 0 o (0, p, cs)).1 = 0 → jy_Q T e (jq_g T e kind d 0 0 o (0, p, cs)).2.1 kind o base (jq_g T e kind d 0 0 o (0, p, cs)).2.1 [] (jq_g T e kind d 0 0 o (0, p, cs)).2.2 τ)) := by
  have hpe := hQ.1.pe
  have he := hQ.1.1
  have h6 := hQ.2.2.2.2.2.2.2.2.2.2
  rw [jf_X12_qTest]
  refine (jy_T_all (T := T) hk he d).1 o p base [] cs (fun τ => ((jq_g T e kind d 0 0 o (0, p, cs)).1 ≠ 0 → jy_K (jq_g T e kind d 0 0 o (0, p, cs)).1 (jq_g T e kind d 0 0 o (0, p, cs)).2.1 τ) ∧ ((jq_g T e kind d 0 0 o (0, p, cs)).1 = 0 → jy_Q T e (jq_g T e kind d 0 0 o (0, p, cs)).2.1 kind o base (jq_g T e kind d 0 0 o (0, p, cs)).2.1 [] (jq_g T e kind d 0 0 o (0, p, cs)).2.2 τ)) hb hn h6 hpe.1 hpe.2 (Or.inl rfl) ⟨fun hf υ hυ => ⟨fun _ => hυ, fun z => absurd z hf⟩, fun h0 => ?_⟩ jl_fu s (by show _ < 4000; omega) hQ
  intro pd cs1 he1 hpd hw
  rw [List.nil_append]
  refine jy_ttH (fun z => by have := hpd 25 z; omega) hw (fun υ hυ => ⟨fun z => absurd h0 z, fun _ => ?_⟩)
  rw [he1] at hυ
  exact hυ
