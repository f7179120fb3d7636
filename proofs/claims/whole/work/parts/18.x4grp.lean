/-! PURE, the class's reader: sums and tests are read as jq_g tells (all of them) -/
def jq_pt (kind : Nat) : Int := match kind with
  | 0 => 1572864
  | 1 => 1015808
  | 2 => 1015816
  | _ => 67076104
theorem jq_pt_al : ∀ kind, kind < 4 → ∀ v, v < 32 → jl_and (jl_shr (jq_pt kind) ((v : Nat) : Int)) 1 = if jq_al kind ((v : Nat) : Int) = true then 1 else 0 := by decide +kernel
theorem jq_Fs (q w : Nat) : ((jq_QF q w).all fun x => (jq_QF q w).contains x) = true := by simp [jq_QF]
theorem jq_F1 (q w : Nat) : (([(38, 4, 6), (38, 4, 5)] : jp_F).all fun x => (jq_QF q w).contains x) = true := by simp [jq_QF]
theorem jq_F2 (q w : Nat) : (([(38, 4, 5)] : jp_F).all fun x => (jq_QF q w).contains x) = true := by simp [jq_QF]
theorem jq_F3 (q w : Nat) : (([(38, 4, 5), (38, 7, 9)] : jp_F).all fun x => (jq_QF q w).contains x) = true := by simp [jq_QF]
theorem jq_F4 (q w : Nat) : (([(q, 4, 5), (q + 1, 0, 0), (q + 3, w, w + 1)] : jp_F).all fun x => (jq_QF q w).contains x) = true := by simp [jq_QF]
theorem jq_F5 (q w : Nat) : (([(q, 4, 5), (q + 1, 0, 0), (q + 3, w, w + 1), (q + 4, w, w + 1)] : jp_F).all fun x => (jq_QF q w).contains x) = true := by simp [jq_QF]
theorem jq_F6 (q w : Nat) : (([(38, 3, 6)] : jp_F).all fun x => (jq_QF q w).contains x) = true := by simp [jq_QF]
/-- what stands beside the state of reading -/
def jq_CO (T : Nat → Int) (e q w f kind o : Nat) (st : jq_S) (τ : jl_Mm) : Prop := jq_CS T e q w f st τ ∧ jl_g τ 38 3 = (o : Int) ∧ jl_g τ 38 2 = jq_pt kind
theorem jq_in3 {q w : Nat} {F : jp_F} (h : F = [(38, 4, 6), (38, 4, 5)] ∨ F = [(38, 4, 5)] ∨ F = [(38, 4, 5), (38, 7, 9)] ∨ F = [(q, 4, 5), (q + 1, 0, 0), (q + 3, w, w + 1)] ∨ F = [(q, 4, 5), (q + 1, 0, 0), (q + 3, w, w + 1), (q + 4, w, w + 1)]) (hq : jq_qw q w) : jp_in F 38 3 = false ∧ jp_in F 38 2 = false := by
  obtain ⟨hq, -⟩ := hq
  rcases h with rfl | rfl | rfl | rfl | rfl <;> rcases hq with rfl | rfl | rfl <;> simp [jp_in]
theorem jq_CO.of {T : Nat → Int} {e q w f kind o : Nat} {st st' : jq_S} {s τ : jl_Mm} {F : jp_F} (h : jq_CO T e q w f kind o st s) (z : jq_CS T e q w f st' τ) (fr : jp_fr F s τ) (n : jp_in F 38 3 = false ∧ jp_in F 38 2 = false) : jq_CO T e q w f kind o st' τ :=
  ⟨z, (fr.g _ _ n.1).trans h.2.1, (fr.g _ _ n.2).trans h.2.2⟩
/-- one more code may be put -/
theorem jq_lr {T : Nat → Int} {e q w f p kind h : Nat} {t : Bool} {st r : jq_S} {s : jl_Mm} (hC : jq_CS T e q w f st s) (h0 : st.1 = 0) (hp : st.2.1 < p) (a : jq_rl kind t h (jq_mv T e p st) r) (hw : jq_wf T e r) : r.1 = 0 → r.2.2.length + 1 ≤ r.2.1 ∧ r.2.1 ≤ e := by
  intro hr
  have hl := (hC.2.2.2.2.2.1 h0).2.2.2.2
  rw [jq_mv0 h0] at a
  obtain ⟨c, c1, c2, -⟩ := a.2 rfl hr
  have := jq_sk_ge (T := T) (e := e) (a := p)
  have e1 : r.2.2.length = st.2.2.length + c.length := by rw [c1]; simp
  simp only at c2
  exact ⟨by omega, hw.1⟩
theorem jq_lm {T : Nat → Int} {e q w f p : Nat} {st : jq_S} {s : jl_Mm} (hC : jq_CS T e q w f st s) (h0 : st.1 = 0) (hp : st.2.1 < p) (hpe : p ≤ e) : (jq_mv T e p st).1 = 0 → (jq_mv T e p st).2.2.length + 1 ≤ (jq_mv T e p st).2.1 ∧ (jq_mv T e p st).2.1 ≤ e := by
  intro _
  have hl := (hC.2.2.2.2.2.1 h0).2.2.2.2
  have := jq_sk_ge (T := T) (e := e) (a := p)
  have h2 := jq_sk_ub (T := T) hpe
  rw [jq_mv0 h0]
  simp only
  omega
/-- what was open is closed -/
theorem jq_clo {T : Nat → Int} {e q w f kind o : Nat} {st : jq_S} {s : jl_Mm} (hq : jq_qw q w) (ho : o ≤ 6) (h : jq_CO T e q w f kind (o + 1) st s) : jq_CO T e q w f kind o st (jl_up s 38 3 (((o + 1 : Nat) : Int) - 1)) := by
  obtain ⟨p, p1, p2, p3⟩ := h.1.2.2.2.2.1
  refine ⟨h.1.fr (F := [(38, 3, 4)]) (p := p) hq (jp_fr.rf.up rfl) (by intro c i hc; simp [jp_in] at hc; omega) ?_ p2 p3, ?_, ?_⟩
  · simp (disch := omega) only [if_pos, if_neg, jp_bd, jp_lm, jp_let, jp_zb0, jp_zb1, jp_add, jp_sub, jp_g_eq, jp_g_eqg, jp_g_ne, jp_g_nei, jp_r_ne, jp_r_nei, Int.toNat_natCast, p1]
  · simp (disch := omega) only [if_pos, if_neg, jp_bd, jp_lm, jp_let, jp_zb0, jp_zb1, jp_add, jp_sub, jp_g_eq, jp_g_eqg, jp_g_ne, jp_g_nei, jp_r_ne, jp_r_nei, Int.toNat_natCast]
    omega
  · simp (disch := omega) only [if_pos, if_neg, jp_bd, jp_lm, jp_let, jp_zb0, jp_zb1, jp_add, jp_sub, jp_g_eq, jp_g_eqg, jp_g_ne, jp_g_nei, jp_r_ne, jp_r_nei, Int.toNat_natCast, h.2.2]
def jq_XI (T : Nat → Int) (e q w f kind d : Nat) (rc : Nat → Int → jl_Mm → jl_O) : Prop := ∀ (t : Nat) (a : Int) (o : Nat) (st : jq_S) (s : jl_Mm), jq_nd t o ≤ d → t ≤ 7 → o ≤ 6 → jq_wf T e st → jq_CO T e q w f kind o st s → (t = 6 → a = jq_pn T e st ∧ jl_g s 38 4 = ((jq_at e st : Nat) : Int) ∧ jl_g s 38 5 = ((jq_pb T e st : Nat) : Int)) → (t = 7 → a = 30 ∨ a = 31) → jE (rc t a s) 0 (jq_QF q w) s (fun τ => jq_CO T e q w f kind o (jq_g T e kind d t a o st) τ)
theorem jq_gc {q w f e : Nat} {T : Nat → Int} {st : jq_S} {s : jl_Mm} (hq : jq_qw q w) (h : jq_CS T e q w f st s) : (0 ≤ s 38 1 ∧ (jl_kd (jl_gr s 38 1)).1 = 0) ∧ jl_gr s 38 1 = q := by
  have h2 := h.2.1
  have e1 : jl_gr s 38 1 = q := by rw [jl_gr, h2]; exact Int.toNat_natCast q
  exact ⟨⟨by rw [h2]; omega, by rw [e1]; exact jq_kdq hq⟩, e1⟩
theorem jx4_orL {T : Nat → Int} {e q w f kind d o tt : Nat} {v : Nat} {c : Int} {rc : Nat → Int → jl_Mm → jl_O} {L : Nat → Int → jl_Mm → jl_O} (hq : jq_qw q w) (hv : v < 32) (hU : jq_U c = -(v : Int) - 1) (h43 : c = 43 → v = 16) (h44 : c = 44 → v = 17)
    (hL : ∀ n l1 s, L (n + 1) l1 s = if 1600 ≤ l1 then some (0, s) else jl_bd (jf_X4_takeWord (v : Int) s) fun r4 s5 => if r4 = 0 then some (0, s5) else jl_bd (rc tt 0 s5) fun _ s8 => if 0 ≤ s8 38 1 ∧ (jl_kd (jl_gr s8 38 1)).1 = 0 then jl_bd (jf_X0_putWord (jl_gr s8 38 1) (v : Int) s8) fun _ s11 => L n (jl_add l1 1) s11 else none)
    (hI : jq_XI T e q w f kind d rc) (ho : o ≤ 6) (htt : tt = 1 ∨ tt = 2) (hn : jq_nd tt o ≤ d) : ∀ (m n : Nat) (st : jq_S) (s : jl_Mm), m < n → m ≤ 1600 → jq_wf T e st → jq_CO T e q w f kind o st s → jE (L n ((1600 - m : Nat) : Int) s) 0 (jq_QF q w) s (fun τ => jq_CO T e q w f kind o (jq_orL T e (jq_g T e kind d tt 0 o) (v : Int) c m st) τ) := by
  intro m
  induction m with
  | zero =>
    intro n st s hmn hm hs hC
    cases n with
    | zero => omega
    | succ n =>
      rw [hL, if_pos (by omega)]
      exact jE.ret hC
  | succ m ih =>
    intro n st s hmn hm hs hC
    cases n with
    | zero => omega
    | succ n =>
      rw [hL, if_neg (by omega), jq_orL]
      refine jE.bd (jx4c_take (v := (v : Int)) hq hC.1 hs (by omega)) (jq_F1 q w) (fun s5 f5 z5 => ?_)
      have C5 := hC.of z5 f5 (jq_in3 (Or.inl rfl) hq)
      by_cases q1 : jq_pn T e st = (v : Int)
      · obtain ⟨q0, q2, q3, q4⟩ := jq_pn_in q1 (by omega)
        simp only [if_pos q1] at C5 ⊢
        have hpe : jq_pb T e st ≤ e := by rw [q3]; exact jq_we_ub hs.1
        rw [if_neg (by decide)]
        have hw5 : jq_wf T e (jq_mv T e (jq_pb T e st) st) := hs.mv hpe
        refine jE.bd (hI tt 0 o _ s5 hn (by omega) ho hw5 C5 (fun z => by omega) (fun z => by omega)) (jq_Fs q w) (fun s8 f8 C8 => ?_)
        have hM := jq_ML_all (T := T) (e := e) (kind := kind) d tt 0 o _ hn (by omega) ho hw5 (fun z => by omega) (fun z => by omega)
        obtain ⟨g1, g2⟩ := jq_gc hq C8.1
        rw [if_pos g1, g2]
        refine jE.bd (jx0_putWord (c := c) hq C8.1 (jq_lr hC.1 q0 (by omega) hM.2 hM.1) hv hU h43 h44) (jq_F5 q w) (fun s11 f11 z11 => ?_)
        have C11 := C8.of z11 f11 (jq_in3 (Or.inr (Or.inr (Or.inr (Or.inr rfl)))) hq)
        have e1 : jl_add ((1600 - (m + 1) : Nat) : Int) 1 = ((1600 - m : Nat) : Int) := by rw [jp_add (by omega) (by omega)]; omega
        rw [e1]
        exact ih n _ s11 (by omega) (by omega) hM.1.em C11
      · simp only [if_neg q1] at C5 ⊢
        rw [if_pos trivial]
        exact jE.ret C5
theorem jx4_smL {T : Nat → Int} {e q w f kind d o tt : Nat} {c1 c2 : Int} {rc : Nat → Int → jl_Mm → jl_O} {L : Nat → Int → Int → jl_Mm → jl_O} (hq : jq_qw q w) (hcc : (c1 = 43 ∧ c2 = 45) ∨ (c1 = 42 ∧ c2 = 47))
    (hL : ∀ n l1 l2 s, L (n + 1) l1 l2 s = if 1600 ≤ l2 then some (0, s) else if l1 = c1 ∨ l1 = c2 then jl_lm (jl_up s 38 4 (jl_add (jl_g s 38 4) 1)) fun s7 => jl_bd (rc tt 0 s7) fun _ s9 => if 0 ≤ s9 38 1 ∧ (jl_kd (jl_gr s9 38 1)).1 = 0 then jl_bd (jf_X0_put (jl_gr s9 38 1) (jl_xor l1 (-1)) s9) fun _ s12 => jl_bd (jf_X4_peek s12) fun r13 s14 => L n r13 (jl_add l2 1) s14 else none else some (0, s))
    (hI : jq_XI T e q w f kind d rc) (ho : o ≤ 6) (htt : tt = 4 ∨ tt = 5) (hn : jq_nd tt o ≤ d) : ∀ (m n : Nat) (st : jq_S) (s : jl_Mm), m < n → m ≤ 1600 → jq_wf T e st → jq_CO T e q w f kind o st s → jl_g s 38 4 = ((jq_at e st : Nat) : Int) → jE (L n (jq_pc T e st) ((1600 - m : Nat) : Int) s) 0 (jq_QF q w) s (fun τ => jq_CO T e q w f kind o (jq_smL T e (jq_g T e kind d tt 0 o) c1 c2 m st) τ) := by
  intro m
  induction m with
  | zero =>
    intro n st s hmn hm hs hC hat
    cases n with
    | zero => omega
    | succ n =>
      rw [hL, if_pos (by omega)]
      exact jE.ret hC
  | succ m ih =>
    intro n st s hmn hm hs hC hat
    have he := hC.1.1.1
    cases n with
    | zero => omega
    | succ n =>
      rw [hL, if_neg (by omega), jq_smL]
      by_cases q1 : jq_pc T e st = c1 ∨ jq_pc T e st = c2
      · obtain ⟨q0, q2, q3⟩ := jq_pc_in (T := T) (e := e) (st := st) rfl (by omega)
        rw [if_pos q1, if_pos q1, hat, jq_at0 q0, jp_add (by omega) (by omega)]
        have C7 : jq_CO T e q w f kind o (jq_mv T e (st.2.1 + 1) st) (jl_up s 38 4 ((st.2.1 : Nat) + 1 : Int)) := hC.of (F := [(38, 4, 5)]) (jx4c_mv (p := st.2.1 + 1) hq hC.1 q0 (by omega) (by omega)) (jp_fr.rf.up rfl) ⟨rfl, rfl⟩
        refine jE.lm (by simp [jq_QF, jp_in]) ?_
        have hw7 : jq_wf T e (jq_mv T e (st.2.1 + 1) st) := hs.mv (by omega)
        refine jE.bd (hI tt 0 o _ _ hn (by omega) ho hw7 C7 (fun z => by omega) (fun z => by omega)) (jq_Fs q w) (fun s9 f9 C9 => ?_)
        have hM := jq_ML_all (T := T) (e := e) (kind := kind) d tt 0 o _ hn (by omega) ho hw7 (fun z => by omega) (fun z => by omega)
        obtain ⟨g1, g2⟩ := jq_gc hq C9.1
        rw [if_pos g1, g2]
        have hx : jq_pc T e st = 43 ∨ jq_pc T e st = 45 ∨ jq_pc T e st = 42 ∨ jq_pc T e st = 47 := by omega
        have hU : jl_xor (jq_pc T e st) (-1) = jq_U (jq_cs (jq_pc T e st)) := by
          rcases hx with z | z | z | z <;> rw [z] <;> decide +kernel
        have hUn : jl_n3 (jq_U (jq_cs (jq_pc T e st))) := by rw [← hU]; exact jp_xor_n _ _
        refine jE.bd (jx0_put (c := jq_cs (jq_pc T e st)) hq C9.1 (jq_lr hC.1 q0 (by omega) hM.2 hM.1) ?_ _ (fun _ => hU) (fun _ => hUn)) (jq_F4 q w) (fun s12 f12 z12 => ?_)
        · rcases hx with z | z | z | z <;> rw [z] <;> exact ⟨fun q => absurd q (by decide), fun q => absurd q (by decide)⟩
        have C12 := C9.of z12 f12 (jq_in3 (Or.inr (Or.inr (Or.inr (Or.inl rfl)))) hq)
        refine jE.bd (jx4c_peek hq C12.1) (jq_F2 q w) (fun s14 f14 z14 => ?_)
        have C14 := C12.of z14.1 f14 ⟨rfl, rfl⟩
        have e1 : jl_add ((1600 - (m + 1) : Nat) : Int) 1 = ((1600 - m : Nat) : Int) := by rw [jp_add (by omega) (by omega)]; omega
        rw [e1]
        exact ih n _ s14 (by omega) (by omega) hM.1.em C14 z14.2
      · rw [if_neg q1, if_neg q1]
        exact jE.ret hC
theorem jx4_grp {T : Nat → Int} {e q w f kind : Nat} (hq : jq_qw q w) (hk : kind < 4) : ∀ d, jq_XI T e q w f kind d (jf_X4_grp d) := by
  intro d
  induction d with
  | zero => intro t a o st s h; simp only [jq_nd] at h; intro h7; omega
  | succ d ih =>
    intro t a o st s hn h7 h6 hs hC ha6 ha7
    have he := hC.1.1.1
    have ML := jq_ML_all (T := T) (e := e) (kind := kind) d
    have ht : t = 0 ∨ t = 1 ∨ t = 2 ∨ t = 3 ∨ t = 4 ∨ t = 5 ∨ t = 6 ∨ t = 7 := by omega
    rcases ht with rfl | rfl | rfl | rfl | rfl | rfl | rfl | rfl <;> simp only [jq_nd] at hn <;> rw [jq_g, jf_X4_grp]
    · rw [if_pos rfl, if_pos rfl, jf_X4_test]
      have hn1 : jq_nd 1 o ≤ d := by simp only [jq_nd]; omega
      refine jE.bd (ih 1 0 o st s hn1 (by omega) h6 hs hC (fun z => by omega) (fun z => by omega)) (jq_Fs q w) (fun s2 f2 C2 => ?_)
      have hM := ML 1 0 o st hn1 (by omega) h6 hs (fun z => by omega) (fun z => by omega)
      exact jx4_orL (v := 26) (c := 11) (rc := jf_X4_grp d) (L := jf_X4_test_L6 (jf_X4_grp d)) hq (by decide) (by decide) (by decide) (by decide) (fun n l1 s => rfl) ih h6 (Or.inl rfl) hn1 1600 jl_fu _ s2 (by decide) (Nat.le_refl _) hM.1 C2
    · rw [if_neg (by decide), if_pos rfl, if_neg (by decide), if_pos rfl, jf_X4_both]
      have hn1 : jq_nd 2 o ≤ d := by simp only [jq_nd]; omega
      refine jE.bd (ih 2 0 o st s hn1 (by omega) h6 hs hC (fun z => by omega) (fun z => by omega)) (jq_Fs q w) (fun s2 f2 C2 => ?_)
      have hM := ML 2 0 o st hn1 (by omega) h6 hs (fun z => by omega) (fun z => by omega)
      exact jx4_orL (v := 27) (c := 10) (rc := jf_X4_grp d) (L := jf_X4_both_L6 (jf_X4_grp d)) hq (by decide) (by decide) (by decide) (by decide) (fun n l1 s => rfl) ih h6 (Or.inr rfl) hn1 1600 jl_fu _ s2 (by decide) (Nat.le_refl _) hM.1 C2
    · rw [if_neg (by decide), if_neg (by decide), if_pos rfl, if_neg (by decide), if_neg (by decide), if_pos rfl, jf_X4_fact, jq_fact]
      refine jE.bd (jx4c_word hq hC.1) (jq_F1 q w) (fun s2 f2 ⟨z2, hat2, hpb2⟩ => ?_)
      have C2 := hC.of z2 f2 (jq_in3 (Or.inl rfl) hq)
      by_cases q28 : jq_pn T e st = 28
      · obtain ⟨q0, q1, q2, q3⟩ := jq_pn_in q28 (by decide)
        have hpe : jq_pb T e st ≤ e := by rw [q2]; exact jq_we_ub hs.1
        rw [if_pos q28, if_pos q28, hpb2]
        by_cases ho : o < 6
        · rw [if_pos ho]
          refine jE.bd (jx4c_open hq C2.1 q0 C2.2.1 ho hpe (by omega)) (jq_F6 q w) (fun s36 f36 ⟨z36, o36⟩ => ?_)
          rw [if_neg (by decide)]
          have C36 : jq_CO T e q w f kind (o + 1) (jq_mv T e (jq_pb T e st) st) s36 := ⟨z36, o36, (f36.g _ _ rfl).trans C2.2.2⟩
          have hw36 := hs.mv (T := T) hpe
          have hn1 : jq_nd 2 (o + 1) ≤ d := by simp only [jq_nd]; omega
          have hM := ML 2 0 (o + 1) _ hn1 (by omega) (by omega) hw36 (fun z => by omega) (fun z => by omega)
          refine jE.bd (ih 2 0 (o + 1) _ s36 hn1 (by omega) (by omega) hw36 C36 (fun z => by omega) (fun z => by omega)) (jq_Fs q w) (fun s39 f39 C39 => ?_)
          obtain ⟨g1, g2⟩ := jq_gc hq C39.1
          rw [if_pos g1, g2]
          refine jE.bd (jx0_putWord (v := 28) (c := 12) hq C39.1 (jq_lr hC.1 q0 (by omega) hM.2 hM.1) (by decide) (by decide) (by decide) (by decide)) (jq_F5 q w) (fun s42 f42 z42 => ?_)
          have C42 := C39.of z42 f42 (jq_in3 (Or.inr (Or.inr (Or.inr (Or.inr rfl)))) hq)
          rw [C42.2.1, jp_sub (by omega) (by omega)]
          exact jE.lm (by simp [jq_QF, jp_in]) (jE.ret (jq_clo hq h6 C42))
        · rw [if_neg ho]
          refine jE.bd (jx4c_openF hq C2.1 hs C2.2.1 ho hat2) (jq_F3 q w) (fun s36 f36 ⟨z36, o36⟩ => ?_)
          rw [if_pos rfl, jf_X4_fact_B181]
          exact jE.ret (C2.of z36 f36 ⟨rfl, rfl⟩)
      · rw [if_neg q28, if_neg q28]
        by_cases q29 : jq_pn T e st = 29
        · obtain ⟨q0, q1, q2, q3⟩ := jq_pn_in q29 (by decide)
          have hpe : jq_pb T e st ≤ e := by rw [q2]; exact jq_we_ub hs.1
          rw [if_pos q29, if_pos q29, hpb2]
          have C3 := C2.of (F := [(38, 4, 5)]) (jx4c_mv hq C2.1 q0 hpe (by omega)) (jp_fr.rf.up rfl) ⟨rfl, rfl⟩
          refine jE.lm (by simp [jq_QF, jp_in]) ?_
          obtain ⟨g1, g2⟩ := jq_gc hq C3.1
          rw [if_pos g1, g2]
          refine jE.bd (jx0_put (c := 13) hq C3.1 (jq_lm C2.1 q0 (by omega) hpe) ⟨fun z => absurd z (by decide), fun z => absurd z (by decide)⟩ 1 (fun _ => rfl) (fun _ => ⟨by decide, by decide⟩)) (jq_F4 q w) (fun s12 f12 z12 => ?_)
          exact jE.ret (C3.of z12 f12 (jq_in3 (Or.inr (Or.inr (Or.inr (Or.inl rfl)))) hq))
        · rw [if_neg q29, if_neg q29]
          refine jE.bd (jx4c_peek hq C2.1) (jq_F2 q w) (fun s6 f6 ⟨z6, hat6⟩ => ?_)
          have C6 := C2.of z6 f6 ⟨rfl, rfl⟩
          by_cases q91 : jq_pc T e st = 91
          · obtain ⟨q0, q1, q2⟩ := jq_pc_in q91 (by decide)
            rw [if_pos q91, if_pos q91, hat6, jq_at0 q0, jp_add (by omega) (by omega)]
            by_cases ho : o < 6
            · rw [if_pos ho]
              refine jE.bd (jx4c_open (p := st.2.1 + 1) hq C6.1 q0 C6.2.1 ho (by omega) (by omega)) (jq_F6 q w) (fun s24 f24 ⟨z24, o24⟩ => ?_)
              rw [if_neg (by decide)]
              have C24 : jq_CO T e q w f kind (o + 1) (jq_mv T e (st.2.1 + 1) st) s24 := ⟨z24, o24, (f24.g _ _ rfl).trans C6.2.2⟩
              have hw24 := hs.mv (T := T) (p := st.2.1 + 1) (by omega)
              have hn1 : jq_nd 0 (o + 1) ≤ d := by simp only [jq_nd]; omega
              have hM := ML 0 0 (o + 1) _ hn1 (by omega) (by omega) hw24 (fun z => by omega) (fun z => by omega)
              refine jE.bd (ih 0 0 (o + 1) _ s24 hn1 (by omega) (by omega) hw24 C24 (fun z => by omega) (fun z => by omega)) (jq_Fs q w) (fun s27 f27 C27 => ?_)
              refine jE.bd (jx4c_sign hq C27.1 hM.1 (by decide)) (jq_F3 q w) (fun s29 f29 z29 => ?_)
              have C29 := C27.of z29 f29 ⟨rfl, rfl⟩
              rw [C29.2.1, jp_sub (by omega) (by omega)]
              exact jE.lm (by simp [jq_QF, jp_in]) (jE.ret (jq_clo hq h6 C29))
            · rw [if_neg ho, ← jq_at0 (e := e) q0]
              refine jE.bd (jx4c_openF hq C6.1 hs C6.2.1 ho hat6) (jq_F3 q w) (fun s36 f36 ⟨z36, o36⟩ => ?_)
              rw [if_pos rfl, jf_X4_fact_B181]
              exact jE.ret (C6.of z36 f36 ⟨rfl, rfl⟩)
          · rw [if_neg q91, if_neg q91]
            have hn1 : jq_nd 3 o ≤ d := by simp only [jq_nd]; omega
            have hM := ML 3 0 o st hn1 (by omega) h6 hs (fun z => by omega) (fun z => by omega)
            refine jE.bd (ih 3 0 o st s6 hn1 (by omega) h6 hs C6 (fun z => by omega) (fun z => by omega)) (jq_Fs q w) (fun s9 f9 C9 => ?_)
            generalize jq_g T e kind d 3 0 o st = m at *
            refine jE.bd (jx4c_peek hq C9.1) (jq_F2 q w) (fun s11 f11 ⟨z11, hat11⟩ => ?_)
            have C11 := C9.of z11 f11 ⟨rfl, rfl⟩
            rw [jq_cmp]
            by_cases qc : jq_pc T e m = 60 ∨ jq_pc T e m = 62 ∨ jq_pc T e m = 61
            · obtain ⟨q0, q1, q2⟩ := jq_pc_in (T := T) (e := e) (st := m) rfl (by omega)
              have em : jE (jf_X4_fact_B145 (jf_X4_grp d) (jq_pc T e m) s11) 0 (jq_QF q w) s11 (fun τ => jq_CO T e q w f kind o (jq_em (jq_cs (jq_pc T e m)) (jq_g T e kind d 3 0 o (jq_mv T e (m.2.1 + 1) m))) τ) := by
                rw [jf_X4_fact_B145, hat11, jq_at0 q0, jp_add (by omega) (by omega)]
                have C13 : jq_CO T e q w f kind o (jq_mv T e (m.2.1 + 1) m) (jl_up s11 38 4 ((m.2.1 : Nat) + 1 : Int)) := C11.of (F := [(38, 4, 5)]) (jx4c_mv (p := m.2.1 + 1) hq C11.1 q0 (by omega) (by omega)) (jp_fr.rf.up rfl) ⟨rfl, rfl⟩
                refine jE.lm (by simp [jq_QF, jp_in]) ?_
                have hw13 := hM.1.mv (p := m.2.1 + 1) (by omega)
                have hM2 := ML 3 0 o _ hn1 (by omega) h6 hw13 (fun z => by omega) (fun z => by omega)
                refine jE.bd (ih 3 0 o _ _ hn1 (by omega) h6 hw13 C13 (fun z => by omega) (fun z => by omega)) (jq_Fs q w) (fun s15 f15 C15 => ?_)
                obtain ⟨g1, g2⟩ := jq_gc hq C15.1
                rw [if_pos g1, g2]
                have hU : jl_xor (jq_pc T e m) (-1) = jq_U (jq_cs (jq_pc T e m)) := by
                  rcases qc with z | z | z <;> rw [z] <;> decide +kernel
                have hUn : jl_n3 (jq_U (jq_cs (jq_pc T e m))) := by rw [← hU]; exact jp_xor_n _ _
                refine jE.bd (jx0_put (c := jq_cs (jq_pc T e m)) hq C15.1 (jq_lr C11.1 q0 (by omega) hM2.2 hM2.1) ?_ _ (fun _ => hU) (fun _ => hUn)) (jq_F4 q w) (fun s18 f18 z18 => ?_)
                · rcases qc with z | z | z <;> rw [z] <;> exact ⟨fun q => absurd q (by decide), fun q => absurd q (by decide)⟩
                exact jE.ret (C15.of z18 f18 (jq_in3 (Or.inr (Or.inr (Or.inr (Or.inl rfl)))) hq))
              rw [if_pos qc, jq_at0 q0]
              by_cases c60 : jq_pc T e m = 60
              · rw [if_pos c60]; exact em
              · rw [if_neg c60]
                by_cases c62 : jq_pc T e m = 62
                · rw [if_pos c62]; exact em
                · rw [if_neg c62, if_pos (by omega)]; exact em
            · rw [if_neg qc, if_neg (by omega), if_neg (by omega), if_neg (by omega), hat11]
              have := hM.1.at
              refine jE.bd (jx4c_fail (k := 1) hq C11.1 (by decide) (by decide) (by omega)) (jq_F3 q w) (fun s22 f22 z22 => ?_)
              exact jE.ret (C11.of z22 f22 ⟨rfl, rfl⟩)
    · rw [if_neg (by decide), if_neg (by decide), if_neg (by decide), if_pos rfl, if_neg (by decide), if_neg (by decide), if_neg (by decide), if_pos rfl, jf_X4_sum]
      have hn1 : jq_nd 4 o ≤ d := by simp only [jq_nd]; omega
      refine jE.bd (ih 4 0 o st s hn1 (by omega) h6 hs hC (fun z => by omega) (fun z => by omega)) (jq_Fs q w) (fun s2 f2 C2 => ?_)
      have hM := ML 4 0 o st hn1 (by omega) h6 hs (fun z => by omega) (fun z => by omega)
      refine jE.bd (jx4c_peek hq C2.1) (jq_F2 q w) (fun s4 f4 ⟨z4, hat4⟩ => ?_)
      have C4 := C2.of z4 f4 ⟨rfl, rfl⟩
      refine jx4_smL (rc := jf_X4_grp d) (L := jf_X4_sum_L11 (jf_X4_grp d)) hq (Or.inl ⟨rfl, rfl⟩) (fun n l1 l2 s => ?_) ih h6 (Or.inl rfl) hn1 1600 jl_fu _ s4 (by decide) (Nat.le_refl _) hM.1 C4 hat4
      rw [jf_X4_sum_L11]
      simp only [jf_X4_sum_B30, jf_X4_sum_B65]
      by_cases h1 : l1 = 43
      · simp [h1]
      · by_cases h2 : l1 = 45 <;> simp [h1, h2]
    · rw [if_neg (by decide), if_neg (by decide), if_neg (by decide), if_neg (by decide), if_pos rfl, if_neg (by decide), if_neg (by decide), if_neg (by decide), if_neg (by decide), if_pos rfl, jf_X4_product]
      have hn1 : jq_nd 5 o ≤ d := by simp only [jq_nd]; omega
      refine jE.bd (ih 5 0 o st s hn1 (by omega) h6 hs hC (fun z => by omega) (fun z => by omega)) (jq_Fs q w) (fun s2 f2 C2 => ?_)
      have hM := ML 5 0 o st hn1 (by omega) h6 hs (fun z => by omega) (fun z => by omega)
      refine jE.bd (jx4c_peek hq C2.1) (jq_F2 q w) (fun s4 f4 ⟨z4, hat4⟩ => ?_)
      have C4 := C2.of z4 f4 ⟨rfl, rfl⟩
      refine jx4_smL (rc := jf_X4_grp d) (L := jf_X4_product_L11 (jf_X4_grp d)) hq (Or.inr ⟨rfl, rfl⟩) (fun n l1 l2 s => ?_) ih h6 (Or.inr rfl) hn1 1600 jl_fu _ s4 (by decide) (Nat.le_refl _) hM.1 C4 hat4
      rw [jf_X4_product_L11]
      simp only [jf_X4_product_B30, jf_X4_product_B65]
      by_cases h1 : l1 = 42
      · simp [h1]
      · by_cases h2 : l1 = 47 <;> simp [h1, h2]
    · rw [if_neg (by decide), if_neg (by decide), if_neg (by decide), if_neg (by decide), if_neg (by decide), if_pos rfl, if_neg (by decide), if_neg (by decide), if_neg (by decide), if_neg (by decide), if_neg (by decide), if_pos rfl, jf_X4_part, jq_part]
      refine jE.bd (jx4c_peek hq hC.1) (jq_F2 q w) (fun s4 f4 ⟨z4, hat4⟩ => ?_)
      have C4 := hC.of z4 f4 ⟨rfl, rfl⟩
      rw [jx4_digit, jp_bd]
      by_cases hd : jq_dg (jq_pc T e st)
      · obtain ⟨q0, q1, q2⟩ := jq_pc_in (T := T) (e := e) (st := st) rfl (by omega)
        rw [if_pos hd, if_neg (by decide), if_pos hd, jq_numP]
        obtain ⟨g1, g2⟩ := jq_gc hq C4.1
        rw [if_pos g1, g2]
        refine jE.bd (jx4c_num hq C4.1 hs) (jq_F3 q w) (fun s21 f21 z21 => ?_)
        have C21 := C4.of z21 f21 ⟨rfl, rfl⟩
        have nm := jq_nm_ok (T := T) (lo := 0) (hi := 9999) hs.at
        by_cases hk0 : (jq_nm T e 0 9999 (jq_at e st)).1 = 0
        · obtain ⟨n1, n2, n3⟩ := nm.2 hk0
          have n1' := Nat.lt_of_le_of_lt (Nat.le_of_eq (jq_at0 (e := e) q0).symm) n1
          simp only [if_pos hk0] at C21 ⊢
          have hU : jq_U (1000 + (jq_nm T e 0 9999 (jq_at e st)).2.2) = (jq_nm T e 0 9999 (jq_at e st)).2.2 := by
            rw [jq_U, if_pos (by omega)]; omega
          refine jE.bd (jx0_put (c := 1000 + (jq_nm T e 0 9999 (jq_at e st)).2.2) hq C21.1 (jq_lm C4.1 q0 n1' nm.1) ⟨fun z => by omega, fun z => by omega⟩ _ (fun _ => hU.symm) (fun _ => by rw [hU]; exact ⟨by omega, by omega⟩)) (jq_F4 q w) (fun s23 f23 z23 => ?_)
          exact jE.ret (C21.of z23 f23 (jq_in3 (Or.inr (Or.inr (Or.inr (Or.inl rfl)))) hq))
        · simp only [if_neg hk0] at C21 ⊢
          have k0 : (jq_fl (jq_nm T e 0 9999 (jq_at e st)).1 (jq_nm T e 0 9999 (jq_at e st)).2.1 st).1 ≠ 0 := by rw [jq_fl0 q0]; exact hk0
          refine jE.bd (jx0_put (c := 1000) hq C21.1 (fun z => absurd z k0) ⟨fun z => absurd z (by decide), fun z => absurd z (by decide)⟩ _ (fun z => absurd z k0) (fun z => absurd z k0)) (jq_F4 q w) (fun s23 f23 z23 => ?_)
          have C23 := C21.of z23 f23 (jq_in3 (Or.inr (Or.inr (Or.inr (Or.inl rfl)))) hq)
          obtain ⟨⟨b1, b2, b3, b4, b5, b6, b7⟩, b8⟩ := C23
          exact jE.ret ⟨⟨b1, b2, b3, b4, b5, fun z => absurd z k0, b7⟩, b8⟩
      · rw [if_neg hd, if_pos rfl, if_neg hd]
        by_cases q40 : jq_pc T e st = 40
        · obtain ⟨q0, q1, q2⟩ := jq_pc_in q40 (by decide)
          rw [if_pos q40, if_pos q40, hat4, jq_at0 q0, jp_add (by omega) (by omega)]
          by_cases ho : o < 6
          · rw [if_pos ho]
            refine jE.bd (jx4c_open (p := st.2.1 + 1) hq C4.1 q0 C4.2.1 ho (by omega) (by omega)) (jq_F6 q w) (fun s24 f24 ⟨z24, o24⟩ => ?_)
            rw [if_neg (by decide)]
            have C24 : jq_CO T e q w f kind (o + 1) (jq_mv T e (st.2.1 + 1) st) s24 := ⟨z24, o24, (f24.g _ _ rfl).trans C4.2.2⟩
            have hw24 := hs.mv (T := T) (p := st.2.1 + 1) (by omega)
            have hn1 : jq_nd 3 (o + 1) ≤ d := by simp only [jq_nd]; omega
            have hM := ML 3 0 (o + 1) _ hn1 (by omega) (by omega) hw24 (fun z => by omega) (fun z => by omega)
            refine jE.bd (ih 3 0 (o + 1) _ s24 hn1 (by omega) (by omega) hw24 C24 (fun z => by omega) (fun z => by omega)) (jq_Fs q w) (fun s27 f27 C27 => ?_)
            refine jE.bd (jx4c_sign hq C27.1 hM.1 (by decide)) (jq_F3 q w) (fun s29 f29 z29 => ?_)
            have C29 := C27.of z29 f29 ⟨rfl, rfl⟩
            rw [C29.2.1, jp_sub (by omega) (by omega)]
            exact jE.lm (by simp [jq_QF, jp_in]) (jE.ret (jq_clo hq h6 C29))
          · rw [if_neg ho, ← jq_at0 (e := e) q0]
            refine jE.bd (jx4c_openF hq C4.1 hs C4.2.1 ho hat4) (jq_F3 q w) (fun s36 f36 ⟨z36, o36⟩ => ?_)
            rw [if_pos rfl, jf_X4_part_B80]
            exact jE.ret (C4.of z36 f36 ⟨rfl, rfl⟩)
        · rw [if_neg q40, if_neg q40]
          refine jE.bd (jx4c_word hq C4.1) (jq_F1 q w) (fun s8 f8 ⟨z8, hat8, hpb8⟩ => ?_)
          have C8 := C4.of z8 f8 (jq_in3 (Or.inl rfl) hq)
          have hn1 : jq_nd 6 o ≤ d := by simp only [jq_nd]; omega
          refine jE.bd (ih 6 _ o st s8 hn1 (by omega) h6 hs C8 (fun _ => ⟨rfl, hat8, hpb8⟩) (fun z => by omega)) (jq_Fs q w) (fun s10 f10 C10 => ?_)
          exact jE.ret C10
    · rw [if_neg (by decide), if_neg (by decide), if_neg (by decide), if_neg (by decide), if_neg (by decide), if_neg (by decide), if_pos rfl, if_neg (by decide), if_neg (by decide), if_neg (by decide), if_neg (by decide), if_neg (by decide), if_neg (by decide), if_pos rfl, jf_X4_wordPart, jq_word]
      obtain ⟨hpn, hat, hpb⟩ := ha6 rfl
      have hat9 := hs.at
      have hfail : jE (jf_X4_wordPart_B49 (jf_X4_grp d) s) 0 (jq_QF q w) s (fun τ => jq_CO T e q w f kind o (jq_fl 1 (jq_at e st) st) τ) := by
        rw [jf_X4_wordPart_B49, hat]
        refine jE.bd (jx4c_fail (k := 1) hq hC.1 (by decide) (by decide) (by omega)) (jq_F3 q w) (fun s22 f22 z22 => ?_)
        exact jE.ret (hC.of z22 f22 ⟨rfl, rfl⟩)
      by_cases h30 : a = 30 ∨ a = 31
      · obtain ⟨q0, q1, q2, q3⟩ := jq_pn_in hpn.symm (by omega)
        have hpe : jq_pb T e st ≤ e := by rw [q2]; exact jq_we_ub hs.1
        have hp : jE (jf_X4_wordPart_B12 (jf_X4_grp d) a s) 0 (jq_QF q w) s (fun τ => jq_CO T e q w f kind o (jq_g T e kind d 7 a o (jq_mv T e (jq_pb T e st) st)) τ) := by
          rw [jf_X4_wordPart_B12, hpb]
          have C3 := hC.of (F := [(38, 4, 5)]) (jx4c_mv hq hC.1 q0 hpe (by omega)) (jp_fr.rf.up rfl) ⟨rfl, rfl⟩
          refine jE.lm (by simp [jq_QF, jp_in]) ?_
          have hn1 : jq_nd 7 o ≤ d := by simp only [jq_nd]; omega
          refine jE.bd (ih 7 a o _ _ hn1 (by omega) h6 (hs.mv hpe) C3 (fun z => by omega) (fun _ => h30)) (jq_Fs q w) (fun s10 f10 C10 => ?_)
          exact jE.ret C10
        rw [if_pos h30]
        by_cases h1 : a = 30
        · rw [if_pos h1]; exact hp
        · rw [if_neg h1, if_pos (by omega)]; exact hp
      · rw [if_neg h30, if_neg (by omega), if_neg (by omega)]
        by_cases hneg : a < 0
        · rw [if_pos hneg, if_pos (Or.inl hneg)]; exact hfail
        · rw [if_neg hneg]
          by_cases h31 : 31 < a
          · rw [if_pos h31, if_pos (Or.inr (Or.inl h31))]; exact hfail
          · rw [if_neg h31, hC.2.2]
            obtain ⟨v, rfl⟩ : ∃ v : Nat, a = (v : Int) := ⟨a.toNat, by omega⟩
            rw [jq_pt_al kind hk v (by omega)]
            by_cases hal : jq_al kind (v : Int) = true
            · obtain ⟨q0, q1, q2, q3⟩ := jq_pn_in hpn.symm (by omega)
              have hpe : jq_pb T e st ≤ e := by rw [q2]; exact jq_we_ub hs.1
              have hcU : jq_U (jq_cd (v : Int)) = -(v : Int) - 1 ∧ (jq_cd (v : Int) = 43 → v = 16) ∧ (jq_cd (v : Int) = 44 → v = 17) := by
                have z : [19, 15, 16, 17, 18, 3, 20, 21, 22, 23, 24, 25].contains (v : Int) = true := by
                  unfold jq_al at hal
                  split at hal <;> simp at hal ⊢ <;> omega
                have z2 : v = 19 ∨ v = 15 ∨ v = 16 ∨ v = 17 ∨ v = 18 ∨ v = 3 ∨ v = 20 ∨ v = 21 ∨ v = 22 ∨ v = 23 ∨ v = 24 ∨ v = 25 := by
                  simp at z; omega
                rcases z2 with rfl | rfl | rfl | rfl | rfl | rfl | rfl | rfl | rfl | rfl | rfl | rfl <;> decide
              rw [if_pos hal, if_neg (by decide), if_neg (c := (v : Int) < 0 ∨ 31 < (v : Int) ∨ jq_al kind (v : Int) = false) (by rw [hal]; simp; omega)]
              by_cases h24 : (v : Int) = 24 ∨ (v : Int) = 25
              · have hw73 : jE (jf_X4_wordPart_B73 (jf_X4_grp d) (v : Int) s) 0 (jq_QF q w) s (fun τ => jq_CO T e q w f kind o (if o < 6 then jq_em (jq_cd (v : Int)) (jq_g T e kind d 5 0 (o + 1) (jq_mv T e (jq_pb T e st) st)) else jq_fl 4 (jq_at e st) st) τ) := by
                  rw [jf_X4_wordPart_B73, hpb]
                  by_cases ho : o < 6
                  · rw [if_pos ho]
                    refine jE.bd (jx4c_open hq hC.1 q0 hC.2.1 ho hpe (by omega)) (jq_F6 q w) (fun s36 f36 ⟨z36, o36⟩ => ?_)
                    rw [if_neg (by decide)]
                    have C36 : jq_CO T e q w f kind (o + 1) (jq_mv T e (jq_pb T e st) st) s36 := ⟨z36, o36, (f36.g _ _ rfl).trans hC.2.2⟩
                    have hw36 := hs.mv (T := T) hpe
                    have hn1 : jq_nd 5 (o + 1) ≤ d := by simp only [jq_nd]; omega
                    have hM := ML 5 0 (o + 1) _ hn1 (by omega) (by omega) hw36 (fun z => by omega) (fun z => by omega)
                    refine jE.bd (ih 5 0 (o + 1) _ s36 hn1 (by omega) (by omega) hw36 C36 (fun z => by omega) (fun z => by omega)) (jq_Fs q w) (fun s39 f39 C39 => ?_)
                    obtain ⟨g1, g2⟩ := jq_gc hq C39.1
                    rw [if_pos g1, g2]
                    refine jE.bd (jx0_putWord (v := v) (c := jq_cd (v : Int)) hq C39.1 (jq_lr hC.1 q0 (by omega) hM.2 hM.1) (by omega) hcU.1 hcU.2.1 hcU.2.2) (jq_F5 q w) (fun s42 f42 z42 => ?_)
                    have C42 := C39.of z42 f42 (jq_in3 (Or.inr (Or.inr (Or.inr (Or.inr rfl)))) hq)
                    rw [C42.2.1, jp_sub (by omega) (by omega)]
                    exact jE.lm (by simp [jq_QF, jp_in]) (jE.ret (jq_clo hq h6 C42))
                  · rw [if_neg ho]
                    refine jE.bd (jx4c_openF hq hC.1 hs hC.2.1 ho hat) (jq_F3 q w) (fun s36 f36 ⟨z36, o36⟩ => ?_)
                    rw [if_pos rfl, jf_X4_wordPart_B125]
                    exact jE.ret (hC.of z36 f36 ⟨rfl, rfl⟩)
                rw [if_pos h24]
                by_cases h1 : (v : Int) = 24
                · rw [if_pos h1]; exact hw73
                · rw [if_neg h1, if_pos (by omega)]; exact hw73
              · rw [if_neg h24, if_neg (by omega), if_neg (by omega), hpb]
                have C3 := hC.of (F := [(38, 4, 5)]) (jx4c_mv hq hC.1 q0 hpe (by omega)) (jp_fr.rf.up rfl) ⟨rfl, rfl⟩
                refine jE.lm (by simp [jq_QF, jp_in]) ?_
                obtain ⟨g1, g2⟩ := jq_gc hq C3.1
                rw [if_pos g1, g2]
                refine jE.bd (jx0_putWord (v := v) (c := jq_cd (v : Int)) hq C3.1 (jq_lm hC.1 q0 (by omega) hpe) (by omega) hcU.1 hcU.2.1 hcU.2.2) (jq_F5 q w) (fun s12 f12 z12 => ?_)
                exact jE.ret (C3.of z12 f12 (jq_in3 (Or.inr (Or.inr (Or.inr (Or.inr rfl)))) hq))
            · rw [if_neg hal, if_pos rfl, if_pos (Or.inr (Or.inr (by simpa using hal)))]
              exact hfail
    · rw [if_neg (by decide), if_neg (by decide), if_neg (by decide), if_neg (by decide), if_neg (by decide), if_neg (by decide), if_neg (by decide), if_pos rfl, if_neg (by decide), if_neg (by decide), if_neg (by decide), if_neg (by decide), if_neg (by decide), if_neg (by decide), if_neg (by decide), jf_X4_pairPart, jq_pair]
      have hat9 := hs.at
      refine jE.bd (jx4c_peek hq hC.1) (jq_F2 q w) (fun s4 f4 ⟨z4, hat4⟩ => ?_)
      have C4 := hC.of z4 f4 ⟨rfl, rfl⟩
      by_cases q40 : jq_pc T e st = 40
      · obtain ⟨q0, q1, q2⟩ := jq_pc_in q40 (by decide)
        rw [if_pos q40, if_pos q40, hat4, jq_at0 q0, jp_add (by omega) (by omega)]
        by_cases ho : o < 6
        · rw [if_pos ho]
          refine jE.bd (jx4c_open (p := st.2.1 + 1) hq C4.1 q0 C4.2.1 ho (by omega) (by omega)) (jq_F6 q w) (fun s24 f24 ⟨z24, o24⟩ => ?_)
          rw [if_neg (by decide)]
          have C24 : jq_CO T e q w f kind (o + 1) (jq_mv T e (st.2.1 + 1) st) s24 := ⟨z24, o24, (f24.g _ _ rfl).trans C4.2.2⟩
          have hw24 := hs.mv (T := T) (p := st.2.1 + 1) (by omega)
          have hn1 : jq_nd 3 (o + 1) ≤ d := by simp only [jq_nd]; omega
          have hM := ML 3 0 (o + 1) _ hn1 (by omega) (by omega) hw24 (fun z => by omega) (fun z => by omega)
          refine jE.bd (ih 3 0 (o + 1) _ s24 hn1 (by omega) (by omega) hw24 C24 (fun z => by omega) (fun z => by omega)) (jq_Fs q w) (fun s8 f8 C8 => ?_)
          refine jE.bd (jx4c_sign hq C8.1 hM.1 (by decide)) (jq_F3 q w) (fun s10 f10 z10 => ?_)
          have C10 := C8.of z10 f10 ⟨rfl, rfl⟩
          have hw10 := hM.1.xs (c := 44) (by decide)
          have hM2 := ML 3 0 (o + 1) _ hn1 (by omega) (by omega) hw10 (fun z => by omega) (fun z => by omega)
          refine jE.bd (ih 3 0 (o + 1) _ s10 hn1 (by omega) (by omega) hw10 C10 (fun z => by omega) (fun z => by omega)) (jq_Fs q w) (fun s12 f12 C12 => ?_)
          refine jE.bd (jx4c_sign hq C12.1 hM2.1 (by decide)) (jq_F3 q w) (fun s14 f14 z14 => ?_)
          have C14 := C12.of z14 f14 ⟨rfl, rfl⟩
          obtain ⟨g1, g2⟩ := jq_gc hq C14.1
          rw [if_pos g1, g2]
          have hw14 := hM2.1.xs (c := 41) (by decide)
          have hcU : ∃ v : Nat, v < 32 ∧ a = (v : Int) ∧ jq_U (jq_cd a) = -(v : Int) - 1 ∧ (jq_cd a = 43 → v = 16) ∧ (jq_cd a = 44 → v = 17) := by
            rcases ha7 rfl with rfl | rfl
            · exact ⟨30, by decide, rfl, by decide, by decide, by decide⟩
            · exact ⟨31, by decide, rfl, by decide, by decide, by decide⟩
          obtain ⟨v, v1, v2, v3, v4, v5⟩ := hcU
          have hlen : (jq_xs T e 41 (jq_g T e kind d 3 0 (o + 1) (jq_xs T e 44 (jq_g T e kind d 3 0 (o + 1) (jq_mv T e (st.2.1 + 1) st))))).1 = 0 → (jq_xs T e 41 (jq_g T e kind d 3 0 (o + 1) (jq_xs T e 44 (jq_g T e kind d 3 0 (o + 1) (jq_mv T e (st.2.1 + 1) st))))).2.2.length + 1 ≤ (jq_xs T e 41 (jq_g T e kind d 3 0 (o + 1) (jq_xs T e 44 (jq_g T e kind d 3 0 (o + 1) (jq_mv T e (st.2.1 + 1) st))))).2.1 ∧ (jq_xs T e 41 (jq_g T e kind d 3 0 (o + 1) (jq_xs T e 44 (jq_g T e kind d 3 0 (o + 1) (jq_mv T e (st.2.1 + 1) st))))).2.1 ≤ e := by
            have l1 := jq_lr C4.1 q0 (by omega) (hM.2.xs (T := T) (e := e) (c := 44) (by decide)) hw10
            have l2 := hM2.2.xs (T := T) (e := e) (c := 41) (by decide)
            intro z
            generalize jq_xs T e 44 (jq_g T e kind d 3 0 (o + 1) (jq_mv T e (st.2.1 + 1) st)) = m at *
            generalize jq_xs T e 41 (jq_g T e kind d 3 0 (o + 1) m) = r at *
            have m0 : m.1 = 0 := by
              apply Classical.byContradiction
              intro m0
              exact m0 ((l2.1 m0).1.symm.trans z)
            obtain ⟨c, c1, c2, -⟩ := l2.2 m0 z
            have := l1 m0
            have e1 : r.2.2.length = m.2.2.length + c.length := by rw [c1]; simp
            exact ⟨by omega, hw14.1⟩
          have pw := jx0_putWord (c := jq_cd a) hq C14.1 hlen v1 v3 v4 v5
          rw [← v2] at pw
          refine jE.bd pw (jq_F5 q w) (fun s17 f17 z17 => ?_)
          have C17 := C14.of z17 f17 (jq_in3 (Or.inr (Or.inr (Or.inr (Or.inr rfl)))) hq)
          rw [C17.2.1, jp_sub (by omega) (by omega)]
          exact jE.lm (by simp [jq_QF, jp_in]) (jE.ret (jq_clo hq h6 C17))
        · rw [if_neg ho, ← jq_at0 (e := e) q0]
          refine jE.bd (jx4c_openF hq C4.1 hs C4.2.1 ho hat4) (jq_F3 q w) (fun s36 f36 ⟨z36, o36⟩ => ?_)
          rw [if_pos rfl, jf_X4_pairPart_B72]
          exact jE.ret (C4.of z36 f36 ⟨rfl, rfl⟩)
      · rw [if_neg q40, if_neg q40, hat4]
        refine jE.bd (jx4c_fail (k := 1) hq C4.1 (by decide) (by decide) (by omega)) (jq_F3 q w) (fun s22 f22 z22 => ?_)
        exact jE.ret (C4.of z22 f22 ⟨rfl, rfl⟩)
