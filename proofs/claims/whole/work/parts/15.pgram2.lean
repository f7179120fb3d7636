/-! PURE: what a sum and a test read leave: codes of their kind, no more of them than bytes -/
def jq_nd (t o : Nat) : Nat := 5 * (6 - o) + (8 - t)
def jq_h (t o : Nat) : Nat := (19 - 3 * o) + (5 - t)
theorem jq_mv0 {T : Nat → Int} {e p : Nat} {st : jq_S} (h : st.1 = 0) : jq_mv T e p st = (0, jq_sk T e p, st.2.2) := if_pos h
theorem jq_fl0 {k p : Nat} {st : jq_S} (h : st.1 = 0) : jq_fl k p st = (k, p, st.2.2) := if_pos h
theorem jq_flk {k p : Nat} {st : jq_S} (h : st.1 ≠ 0) : jq_fl k p st = st := if_neg h
theorem jq_rl.fl {kind : Nat} {t : Bool} {h k p : Nat} {st : jq_S} (hk : k ≠ 0) : jq_rl kind t h st (jq_fl k p st) := by
  refine ⟨fun q => by rw [jq_flk q]; exact ⟨rfl, rfl⟩, fun q r => ?_⟩
  rw [jq_fl0 q] at r
  exact absurd r hk
theorem jq_rl.flr {kind : Nat} {t : Bool} {h k p : Nat} {st r : jq_S} (a : jq_rl kind t h st r) (hk : k ≠ 0) : jq_rl kind t h st (jq_fl k p r) := by
  by_cases hr : r.1 = 0
  · refine ⟨fun q => absurd ((a.1 q).1.symm.trans hr) q, fun q r2 => ?_⟩
    rw [jq_fl0 hr] at r2
    exact absurd r2 hk
  · rw [jq_flk hr]; exact a
theorem jq_rl.mvr {T : Nat → Int} {e p kind : Nat} {t : Bool} {h : Nat} {st r : jq_S} (a : jq_rl kind t h st r) (h0 : r.1 = 0) (hp : r.2.1 ≤ p) : jq_rl kind t h st (jq_mv T e p r) := by
  rw [jq_mv0 h0]
  refine ⟨fun q => absurd ((a.1 q).1.symm.trans h0) q, fun q _ => ?_⟩
  obtain ⟨c, c1, c2, c3, c4, c5⟩ := a.2 q h0
  have := jq_sk_ge (T := T) (e := e) (a := p)
  exact ⟨c, c1, Nat.le_trans c2 (Nat.le_trans hp this), Nat.lt_of_lt_of_le c3 (Nat.le_trans hp this), c4, c5⟩
theorem jq_rl.xs {T : Nat → Int} {e kind : Nat} {t : Bool} {h : Nat} {st r : jq_S} {c : Int} (a : jq_rl kind t h st r) (hc : c ≠ -1) : jq_rl kind t h st (jq_xs T e c r) := by
  rw [jq_xs]
  split
  · rename_i q
    have h0 := (jq_pc_in q hc).1
    exact a.mvr h0 (by rw [jq_at0 h0]; omega)
  · exact a.flr (by decide)
theorem jq_wf.xs {T : Nat → Int} {e : Nat} {st : jq_S} {c : Int} (h : jq_wf T e st) (hc : c ≠ -1) : jq_wf T e (jq_xs T e c st) := by
  rw [jq_xs]
  split
  · rename_i q
    have h0 := jq_pc_in q hc
    exact h.mv (by rw [jq_at0 h0.1]; omega)
  · exact h.fl h.at (by decide)
theorem jq_rl.mv {T : Nat → Int} {e p kind : Nat} {t : Bool} {h : Nat} {st r : jq_S} (h0 : st.1 = 0) (hp : st.2.1 ≤ p) (a : jq_rl kind t h (jq_mv T e p st) r) : jq_rl kind t h st r := by
  refine ⟨fun q => absurd h0 q, fun _ hr => ?_⟩
  rw [jq_mv0 h0] at a
  obtain ⟨c, c1, c2, c3, c4, c5⟩ := a.2 rfl hr
  have := jq_sk_ge (T := T) (e := e) (a := p)
  refine ⟨c, c1, ?_, ?_, c4, c5⟩
  · simp only at c2; omega
  · simp only at c3; omega
theorem jq_rl.un {T : Nat → Int} {e p kind : Nat} {t u : Bool} {h : Nat} {st r : jq_S} {c : Int} (h0 : st.1 = 0) (hp : st.2.1 < p) (a : jq_rl kind t h (jq_mv T e p st) r) (h1 : 1 ≤ h) (k : ∀ ts, jq_t1 c (t :: ts) = some (u :: ts)) (hc : jq_cq kind c) : jq_rl kind u h st (jq_em c r) := by
  refine ⟨fun q => absurd h0 q, fun _ hr => ?_⟩
  rw [jq_mv0 h0] at a
  obtain ⟨d, c1, c2, c3, c4, c5⟩ := a.2 rfl hr
  have := jq_sk_ge (T := T) (e := e) (a := p)
  refine ⟨d ++ [c], ?_, ?_, ?_, c4.un h1 k, ?_⟩
  · rw [jq_em, c1]; simp
  · simp only [List.length_append, List.length_singleton, jq_em] at c2 ⊢; omega
  · simp only [jq_em] at c3 ⊢; omega
  · intro x hx
    rcases List.mem_append.mp hx with q | q
    · exact c5 x q
    · rw [List.mem_singleton.mp q]; exact hc
theorem jq_rl.bin {T : Nat → Int} {e p kind : Nat} {t u v : Bool} {h h' H : Nat} {st0 st r : jq_S} {c : Int} (a : jq_rl kind t h st0 st) (h0 : st.1 = 0) (hp : st.2.1 < p) (b : jq_rl kind u h' (jq_mv T e p st) r) (w : h ≤ H) (w' : h' + 1 ≤ H) (k : ∀ ts, jq_t1 c (u :: t :: ts) = some (v :: ts)) (hc : jq_cq kind c) : jq_rl kind v H st0 (jq_em c r) := by
  refine ⟨fun q => absurd ((a.1 q).1.symm.trans h0) q, fun q hr => ?_⟩
  rw [jq_mv0 h0] at b
  obtain ⟨d, c1, c2, c3, c4, c5⟩ := a.2 q h0
  obtain ⟨f, f1, f2, f3, f4, f5⟩ := b.2 rfl hr
  have := jq_sk_ge (T := T) (e := e) (a := p)
  refine ⟨d ++ f ++ [c], ?_, ?_, ?_, c4.bin f4 w w' k, ?_⟩
  · simp only [jq_em] at f1 ⊢; rw [f1, c1]; simp
  · simp only [List.length_append, List.length_singleton, jq_em] at c2 f2 ⊢; omega
  · simp only [jq_em] at c3 f3 ⊢; omega
  · intro x hx
    rcases List.mem_append.mp hx with q | q
    · rcases List.mem_append.mp q with q | q
      · exact c5 x q
      · exact f5 x q
    · rw [List.mem_singleton.mp q]; exact hc
theorem jq_rl.w {kind : Nat} {t : Bool} {h h' : Nat} {st r : jq_S} (a : jq_rl kind t h st r) (w : h ≤ h') : jq_rl kind t h' st r :=
  ⟨a.1, fun q hr => by obtain ⟨c, c1, c2, c3, c4, c5⟩ := a.2 q hr; exact ⟨c, c1, c2, c3, c4.w w, c5⟩⟩
/-- a part that is one code -/
theorem jq_rl.one {T : Nat → Int} {e p kind : Nat} {t : Bool} {h : Nat} {st : jq_S} {c : Int} (h0 : st.1 = 0) (hp : st.2.1 < p) (h1 : 1 ≤ h) (k : ∀ ts, jq_t1 c ts = some (t :: ts)) (hc : jq_cq kind c) : jq_rl kind t h st (jq_em c (jq_mv T e p st)) := by
  refine ⟨fun q => absurd h0 q, fun _ _ => ⟨[c], ?_, ?_, ?_, jq_sg.one h1 k, fun x hx => by rw [List.mem_singleton.mp hx]; exact hc⟩⟩
  · rw [jq_mv0 h0]; rfl
  · have := jq_sk_ge (T := T) (e := e) (a := p)
    rw [jq_mv0 h0]; simp only [jq_em, List.length_singleton]; omega
  · have := jq_sk_ge (T := T) (e := e) (a := p)
    rw [jq_mv0 h0]; simp only [jq_em]; omega
theorem jq_orL_ok {T : Nat → Int} {e kind : Nat} {f : jq_S → jq_S} {w c : Int} {h H : Nat} (hw : w ≠ -1) (hf : ∀ st, jq_wf T e st → jq_wf T e (f st) ∧ jq_rl kind true h st (f st)) (hH : h + 1 ≤ H) (k : ∀ ts, jq_t1 c (true :: true :: ts) = some (true :: ts)) (hc : jq_cq kind c) (st0 : jq_S) : ∀ (n : Nat) (st : jq_S), jq_wf T e st → jq_rl kind true H st0 st → jq_wf T e (jq_orL T e f w c n st) ∧ jq_rl kind true H st0 (jq_orL T e f w c n st) := by
  intro n
  induction n with
  | zero => intro st h1 h2; exact ⟨h1, h2⟩
  | succ n ih =>
    intro st h1 h2
    rw [jq_orL]
    split
    · rename_i q
      obtain ⟨q0, q1, q2, q3⟩ := jq_pn_in q hw
      rw [q2]
      have hm : jq_wf T e (jq_mv T e (jq_we T e st.2.1) st) := h1.mv (jq_we_ub h1.1)
      obtain ⟨f1, f2⟩ := hf _ hm
      exact ih _ f1.em (h2.bin q0 q3 f2 (Nat.le_refl _) hH k hc)
    · exact ⟨h1, h2⟩
theorem jq_cs_ty {x : Int} (h : x = 43 ∨ x = 45 ∨ x = 42 ∨ x = 47) : (∀ ts, jq_t1 (jq_cs x) (false :: false :: ts) = some (false :: ts)) ∧ ∀ kind, jq_cq kind (jq_cs x) := by
  rcases h with rfl | rfl | rfl | rfl <;> exact ⟨fun _ => rfl, fun _ => ⟨by decide, Or.inl (by decide)⟩⟩
theorem jq_smL_ok {T : Nat → Int} {e kind : Nat} {f : jq_S → jq_S} {c1 c2 : Int} {h H : Nat} (hcc : (c1 = 43 ∧ c2 = 45) ∨ (c1 = 42 ∧ c2 = 47)) (hf : ∀ st, jq_wf T e st → jq_wf T e (f st) ∧ jq_rl kind false h st (f st)) (hH : h + 1 ≤ H) (st0 : jq_S) : ∀ (n : Nat) (st : jq_S), jq_wf T e st → jq_rl kind false H st0 st → jq_wf T e (jq_smL T e f c1 c2 n st) ∧ jq_rl kind false H st0 (jq_smL T e f c1 c2 n st) := by
  intro n
  induction n with
  | zero => intro st h1 h2; exact ⟨h1, h2⟩
  | succ n ih =>
    intro st h1 h2
    rw [jq_smL]
    split
    · rename_i q
      have h4 : jq_pc T e st = 43 ∨ jq_pc T e st = 45 ∨ jq_pc T e st = 42 ∨ jq_pc T e st = 47 := by omega
      obtain ⟨q0, q1, q2⟩ := jq_pc_in (T := T) (e := e) (st := st) rfl (by omega)
      rw [jq_at0 q0]
      have hm : jq_wf T e (jq_mv T e (st.2.1 + 1) st) := h1.mv (by omega)
      obtain ⟨f1, f2⟩ := hf _ hm
      obtain ⟨t1, t2⟩ := jq_cs_ty h4
      exact ih _ f1.em (h2.bin q0 (by omega) f2 (Nat.le_refl _) hH t1 (t2 kind))
    · exact ⟨h1, h2⟩
/-- the numbers of digits -/
theorem jq_ne_all {T : Nat → Int} {e : Nat} : ∀ (k a : Nat), a ≤ e → a ≤ jq_ne T e k a ∧ jq_ne T e k a ≤ e ∧ jq_ne T e k a ≤ a + k ∧ ∀ j, a ≤ j → j < jq_ne T e k a → jq_dg (T j) := by
  intro k
  induction k with
  | zero => intro a h; exact ⟨Nat.le_refl _, h, Nat.le_refl _, fun j h1 h2 => absurd (Nat.lt_of_le_of_lt h1 h2) (Nat.lt_irrefl _)⟩
  | succ k ih =>
    intro a h
    rw [jq_ne]
    split
    · rename_i q
      obtain ⟨i1, i2, i3, i4⟩ := ih (a + 1) (by omega)
      refine ⟨by omega, i2, by omega, fun j h1 h2 => ?_⟩
      by_cases hj : j = a
      · rw [hj]; exact q.2
      · exact i4 j (by omega) h2
    · exact ⟨Nat.le_refl _, h, by omega, fun j h1 h2 => absurd (Nat.lt_of_le_of_lt h1 h2) (Nat.lt_irrefl _)⟩
theorem jq_nv_b {T : Nat → Int} : ∀ (n a : Nat) (v : Int), 0 ≤ v → (∀ j, a ≤ j → j < a + n → jq_dg (T j)) → 0 ≤ jq_nv T n a v ∧ jq_nv T n a v < 10 ^ n * (v + 1) := by
  intro n
  induction n with
  | zero => intro a v h _; exact ⟨h, by rw [jq_nv]; omega⟩
  | succ n ih =>
    intro a v h hd
    have q := hd a (Nat.le_refl _) (by omega)
    obtain ⟨i1, i2⟩ := ih (a + 1) (10 * v + T a - 48) (by omega) (fun j h1 h2 => hd j (by omega) (by omega))
    refine ⟨i1, Int.lt_of_lt_of_le i2 ?_⟩
    rw [Int.pow_succ, Int.mul_assoc]
    exact Int.mul_le_mul_of_nonneg_left (by omega) (Int.pow_nonneg (by decide))
theorem jq_nm_ok {T : Nat → Int} {e a : Nat} {lo hi : Int} (ha : a ≤ e) : (jq_nm T e lo hi a).2.1 ≤ e ∧ ((jq_nm T e lo hi a).1 = 0 → a < (jq_nm T e lo hi a).2.1 ∧ lo ≤ (jq_nm T e lo hi a).2.2 ∧ (jq_nm T e lo hi a).2.2 ≤ hi) := by
  have hn := jq_ne_all (T := T) (e := e) 4 a ha
  rw [jq_nm]
  split
  · exact ⟨ha, fun q => by simp at q⟩
  · rename_i h1
    have h2 : a < e ∧ jq_dg (T a) := Classical.byContradiction (fun q => h1 (Or.inl q))
    have h3 : a < jq_ne T e 4 a := by
      rw [jq_ne, if_pos h2]
      exact Nat.lt_of_lt_of_le (Nat.lt_succ_self a) (jq_ne_all (T := T) (e := e) 3 (a + 1) h2.1).1
    split
    · exact ⟨hn.2.1, fun q => by simp at q⟩
    · split
      · exact ⟨ha, fun q => by simp at q⟩
      · rename_i h4 h5
        refine ⟨hn.2.1, fun _ => ⟨h3, ?_, ?_⟩⟩ <;> simp only <;> omega
theorem jq_numP_ok {T : Nat → Int} {e kind : Nat} {h : Nat} {st : jq_S} (h0 : st.1 = 0) (hs : jq_wf T e st) (h1 : 1 ≤ h) : jq_wf T e (jq_numP T e st) ∧ jq_rl kind false h st (jq_numP T e st) := by
  have q := jq_nm_ok (T := T) (lo := 0) (hi := 9999) hs.at
  rw [jq_numP]
  split
  · rename_i z
    obtain ⟨q1, q2, q3⟩ := q.2 z
    have q1 := Nat.lt_of_le_of_lt (Nat.le_of_eq (jq_at0 (e := e) h0).symm) q1
    refine ⟨(hs.mv q.1).em, jq_rl.one h0 q1 h1 (fun ts => ?_) ⟨by omega, Or.inr (Or.inl (by omega))⟩⟩
    unfold jq_t1
    rw [if_pos (by omega), if_pos (by omega)]
  · rename_i z
    exact ⟨hs.fl q.1 z, jq_rl.fl z⟩
theorem jq_cd_part {w : Int} (h0 : ¬ (w = 30 ∨ w = 31)) {kind : Nat} (ha : jq_al kind w = true) : jq_cq kind (jq_cd w) ∧ ((w = 24 ∨ w = 25) → ∀ ts, jq_t1 (jq_cd w) (false :: ts) = some (false :: ts)) ∧ (¬ (w = 24 ∨ w = 25) → ∀ ts, jq_t1 (jq_cd w) ts = some (false :: ts)) := by
  have hw : w = 19 ∨ w = 15 ∨ w = 16 ∨ w = 17 ∨ w = 18 ∨ w = 3 ∨ w = 20 ∨ w = 21 ∨ w = 22 ∨ w = 23 ∨ w = 24 ∨ w = 25 := by
    have z : [19, 15, 16, 17, 18, 3, 20, 21, 22, 23, 24, 25].contains w = true := by
      unfold jq_al at ha
      split at ha <;> simp at ha ⊢ <;> omega
    simpa using z
  refine ⟨⟨?_, Or.inr (Or.inr ⟨w, ha, rfl⟩)⟩, ?_, ?_⟩
  · rcases hw with rfl | rfl | rfl | rfl | rfl | rfl | rfl | rfl | rfl | rfl | rfl | rfl <;> decide
  · rintro (rfl | rfl) <;> intro ts <;> rfl
  · intro h
    rcases hw with rfl | rfl | rfl | rfl | rfl | rfl | rfl | rfl | rfl | rfl | rfl | rfl <;> first | (intro ts; rfl) | (exact absurd (Or.inl rfl) h) | (exact absurd (Or.inr rfl) h)
theorem jq_cq_op {kind : Nat} {c : Int} (h1 : 1 ≤ c) (h2 : c < 40) : jq_cq kind c := ⟨h1, Or.inl h2⟩
def jq_ML (T : Nat → Int) (e kind : Nat) (d : Nat) : Prop := ∀ (t : Nat) (a : Int) (o : Nat) (st : jq_S), jq_nd t o ≤ d → t ≤ 7 → o ≤ 6 → jq_wf T e st → (t = 6 → a = jq_pn T e st) → (t = 7 → a = 30 ∨ a = 31) → jq_wf T e (jq_g T e kind d t a o st) ∧ jq_rl kind (decide (t ≤ 2)) (jq_h t o) st (jq_g T e kind d t a o st)
theorem jq_ML_all {T : Nat → Int} {e kind : Nat} : ∀ d, jq_ML T e kind d := by
  intro d
  induction d with
  | zero => intro t a o st h; simp only [jq_nd] at h; intro h7; omega
  | succ d ih =>
    intro t a o st hn h7 h6 hs ha6 ha7
    have I : ∀ (t : Nat) (o : Nat), t ≤ 5 → jq_nd t o ≤ d → o ≤ 6 → ∀ st, jq_wf T e st → jq_wf T e (jq_g T e kind d t 0 o st) ∧ jq_rl kind (decide (t ≤ 2)) (jq_h t o) st (jq_g T e kind d t 0 o st) := fun t o h5 hn ho st hs => ih t 0 o st hn (by omega) ho hs (fun q => by omega) (fun q => by omega)
    have ht : t = 0 ∨ t = 1 ∨ t = 2 ∨ t = 3 ∨ t = 4 ∨ t = 5 ∨ t = 6 ∨ t = 7 := by omega
    rcases ht with rfl | rfl | rfl | rfl | rfl | rfl | rfl | rfl <;> simp only [jq_nd] at hn <;> rw [jq_g]
    · rw [if_pos rfl]
      have i := I 1 o (by omega) (by simp only [jq_nd]; omega) h6
      have i0 := i st hs
      exact jq_orL_ok (h := jq_h 1 o) (by decide) i (by simp only [jq_h]; omega) (fun _ => rfl) (jq_cq_op (by decide) (by decide)) st 1600 _ i0.1 (i0.2.w (by simp only [jq_h]; omega))
    · rw [if_neg (by decide), if_pos rfl]
      have i := I 2 o (by omega) (by simp only [jq_nd]; omega) h6
      have i0 := i st hs
      exact jq_orL_ok (h := jq_h 2 o) (by decide) i (by simp only [jq_h]; omega) (fun _ => rfl) (jq_cq_op (by decide) (by decide)) st 1600 _ i0.1 (i0.2.w (by simp only [jq_h]; omega))
    · rw [if_neg (by decide), if_neg (by decide), if_pos rfl, jq_fact]
      split
      · rename_i q
        obtain ⟨q0, q1, q2, q3⟩ := jq_pn_in q (by decide)
        split
        · rename_i ho
          rw [q2]
          have i := I 2 (o + 1) (by omega) (by simp only [jq_nd]; omega) (by omega) _ (hs.mv (jq_we_ub (T := T) hs.1))
          exact ⟨i.1.em, (jq_rl.un q0 q3 i.2 (by simp only [jq_h]; omega) (fun _ => rfl) (jq_cq_op (by decide) (by decide))).w (by simp only [jq_h]; omega)⟩
        · exact ⟨hs.fl hs.at (by decide), jq_rl.fl (by decide)⟩
      · split
        · rename_i q
          obtain ⟨q0, q1, q2, q3⟩ := jq_pn_in q (by decide)
          rw [q2]
          exact ⟨(hs.mv (jq_we_ub (T := T) hs.1)).em, jq_rl.one q0 q3 (by simp only [jq_h]; omega) (fun _ => rfl) (jq_cq_op (by decide) (by decide))⟩
        · split
          · rename_i q
            obtain ⟨q0, q1, q2⟩ := jq_pc_in q (by decide)
            split
            · rename_i ho
              rw [jq_at0 q0]
              have i := I 0 (o + 1) (by omega) (by simp only [jq_nd]; omega) (by omega) _ (hs.mv (p := st.2.1 + 1) (by omega))
              exact ⟨i.1.xs (by decide), ((jq_rl.mv q0 (by omega) i.2).w (by simp only [jq_h]; omega)).xs (by decide)⟩
            · exact ⟨hs.fl hs.at (by decide), jq_rl.fl (by decide)⟩
          · have i := I 3 o (by omega) (by simp only [jq_nd]; omega) h6
            have i0 := i st hs
            generalize hm : jq_g T e kind d 3 0 o st = m at *
            rw [jq_cmp]
            split
            · rename_i q
              obtain ⟨q0, q1, q2⟩ := jq_pc_in (T := T) (e := e) (st := m) rfl (by omega)
              rw [jq_at0 q0]
              have j := i _ (i0.1.mv (p := m.2.1 + 1) (by omega))
              refine ⟨j.1.em, i0.2.bin q0 (by omega) j.2 (by simp only [jq_h]; omega) (by simp only [jq_h]; omega) ?_ ?_⟩
              · intro ts; rcases q with q | q | q <;> rw [q] <;> rfl
              · rcases q with q | q | q <;> rw [q] <;> exact jq_cq_op (by decide) (by decide)
            · refine ⟨i0.1.fl i0.1.at (by decide), ?_⟩
              by_cases hm0 : m.1 = 0
              · refine ⟨fun q => absurd ((i0.2.1 q).1.symm.trans hm0) q, fun q r => ?_⟩
                rw [jq_fl0 hm0] at r; exact absurd r Nat.one_ne_zero
              · rw [jq_flk hm0]
                exact ⟨i0.2.1, fun q r => absurd r hm0⟩
    · rw [if_neg (by decide), if_neg (by decide), if_neg (by decide), if_pos rfl]
      have i := I 4 o (by omega) (by simp only [jq_nd]; omega) h6
      have i0 := i st hs
      exact jq_smL_ok (h := jq_h 4 o) (Or.inl ⟨rfl, rfl⟩) i (by simp only [jq_h]; omega) st 1600 _ i0.1 (i0.2.w (by simp only [jq_h]; omega))
    · rw [if_neg (by decide), if_neg (by decide), if_neg (by decide), if_neg (by decide), if_pos rfl]
      have i := I 5 o (by omega) (by simp only [jq_nd]; omega) h6
      have i0 := i st hs
      exact jq_smL_ok (h := jq_h 5 o) (Or.inr ⟨rfl, rfl⟩) i (by simp only [jq_h]; omega) st 1600 _ i0.1 (i0.2.w (by simp only [jq_h]; omega))
    · rw [if_neg (by decide), if_neg (by decide), if_neg (by decide), if_neg (by decide), if_neg (by decide), if_pos rfl, jq_part]
      split
      · rename_i q
        have h0 := (jq_pc_in (T := T) (e := e) (st := st) rfl (by omega)).1
        exact jq_numP_ok h0 hs (by simp only [jq_h]; omega)
      · split
        · rename_i q
          obtain ⟨q0, q1, q2⟩ := jq_pc_in q (by decide)
          split
          · rename_i ho
            rw [jq_at0 q0]
            have i := I 3 (o + 1) (by omega) (by simp only [jq_nd]; omega) (by omega) _ (hs.mv (p := st.2.1 + 1) (by omega))
            exact ⟨i.1.xs (by decide), ((jq_rl.mv q0 (by omega) i.2).w (by simp only [jq_h]; omega)).xs (by decide)⟩
          · exact ⟨hs.fl hs.at (by decide), jq_rl.fl (by decide)⟩
        · exact ih 6 _ o st (by simp only [jq_nd]; omega) (by omega) h6 hs (fun _ => rfl) (fun q => by omega)
    · rw [if_neg (by decide), if_neg (by decide), if_neg (by decide), if_neg (by decide), if_neg (by decide), if_neg (by decide), if_pos rfl, jq_word]
      have hpn : jq_pn T e st = a := (ha6 rfl).symm
      split
      · rename_i q
        obtain ⟨q0, q1, q2, q3⟩ := jq_pn_in hpn (by omega)
        rw [q2]
        have i := ih 7 a o _ (by simp only [jq_nd]; omega) (by omega) h6 (hs.mv (jq_we_ub (T := T) hs.1)) (fun q => by omega) (fun _ => q)
        exact ⟨i.1, jq_rl.mv q0 (by omega) i.2⟩
      · rename_i h30
        split
        · exact ⟨hs.fl hs.at (by decide), jq_rl.fl (by decide)⟩
        · rename_i hal
          have hal2 : jq_al kind a = true := by
            cases hq : jq_al kind a with
            | true => rfl
            | false => exact absurd (Or.inr (Or.inr hq)) hal
          obtain ⟨q0, q1, q2, q3⟩ := jq_pn_in hpn (by intro z; exact hal (Or.inl (by omega)))
          obtain ⟨z1, z2, z3⟩ := jq_cd_part h30 hal2
          split
          · rename_i h24
            split
            · rename_i ho
              rw [q2]
              have i := I 5 (o + 1) (by omega) (by simp only [jq_nd]; omega) (by omega) _ (hs.mv (jq_we_ub (T := T) hs.1))
              exact ⟨i.1.em, (jq_rl.un q0 q3 i.2 (by simp only [jq_h]; omega) (z2 h24) z1).w (by simp only [jq_h]; omega)⟩
            · exact ⟨hs.fl hs.at (by decide), jq_rl.fl (by decide)⟩
          · rename_i h24
            rw [q2]
            exact ⟨(hs.mv (jq_we_ub (T := T) hs.1)).em, jq_rl.one q0 q3 (by simp only [jq_h]; omega) (z3 h24) z1⟩
    · rw [if_neg (by decide), if_neg (by decide), if_neg (by decide), if_neg (by decide), if_neg (by decide), if_neg (by decide), if_neg (by decide), jq_pair]
      split
      · rename_i q
        obtain ⟨q0, q1, q2⟩ := jq_pc_in q (by decide)
        split
        · rename_i ho
          rw [jq_at0 q0]
          have i := I 3 (o + 1) (by omega) (by simp only [jq_nd]; omega) (by omega)
          have i1 := i _ (hs.mv (p := st.2.1 + 1) (by omega))
          generalize jq_g T e kind d 3 0 (o + 1) (jq_mv T e (st.2.1 + 1) st) = m at *
          have z1 := (jq_rl.mv q0 (by omega) i1.2)
          have hc : jq_cq kind (jq_cd a) ∧ ∀ ts, jq_t1 (jq_cd a) (false :: false :: ts) = some (false :: ts) := by
            rcases ha7 rfl with rfl | rfl <;> exact ⟨jq_cq_op (by decide) (by decide), fun _ => rfl⟩
          by_cases hm : jq_pc T e m = 44
          · obtain ⟨m0, m1, m2⟩ := jq_pc_in hm (by decide)
            rw [show jq_xs T e 44 m = jq_mv T e (m.2.1 + 1) m by rw [jq_xs, if_pos hm, jq_at0 m0]]
            have i2 := i _ (i1.1.mv (p := m.2.1 + 1) (by omega))
            exact ⟨(i2.1.xs (by decide)).em, z1.bin m0 (by omega) (i2.2.xs (by decide)) (by simp only [jq_h]; omega) (by simp only [jq_h]; omega) hc.2 hc.1⟩
          · have e1 : jq_xs T e 44 m = jq_fl 1 (jq_at e m) m := by rw [jq_xs, if_neg hm]
            rw [e1]
            have hw1 : jq_wf T e (jq_fl 1 (jq_at e m) m) := i1.1.fl i1.1.at (by decide)
            have i2 := i _ hw1
            refine ⟨(i2.1.xs (by decide)).em, ?_⟩
            have k0 : (jq_fl 1 (jq_at e m) m).1 ≠ 0 := by
              by_cases m0 : m.1 = 0
              · rw [jq_fl0 m0]; exact Nat.one_ne_zero
              · rw [jq_flk m0]; exact m0
            have k1 := (i2.2.xs (T := T) (e := e) (c := 41) (by decide)).1 k0
            refine ⟨fun z => absurd q0 z, fun _ r => ?_⟩
            exact absurd (k1.1.symm.trans r) k0
        · exact ⟨hs.fl hs.at (by decide), jq_rl.fl (by decide)⟩
      · exact ⟨hs.fl hs.at (by decide), jq_rl.fl (by decide)⟩
