/-! PURE: what is read goes on -/
def jh_le (st st' : jq_S) : Prop := st'.1 = 0 → st.1 = 0 ∧ st.2.1 ≤ st'.2.1 ∧ st'.2.2 = st.2.2
theorem jh_le.rf {st : jq_S} : jh_le st st := fun h => ⟨h, Nat.le_refl _, rfl⟩
theorem jh_le.tr {a b c : jq_S} (h : jh_le a b) (g : jh_le b c) : jh_le a c := fun z => by
  obtain ⟨x1, x2, x3⟩ := g z
  obtain ⟨y1, y2, y3⟩ := h x1
  exact ⟨y1, Nat.le_trans y2 x2, x3.trans y3⟩
theorem jh_le.fl {k p : Nat} {st : jq_S} (hk : k ≠ 0) : jh_le st (jq_fl k p st) := fun z => absurd z (jh_fl_k hk)
theorem jh_le.mv {T : Nat → Int} {e p : Nat} {st : jq_S} (hp : jq_at e st ≤ p) : jh_le st (jq_mv T e p st) := fun z => by
  have z0 : st.1 = 0 := Classical.byContradiction (fun y => jq_mv_k y z)
  rw [jq_at0 z0] at hp
  rw [jq_mv0 z0]
  exact ⟨z0, Nat.le_trans hp jq_sk_ge, rfl⟩
theorem jh_pb_ge {T : Nat → Int} {e : Nat} {st : jq_S} : jq_at e st ≤ jq_pb T e st := by
  rw [jq_pb, jq_wb]
  split
  · exact jq_we_ge
  · exact Nat.le_refl _
theorem jh_le.name {T : Nat → Int} {e : Nat} {st : jq_S} : jh_le st (jz_name T e st).1 := by
  rw [jz_name]
  split
  · exact jh_le.fl (by decide)
  · split
    · exact jh_le.fl (by decide)
    · exact jh_le.mv jh_pb_ge
theorem jh_le.ew {T : Nat → Int} {e : Nat} {v : Int} {st : jq_S} : jh_le st (jz_ew T e v st) := by
  rw [jz_ew]
  split
  · exact jh_le.mv jh_pb_ge
  · exact jh_le.fl (by decide)
theorem jh_le.num {T : Nat → Int} {e : Nat} {lo hi : Int} {st : jq_S} (hs : jq_wf T e st) : jh_le st (jz_num T e lo hi st).1 := by
  have nm := jq_nm_ok (T := T) (lo := lo) (hi := hi) hs.at
  rw [jz_num]
  simp only
  split
  · rename_i z; exact jh_le.mv (Nat.le_of_lt (nm.2 z).1)
  · rename_i z; exact jh_le.fl z
theorem jh_le.rk {Z : jz_Z} {u : List Int} {na : Nat} {st : jq_S} : jh_le st (jz_rk Z u na st) := by
  rw [jz_rk]; split
  · exact jh_le.fl (by decide)
  · exact jh_le.rf
theorem jh_le.rn {i : Int} {na : Nat} {st : jq_S} : jh_le st (jz_rn i na st) := by
  rw [jz_rn]; split
  · exact jh_le.fl (by decide)
  · exact jh_le.rf
theorem jh_le.xs {T : Nat → Int} {e : Nat} {c : Int} {st : jq_S} : jh_le st (jq_xs T e c st) := by
  rw [jq_xs]; split
  · exact jh_le.mv (Nat.le_succ _)
  · exact jh_le.fl (by decide)
theorem jh_le.ite {c : Prop} [Decidable c] {k p : Nat} {st S : jq_S} (hk : k ≠ 0) (h : jh_le st S) : jh_le st (if c then jq_fl k p S else S) := by
  split
  · exact h.tr (jh_le.fl hk)
  · exact h
theorem jh_wf.ite {T : Nat → Int} {e : Nat} {c : Prop} [Decidable c] {k p : Nat} {S : jq_S} (hk : k ≠ 0) (hp : p ≤ e) (h : jq_wf T e S) : jq_wf T e (if c then jq_fl k p S else S) := by
  split
  · exact h.fl hp hk
  · exact h
/-- it goes on, and stands well -/
def jh_lw (T : Nat → Int) (e : Nat) (st st' : jq_S) : Prop := jh_le st st' ∧ jq_wf T e st'
theorem jh_lw.person {T : Nat → Int} {e : Nat} {Z : jz_Z} {st : jq_S} (hs : jq_wf T e st) : jh_lw T e st (jz_person T e Z st).1 := by
  have w1 := jz_name_wf hs
  have w2 := jz_rk_wf (Z := Z) (u := (jz_name T e st).2) w1 hs.at
  have w3 := jz_ew_wf (v := 2) w2 (by decide)
  have w4 := jz_num_wf (lo := 0) (hi := Z.1 1 - 1) w3
  have w5 := jz_ew_wf (v := 3) w4 (by decide)
  have w6 := jz_num_wf (lo := 0) (hi := 9) w5
  exact ⟨((((jh_le.name.tr jh_le.rk).tr jh_le.ew).tr (jh_le.num w3)).tr jh_le.ew).tr (jh_le.num w5), w6⟩
theorem jh_lw.lie {T : Nat → Int} {e : Nat} {Z : jz_Z} {st : jq_S} (hs : jq_wf T e st) : jh_lw T e st (jz_lie T e Z st).1 := by
  have w1 := jz_name_wf hs
  have w2 := jz_rk_wf (Z := Z) (u := (jz_name T e st).2) w1 hs.at
  have w3 := jz_ew_wf (v := 5) w2 (by decide)
  have w4 := jz_name_wf w3
  exact ⟨(((jh_le.name.tr jh_le.rk).tr jh_le.ew).tr jh_le.name).tr jh_le.rn, jz_rn_wf w4 w3.at⟩
theorem jh_lw.light {T : Nat → Int} {e : Nat} {Z : jz_Z} {st : jq_S} (hs : jq_wf T e st) : jh_lw T e st (jz_light T e Z st).1 := by
  have w1 := jz_name_wf hs
  have w2 := jz_rn_wf (i := jz_find Z 4 (jz_name T e st).2) w1 hs.at
  have w3 := jz_ew_wf (v := 2) w2 (by decide)
  have w4 := jz_num_wf (lo := 0) (hi := 999) w3
  have w5 := jz_ew_wf (v := 9) w4 (by decide)
  have w6 := jz_num_wf (lo := 1) (hi := 99) w5
  exact ⟨((((jh_le.name.tr jh_le.rn).tr jh_le.ew).tr (jh_le.num w3)).tr jh_le.ew).tr (jh_le.num w5), w6⟩
theorem jh_lw.hangs {T : Nat → Int} {e : Nat} {Z : jz_Z} {st : jq_S} (hs : jq_wf T e st) : jh_lw T e st (jz_hangs T e Z st).1 := by
  have w1 := jz_name_wf hs
  have w2 := jz_rn_wf (i := jz_find Z 4 (jz_name T e st).2) w1 hs.at
  rw [jz_hangs]
  simp only
  have w3 : jq_wf T e (if 0 ≤ jz_find Z 4 (jz_name T e st).2 ∧ Z.2.1 6 (jz_find Z 4 (jz_name T e st).2).toNat ≠ -1 then jq_fl 3 (jq_at e st) (jz_rn (jz_find Z 4 (jz_name T e st).2) (jq_at e st) (jz_name T e st).1) else jz_rn (jz_find Z 4 (jz_name T e st).2) (jq_at e st) (jz_name T e st).1) := jh_wf.ite (by decide) hs.at w2
  have l3 : jh_le st (if 0 ≤ jz_find Z 4 (jz_name T e st).2 ∧ Z.2.1 6 (jz_find Z 4 (jz_name T e st).2).toNat ≠ -1 then jq_fl 3 (jq_at e st) (jz_rn (jz_find Z 4 (jz_name T e st).2) (jq_at e st) (jz_name T e st).1) else jz_rn (jz_find Z 4 (jz_name T e st).2) (jq_at e st) (jz_name T e st).1) := jh_le.ite (by decide) (jh_le.name.tr jh_le.rn)
  generalize (if 0 ≤ jz_find Z 4 (jz_name T e st).2 ∧ Z.2.1 6 (jz_find Z 4 (jz_name T e st).2).toNat ≠ -1 then jq_fl 3 (jq_at e st) (jz_rn (jz_find Z 4 (jz_name T e st).2) (jq_at e st) (jz_name T e st).1) else jz_rn (jz_find Z 4 (jz_name T e st).2) (jq_at e st) (jz_name T e st).1) = S3 at *
  have w4 := jz_ew_wf (v := 7) w3 (by decide)
  have w5 := jz_name_wf w4
  have w6 := jz_rn_wf (i := jz_find Z 4 (jz_name T e (jz_ew T e 7 S3)).2) w5 w4.at
  exact ⟨jh_le.ite (by decide) (((l3.tr jh_le.ew).tr jh_le.name).tr jh_le.rn), jh_wf.ite (by decide) w4.at w6⟩
