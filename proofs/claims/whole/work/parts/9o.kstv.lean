/-! PURE: a street that is read can be -/
theorem kf_num {T : Nat → Int} {e : Nat} {lo hi : Int} {st : jq_S} (hs : jq_wf T e st) (h : (jz_num T e lo hi st).1.1 = 0) : st.1 = 0 ∧ lo ≤ (jz_num T e lo hi st).2 ∧ (jz_num T e lo hi st).2 ≤ hi := by
  have nm := jq_nm_ok (T := T) (lo := lo) (hi := hi) hs.at
  have h0 := (jh_le.num hs h).1
  rw [jz_num] at h ⊢
  simp only at h ⊢
  by_cases z : (jq_nm T e lo hi (jq_at e st)).1 = 0
  · exact ⟨h0, (nm.2 z).2⟩
  · rw [if_neg z] at h; exact absurd h (jh_fl_k z)
theorem kf_rn {i : Int} {na : Nat} {st : jq_S} (h : (jz_rn i na st).1 = 0) : i ≠ -1 := by
  rw [jz_rn] at h
  by_cases z : i = -1
  · rw [if_pos z] at h; exact absurd h (jh_fl_k (by decide))
  · exact z
theorem kf_fi {f : Nat → List Int} {u : List Int} : ∀ n i, jz_fi f u n i = -1 ∨ ((i : Int) ≤ jz_fi f u n i ∧ jz_fi f u n i < ((i + n : Nat) : Int))
  | 0, _ => Or.inl rfl
  | n + 1, i => by
    rw [jz_fi]
    split
    · right; omega
    · rcases kf_fi (f := f) (u := u) n (i + 1) with h | h
      · exact Or.inl h
      · right; omega
theorem kf_find {Z : jz_Z} {k : Nat} {u : List Int} (hn : 0 ≤ Z.1 (if k = 1 then 2 else 3)) (h : jz_find Z k u ≠ -1) : 0 ≤ jz_find Z k u ∧ jz_find Z k u < Z.1 (if k = 1 then 2 else 3) := by
  rw [jz_find] at h ⊢
  rcases kf_fi (f := Z.2.2 k) (u := u) (Z.1 (if k = 1 then 2 else 3)).toNat 0 with q | q
  · exact absurd q h
  · omega
theorem kz_se {Z : jz_Z} {k : Nat} {v : Int} : (jz_s Z k v).1 k = v := by
  show (if k = k then v else Z.1 k) = v
  exact if_pos rfl
theorem kz_V.sN {Z : jz_Z} {k : Nat} {v : Int} (h : kz_V Z) (hk : k = 0 ∨ 7 ≤ k) : kz_V (jz_s Z k v) := by
  have e : ∀ j, j ≠ k → (jz_s Z k v).1 j = Z.1 j := fun j hj => if_neg hj
  have e2 : (jz_s Z k v).2 = Z.2 := rfl
  rw [kz_V, e 1 (by omega), e 2 (by omega), e 3 (by omega), e 4 (by omega), e 5 (by omega), e 6 (by omega), e2]
  exact h
theorem kz_V.s5 {Z : jz_Z} {v : Int} (h : kz_V Z) (hv : 0 ≤ v ∧ v ≤ 999) : kz_V (jz_s Z 5 v) := by
  have e : ∀ j, j ≠ 5 → (jz_s Z 5 v).1 j = Z.1 j := fun j hj => if_neg hj
  have e5 : (jz_s Z 5 v).1 5 = v := kz_se
  have e2 : (jz_s Z 5 v).2 = Z.2 := rfl
  obtain ⟨h1, h2, h3, h4, -, h6⟩ := h
  rw [kz_V, e 1 (by omega), e 2 (by omega), e 3 (by omega), e 4 (by omega), e5, e 6 (by omega), e2]
  exact ⟨h1, h2, h3, h4, hv, h6⟩
theorem kz_V.s6 {Z : jz_Z} {v : Int} (h : kz_V Z) (hv : 0 ≤ v ∧ v ≤ 100) : kz_V (jz_s Z 6 v) := by
  have e : ∀ j, j ≠ 6 → (jz_s Z 6 v).1 j = Z.1 j := fun j hj => if_neg hj
  have e6 : (jz_s Z 6 v).1 6 = v := kz_se
  have e2 : (jz_s Z 6 v).2 = Z.2 := rfl
  obtain ⟨h1, h2, h3, h4, h5, -, h7⟩ := h
  rw [kz_V, e 1 (by omega), e 2 (by omega), e 3 (by omega), e 4 (by omega), e 5 (by omega), e6, e2]
  exact ⟨h1, h2, h3, h4, h5, hv, h7⟩
theorem kz_V.s1 {Z : jz_Z} {v : Int} (h : kz_V Z) (hv : 0 ≤ v ∧ v ≤ 30) (h0 : Z.1 2 = 0) : kz_V (jz_s Z 1 v) := by
  have e : ∀ j, j ≠ 1 → (jz_s Z 1 v).1 j = Z.1 j := fun j hj => if_neg hj
  have e1 : (jz_s Z 1 v).1 1 = v := kz_se
  have e2 : (jz_s Z 1 v).2 = Z.2 := rfl
  obtain ⟨-, h2, h3, h4, h5, h6, h7, h8⟩ := h
  rw [kz_V, e1, e 2 (by omega), e 3 (by omega), e 4 (by omega), e 5 (by omega), e 6 (by omega), e2]
  exact ⟨hv, h2, h3, h4, h5, h6, fun i hi => by omega, h8⟩
theorem kz_V.person {Z : jz_Z} {u : List Int} {a b : Int} (h : kz_V Z) (h6 : Z.1 2 < 6) (ha : 0 ≤ a ∧ a < Z.1 1) (hb : 0 ≤ b ∧ b ≤ 9) : kz_V (jz_s (jz_a (jz_a (jz_n Z 1 (Z.1 2) u) 2 (Z.1 2) a) 3 (Z.1 2) b) 2 (Z.1 2 + 1)) := by
  generalize hY : jz_s (jz_a (jz_a (jz_n Z 1 (Z.1 2) u) 2 (Z.1 2) a) 3 (Z.1 2) b) 2 (Z.1 2 + 1) = Y
  have e : ∀ j, j ≠ 2 → Y.1 j = Z.1 j := fun j hj => by rw [← hY]; exact if_neg hj
  have e2 : Y.1 2 = Z.1 2 + 1 := by rw [← hY]; exact kz_se
  have r : ∀ j m, Y.2.1 j m = if j = 3 ∧ (m : Int) = Z.1 2 then b else if j = 2 ∧ (m : Int) = Z.1 2 then a else Z.2.1 j m := fun j m => by rw [← hY]; rfl
  clear hY
  obtain ⟨h1, h2, h3, h4, h5, h7, h8, h9, h10⟩ := h
  rw [kz_V, e 1 (by omega), e2, e 3 (by omega), e 4 (by omega), e 5 (by omega), e 6 (by omega)]
  refine ⟨h1, by omega, h3, h4, h5, h7, fun i hi => ?_, fun i hi => ?_, fun i hi => ?_⟩
  · rw [r, r, if_neg (by omega)]
    by_cases c : (i : Int) = Z.1 2
    · rw [if_pos ⟨rfl, c⟩, if_pos ⟨rfl, c⟩]; exact ⟨ha, hb⟩
    · rw [if_neg (by omega), if_neg (by omega), if_neg (by omega)]; exact h8 i (by omega)
  · rw [r, r, if_neg (by omega), if_neg (by omega), if_neg (by omega), if_neg (by omega)]
    have := h9 i hi
    omega
  · rw [r, r, r, if_neg (by omega), if_neg (by omega), if_neg (by omega), if_neg (by omega), if_neg (by omega), if_neg (by omega)]
    exact h10 i hi
theorem kz_V.lie {Z : jz_Z} {u : List Int} {o : Int} (h : kz_V Z) (h6 : Z.1 3 < 8) (ho : 0 ≤ o ∧ o < Z.1 2) : kz_V (jz_s (jz_a (jz_a (jz_n Z 4 (Z.1 3) u) 5 (Z.1 3) o) 6 (Z.1 3) (-1)) 3 (Z.1 3 + 1)) := by
  generalize hY : jz_s (jz_a (jz_a (jz_n Z 4 (Z.1 3) u) 5 (Z.1 3) o) 6 (Z.1 3) (-1)) 3 (Z.1 3 + 1) = Y
  have e : ∀ j, j ≠ 3 → Y.1 j = Z.1 j := fun j hj => by rw [← hY]; exact if_neg hj
  have e2 : Y.1 3 = Z.1 3 + 1 := by rw [← hY]; exact kz_se
  have r : ∀ j m, Y.2.1 j m = if j = 6 ∧ (m : Int) = Z.1 3 then -1 else if j = 5 ∧ (m : Int) = Z.1 3 then o else Z.2.1 j m := fun j m => by rw [← hY]; rfl
  clear hY
  obtain ⟨h1, h2, h3, h4, h5, h7, h8, h9, h10⟩ := h
  rw [kz_V, e 1 (by omega), e 2 (by omega), e2, e 4 (by omega), e 5 (by omega), e 6 (by omega)]
  refine ⟨h1, h2, by omega, h4, h5, h7, fun i hi => ?_, fun i hi => ?_, fun i hi => ?_⟩
  · rw [r, r, if_neg (by omega), if_neg (by omega), if_neg (by omega), if_neg (by omega)]; exact h8 i hi
  · rw [r, r, if_neg (by omega)]
    by_cases c : (i : Int) = Z.1 3
    · rw [if_pos ⟨rfl, c⟩, if_pos ⟨rfl, c⟩]; exact ⟨ho, by omega⟩
    · rw [if_neg (by omega), if_neg (by omega), if_neg (by omega)]; exact h9 i (by omega)
  · rw [r, r, r, if_neg (by omega), if_neg (by omega), if_neg (by omega), if_neg (by omega), if_neg (by omega), if_neg (by omega)]
    have := h10 i hi
    omega
theorem kz_V.hangs {Z : jz_Z} {i b : Int} (h : kz_V Z) (hb : 0 ≤ b ∧ b < i) : kz_V (jz_a Z 6 i b) := by
  have r : ∀ j m, (jz_a Z 6 i b).2.1 j m = if j = 6 ∧ (m : Int) = i then b else Z.2.1 j m := fun _ _ => rfl
  have e : (jz_a Z 6 i b).1 = Z.1 := rfl
  obtain ⟨h1, h2, h3, h4, h5, h7, h8, h9, h10⟩ := h
  rw [kz_V, e]
  refine ⟨h1, h2, h3, h4, h5, h7, fun k hk => ?_, fun k hk => ?_, fun k hk => ?_⟩
  · rw [r, r, if_neg (by omega), if_neg (by omega)]; exact h8 k hk
  · rw [r, r, if_neg (by omega)]
    have := h9 k hk
    by_cases c : (k : Int) = i
    · rw [if_pos ⟨rfl, c⟩]; omega
    · rw [if_neg (by omega)]; exact this
  · rw [r, r, r, if_neg (by omega), if_neg (by omega), if_neg (by omega)]; exact h10 k hk
theorem kz_V.light {Z : jz_Z} {a b c : Int} (h : kz_V Z) (h6 : Z.1 4 < 16) (ha : 0 ≤ a ∧ a < Z.1 3) (hb : 0 ≤ b ∧ b ≤ 999) (hc : 1 ≤ c ∧ c ≤ 99) : kz_V (jz_s (jz_a (jz_a (jz_a Z 7 (Z.1 4) a) 8 (Z.1 4) b) 9 (Z.1 4) c) 4 (Z.1 4 + 1)) := by
  generalize hY : jz_s (jz_a (jz_a (jz_a Z 7 (Z.1 4) a) 8 (Z.1 4) b) 9 (Z.1 4) c) 4 (Z.1 4 + 1) = Y
  have e : ∀ j, j ≠ 4 → Y.1 j = Z.1 j := fun j hj => by rw [← hY]; exact if_neg hj
  have e2 : Y.1 4 = Z.1 4 + 1 := by rw [← hY]; exact kz_se
  have r : ∀ j m, Y.2.1 j m = if j = 9 ∧ (m : Int) = Z.1 4 then c else if j = 8 ∧ (m : Int) = Z.1 4 then b else if j = 7 ∧ (m : Int) = Z.1 4 then a else Z.2.1 j m := fun j m => by rw [← hY]; rfl
  clear hY
  obtain ⟨h1, h2, h3, h4, h5, h7, h8, h9, h10⟩ := h
  rw [kz_V, e 1 (by omega), e 2 (by omega), e 3 (by omega), e2, e 5 (by omega), e 6 (by omega)]
  refine ⟨h1, h2, h3, by omega, h5, h7, fun i hi => ?_, fun i hi => ?_, fun i hi => ?_⟩
  · rw [r, r, if_neg (by omega), if_neg (by omega), if_neg (by omega), if_neg (by omega), if_neg (by omega), if_neg (by omega)]; exact h8 i hi
  · rw [r, r, if_neg (by omega), if_neg (by omega), if_neg (by omega), if_neg (by omega), if_neg (by omega), if_neg (by omega)]; exact h9 i hi
  · rw [r, r, r]
    by_cases q : (i : Int) = Z.1 4
    · rw [if_neg (by omega), if_neg (by omega), if_pos ⟨rfl, q⟩, if_neg (by omega), if_pos ⟨rfl, q⟩, if_pos ⟨rfl, q⟩]; exact ⟨ha, hb, hc⟩
    · rw [if_neg (by omega), if_neg (by omega), if_neg (by omega), if_neg (by omega), if_neg (by omega), if_neg (by omega), if_neg (by omega), if_neg (by omega), if_neg (by omega)]; exact h10 i (by omega)
/-- of the first k statements -/
def kz_J (k : Nat) (L : List Int) (Z : jz_Z) : Prop :=
  kz_V Z ∧ (k = 0 → Z.1 2 = 0) ∧ (0 < k → 2 ≤ Z.1 1) ∧
  ∀ w, w < 3 → (0 ≤ Z.1 (10 + w) ∧ 0 ≤ Z.1 (20 + w) ∧ Z.1 (20 + w) ≤ (L.length : Int)) ∧ (Z.1 (10 + w) < Z.1 (20 + w) → kv_T w (decide (w = 2)) ((L.take (Z.1 (20 + w)).toNat).drop (Z.1 (10 + w)).toNat))
theorem kz_J.keep {k : Nat} {L : List Int} {Z Z' : jz_Z} (h : kz_J k L Z) (hV : kz_V Z') (e : ∀ j, 10 ≤ j → Z'.1 j = Z.1 j) (h1 : 2 ≤ Z'.1 1) : kz_J (k + 1) L Z' := by
  refine ⟨hV, fun z => by omega, fun _ => h1, fun w hw => ?_⟩
  rw [e _ (by omega), e _ (by omega)]
  exact h.2.2.2 w hw
theorem kz_J.codes {T : Nat → Int} {e k w : Nat} {Z : jz_Z} {st : jq_S} (hs : jq_wf T e st) (hJ : kz_J k st.2.2 Z) (hk : 0 < k) (hw : w < 3) (hr : (jz_codes T e w Z st).1.1 = 0) : kz_J (k + 1) (jz_codes T e w Z st).1.2.2 (jz_codes T e w Z st).2 ∧ jq_wf T e (jz_codes T e w Z st).1 := by
  obtain ⟨hV, -, h2, hc⟩ := hJ
  have hM := jq_ML_all (T := T) (e := e) (kind := w) 60 (if w = 2 then 0 else 3) 0 0 st (by split <;> decide) (by split <;> decide) (by decide) hs (fun z => by split at z <;> omega) (fun z => by split at z <;> omega)
  have er : (jz_codes T e w Z st).1 = jq_g T e w 60 (if w = 2 then 0 else 3) 0 0 st := rfl
  have eZ : (jz_codes T e w Z st).2 = jz_s (jz_s Z (10 + w) (st.2.2.length : Int)) (20 + w) ((jq_g T e w 60 (if w = 2 then 0 else 3) 0 0 st).2.2.length : Int) := rfl
  rw [er] at hr
  rw [er, eZ]
  have et : decide ((if w = 2 then 0 else 3) ≤ 2) = decide (w = 2) := by
    by_cases c : w = 2
    · rw [if_pos c, decide_eq_true c]; decide
    · rw [if_neg c, decide_eq_false c]; decide
  rw [et] at hM
  generalize jq_g T e w 60 (if w = 2 then 0 else 3) 0 0 st = r at *
  have h0 : st.1 = 0 := Classical.byContradiction (fun z => z ((hM.2.1 z).1 ▸ hr))
  obtain ⟨c, c1, c2, c3, c4, c5⟩ := hM.2.2 h0 hr
  have hh : jq_h (if w = 2 then 0 else 3) 0 ≤ 128 := by split <;> decide
  refine ⟨⟨(hV.sN (by omega)).sN (by omega), fun z => by omega, fun _ => ?_, fun v hv => ?_⟩, hM.1⟩
  · show 2 ≤ (if 1 = 20 + w then _ else (if 1 = 10 + w then _ else Z.1 1))
    rw [if_neg (by omega), if_neg (by omega)]; exact h2 hk
  · have e1 : (jz_s (jz_s Z (10 + w) (st.2.2.length : Int)) (20 + w) (r.2.2.length : Int)).1 (10 + v) = if v = w then (st.2.2.length : Int) else Z.1 (10 + v) := by
      show (if 10 + v = 20 + w then _ else (if 10 + v = 10 + w then _ else Z.1 (10 + v))) = _
      rw [if_neg (by omega)]
      by_cases q : v = w
      · rw [if_pos (by omega), if_pos q]
      · rw [if_neg (by omega), if_neg q]
    have e2 : (jz_s (jz_s Z (10 + w) (st.2.2.length : Int)) (20 + w) (r.2.2.length : Int)).1 (20 + v) = if v = w then (r.2.2.length : Int) else Z.1 (20 + v) := by
      show (if 20 + v = 20 + w then _ else (if 20 + v = 10 + w then _ else Z.1 (20 + v))) = _
      by_cases q : v = w
      · rw [if_pos (by omega), if_pos q]
      · rw [if_neg (by omega), if_neg (by omega), if_neg q]
    rw [e1, e2, c1]
    by_cases q : v = w
    · subst q
      rw [if_pos rfl, if_pos rfl, Int.toNat_natCast, Int.toNat_natCast, List.take_length, List.drop_left]
      refine ⟨by omega, fun _ => ⟨c4 [] (by rw [List.length_nil]; omega), c5⟩⟩
    · obtain ⟨⟨x1, x2, x3⟩, x4⟩ := hc v hv
      rw [if_neg q, if_neg q, List.take_append_of_le_length (by omega), List.length_append]
      exact ⟨⟨x1, x2, by omega⟩, x4⟩
theorem kz_one {T : Nat → Int} {e k p : Nat} {w : Int} {Z : jz_Z} {st : jq_S} (hs : jq_wf T e st) (hJ : kz_J k st.2.2 Z) (hf : ¬ jz_full Z w = true) (hk : w = 0 ↔ k = 0) (hr : (jz_one T e w p Z st).1.1 = 0) : kz_J (k + 1) (jz_one T e w p Z st).1.2.2 (jz_one T e w p Z st).2 ∧ jq_wf T e (jz_one T e w p Z st).1 := by
  have hV := hJ.1
  rw [jz_full] at hf
  rw [jz_one] at hr ⊢
  by_cases c0 : w = 0
  · rw [if_pos c0] at hr ⊢
    have kf := kf_num hs hr
    have e1 : (jz_s Z 1 (jz_num T e 2 30 st).2).1 1 = (jz_num T e 2 30 st).2 := kz_se
    rw [show ((jz_num T e 2 30 st).1, jz_s Z 1 (jz_num T e 2 30 st).2).1 = (jz_num T e 2 30 st).1 from rfl] at hr ⊢
    rw [(jh_le.num hs hr).2.2]
    exact ⟨hJ.keep (hV.s1 ⟨by omega, kf.2.2⟩ (hJ.2.1 (hk.mp c0))) (fun j hj => if_neg (by omega)) (by rw [e1]; exact kf.2.1), jz_num_wf hs⟩
  have hk0 : 0 < k := by omega
  have h2 := hJ.2.2.1 hk0
  rw [if_neg c0] at hr ⊢
  by_cases c1 : w = 1
  · rw [if_pos c1] at hr hf ⊢
    have h6 : Z.1 2 < 6 := by
      have := of_decide_eq_false (Bool.eq_false_iff.mpr hf)
      omega
    have lw := jh_lw.person (Z := Z) hs
    rw [(lw.1 hr).2.2]
    have w1 := jz_name_wf hs
    have w2 := jz_rk_wf (Z := Z) (u := (jz_name T e st).2) w1 hs.at
    have w3 := jz_ew_wf (v := 2) w2 (by decide)
    have w4 := jz_num_wf (lo := 0) (hi := Z.1 1 - 1) w3
    have w5 := jz_ew_wf (v := 3) w4 (by decide)
    rw [jz_person] at hr
    simp only at hr
    have k6 := kf_num w5 hr
    have k5 := jh_le.ew k6.1
    have k4 := kf_num w3 k5.1
    refine ⟨hJ.keep ?_ (fun j hj => if_neg (by omega)) ?_, lw.2⟩
    · rw [jz_person]; exact hV.person h6 ⟨k4.2.1, by omega⟩ k6.2
    · show 2 ≤ Z.1 1; exact h2
  rw [if_neg c1] at hr hf ⊢
  by_cases c4 : w = 4
  · rw [if_pos c4] at hr hf ⊢
    have h8 : Z.1 3 < 8 := by
      have := of_decide_eq_false (Bool.eq_false_iff.mpr hf)
      omega
    have lw := jh_lw.lie (Z := Z) hs
    rw [(lw.1 hr).2.2]
    rw [jz_lie] at hr
    simp only at hr
    have kn := kf_rn hr
    have kr := kf_find (Z := Z) (k := 1) (by exact hV.2.1.1) kn
    refine ⟨hJ.keep ?_ (fun j hj => if_neg (by omega)) ?_, lw.2⟩
    · rw [jz_lie]; exact hV.lie h8 kr
    · show 2 ≤ Z.1 1; exact h2
  rw [if_neg c4] at hr hf ⊢
  by_cases c6 : w = 6
  · rw [if_pos c6] at hr ⊢
    have lw := jh_lw.hangs (Z := Z) hs
    rw [(lw.1 hr).2.2]
    rw [jz_hangs] at hr
    simp only at hr
    have hi : ¬ jz_find Z 4 (jz_name T e st).2 ≤ jz_find Z 4 (jz_name T e (jz_ew T e 7 (if 0 ≤ jz_find Z 4 (jz_name T e st).2 ∧ Z.2.1 6 (jz_find Z 4 (jz_name T e st).2).toNat ≠ -1 then jq_fl 3 (jq_at e st) (jz_rn (jz_find Z 4 (jz_name T e st).2) (jq_at e st) (jz_name T e st).1) else jz_rn (jz_find Z 4 (jz_name T e st).2) (jq_at e st) (jz_name T e st).1))).2 := by
      intro z
      rw [if_pos z] at hr
      exact absurd hr (jh_fl_k (by decide))
    rw [if_neg hi] at hr
    have kn := kf_rn hr
    have kr := kf_find (Z := Z) (k := 4) (by exact hV.2.2.1.1) kn
    refine ⟨hJ.keep ?_ (fun j hj => rfl) ?_, lw.2⟩
    · rw [jz_hangs]; exact hV.hangs ⟨kr.1, by omega⟩
    · show 2 ≤ Z.1 1; exact h2
  rw [if_neg c6] at hr ⊢
  by_cases c8 : w = 8
  · rw [if_pos c8] at hr hf ⊢
    have h16 : Z.1 4 < 16 := by
      have := of_decide_eq_false (Bool.eq_false_iff.mpr hf)
      omega
    have lw := jh_lw.light (Z := Z) hs
    rw [(lw.1 hr).2.2]
    have w1 := jz_name_wf hs
    have w2 := jz_rn_wf (i := jz_find Z 4 (jz_name T e st).2) w1 hs.at
    have w3 := jz_ew_wf (v := 2) w2 (by decide)
    have w4 := jz_num_wf (lo := 0) (hi := 999) w3
    have w5 := jz_ew_wf (v := 9) w4 (by decide)
    rw [jz_light] at hr
    simp only at hr
    have k6 := kf_num w5 hr
    have k5 := jh_le.ew k6.1
    have k4 := kf_num w3 k5.1
    have k3 := jh_le.ew k4.1
    have kn := kf_rn k3.1
    have kr := kf_find (Z := Z) (k := 4) (by exact hV.2.2.1.1) kn
    refine ⟨hJ.keep ?_ (fun j hj => if_neg (by omega)) ?_, lw.2⟩
    · rw [jz_light]; exact hV.light h16 kr k4.2 k6.2
    · show 2 ≤ Z.1 1; exact h2
  rw [if_neg c8] at hr ⊢
  by_cases c10 : w = 10
  · rw [if_pos c10] at hr ⊢
    have kf := kf_num hs hr
    rw [show ((jz_num T e 0 999 st).1, jz_s Z 5 (jz_num T e 0 999 st).2).1 = (jz_num T e 0 999 st).1 from rfl] at hr ⊢
    rw [(jh_le.num hs hr).2.2]
    exact ⟨hJ.keep (hV.s5 kf.2) (fun j hj => if_neg (by omega)) (by show 2 ≤ Z.1 1; exact h2), jz_num_wf hs⟩
  rw [if_neg c10] at hr ⊢
  by_cases c11 : w = 11
  · rw [if_pos c11] at hr ⊢; exact hJ.codes hs hk0 (by decide) hr
  rw [if_neg c11] at hr ⊢
  by_cases c12 : w = 12
  · rw [if_pos c12] at hr ⊢; exact hJ.codes hs hk0 (by decide) hr
  rw [if_neg c12] at hr ⊢
  by_cases c13 : w = 13
  · rw [if_pos c13] at hr ⊢; exact hJ.codes hs hk0 (by decide) hr
  rw [if_neg c13] at hr ⊢
  by_cases c14 : w = 14
  · rw [if_pos c14] at hr ⊢
    have kf := kf_num hs hr
    rw [show ((jz_num T e 0 100 st).1, jz_s Z 6 (jz_num T e 0 100 st).2).1 = (jz_num T e 0 100 st).1 from rfl] at hr ⊢
    rw [(jh_le.num hs hr).2.2]
    exact ⟨hJ.keep (hV.s6 kf.2) (fun j hj => if_neg (by omega)) (by show 2 ≤ Z.1 1; exact h2), jz_num_wf hs⟩
  rw [if_neg c14] at hr
  exact absurd hr (jh_fl_k (by decide))
theorem kz_stm {T : Nat → Int} {e k : Nat} {Z : jz_Z} {st : jq_S} (hs : jq_wf T e st) (hJ : kz_J k st.2.2 Z) (hr : (jz_stm T e k Z st).1.1 = 0) : kz_J (k + 1) (jz_stm T e k Z st).1.2.2 (jz_stm T e k Z st).2 ∧ jq_wf T e (jz_stm T e k Z st).1 := by
  rw [jz_stm] at hr ⊢
  by_cases c1 : 60 ≤ k ∨ jz_full Z (jq_pn T e st) = true
  · rw [if_pos c1] at hr; exact absurd hr (jh_fl_k (by decide))
  rw [if_neg c1] at hr ⊢
  by_cases c2 : (jq_pn T e st = 0) ↔ (k = 0)
  · rw [if_pos c2] at hr ⊢
    have hb : jq_pb T e st ≤ e := by
      rw [jq_pb, jq_wb]
      split
      · exact jq_we_ub hs.at
      · exact hs.at
    have wm := hs.mv hb
    have em : (jq_mv T e (jq_pb T e st) st).2.2 = st.2.2 := by rw [jq_mv]; split <;> rfl
    have lx := jh_le.xs hr
    obtain ⟨q1, q2⟩ := kz_one (p := jq_at e st) wm (by rw [em]; exact hJ) (fun z => c1 (Or.inr z)) c2 lx.1
    have ex : (jq_xs T e 59 (jz_one T e (jq_pn T e st) (jq_at e st) Z (jq_mv T e (jq_pb T e st) st)).1).2.2 = (jz_one T e (jq_pn T e st) (jq_at e st) Z (jq_mv T e (jq_pb T e st) st)).1.2.2 := lx.2.2
    refine ⟨?_, q2.xs (by decide)⟩
    show kz_J (k + 1) (jq_xs T e 59 (jz_one T e (jq_pn T e st) (jq_at e st) Z (jq_mv T e (jq_pb T e st) st)).1).2.2 _
    rw [ex]
    generalize jz_one T e (jq_pn T e st) (jq_at e st) Z (jq_mv T e (jq_pb T e st) st) = R at *
    refine ⟨q1.1.sN (Or.inl rfl), fun z => by omega, fun z => q1.2.2.1 z, fun w hw => ?_⟩
    have a1 : (jz_s R.2 0 (Z.1 0 + 1)).1 (10 + w) = R.2.1 (10 + w) := if_neg (by omega)
    have a2 : (jz_s R.2 0 (Z.1 0 + 1)).1 (20 + w) = R.2.1 (20 + w) := if_neg (by omega)
    rw [a1, a2]
    exact q1.2.2.2 w hw
  · rw [if_neg c2] at hr; exact absurd hr (jh_fl_k (by decide))
theorem kz_loopF {T : Nat → Int} {e : Nat} {R : jq_S × jz_Z} (h : R.1.1 ≠ 0) : ∀ n k, jz_loop T e n k R = R
  | 0, _ => rfl
  | n + 1, k => by rw [jz_loop, if_pos (by rw [jq_pc, jq_atk h]; exact jq_pk_end (Nat.le_refl _))]
theorem kz_loop {T : Nat → Int} {e : Nat} : ∀ n k (R : jq_S × jz_Z), 0 < k → jq_wf T e R.1 → kz_J k R.1.2.2 R.2 → (jz_loop T e n k R).1.1 = 0 → ∃ k', 0 < k' ∧ kz_J k' (jz_loop T e n k R).1.2.2 (jz_loop T e n k R).2
  | 0, k, R, hk, _, hJ, _ => ⟨k, hk, hJ⟩
  | n + 1, k, R, hk, hs, hJ, hr => by
    rw [jz_loop] at hr ⊢
    by_cases c : jq_pc T e R.1 = -1
    · rw [if_pos c]; exact ⟨k, hk, hJ⟩
    · rw [if_neg c] at hr ⊢
      by_cases z : (jz_stm T e k R.2 R.1).1.1 = 0
      · obtain ⟨q1, q2⟩ := kz_stm hs hJ z
        exact kz_loop n (k + 1) _ (by omega) q2 q1 hr
      · rw [kz_loopF z] at hr; exact absurd hr z
theorem kz_V0 : kz_V jz_0 := by
  have e : ∀ k, k ≠ 5 → jz_0.1 k = 0 := fun k hk => if_neg hk
  have e5 : jz_0.1 5 = 100 := rfl
  rw [kz_V, e 1 (by decide), e 2 (by decide), e 3 (by decide), e 4 (by decide), e5, e 6 (by decide)]
  exact ⟨by decide, by decide, by decide, by decide, by decide, by decide, fun i hi => by omega, fun i hi => by omega, fun i hi => by omega⟩
theorem kz_street {T : Nat → Int} {e : Nat} (h : (jz_street T e).1.1 = 0) : ∃ k, 0 < k ∧ kz_J k (jz_street T e).1.2.2 (jz_street T e).2 := by
  have hs : jq_wf T e (0, jq_sk T e 0, []) := ⟨jq_sk_ub (Nat.zero_le _), fun _ => jq_sk_idem⟩
  have J0 : kz_J 0 [] jz_0 := ⟨kz_V0, fun _ => rfl, fun z => by omega, fun w hw => by
    have a1 : jz_0.1 (10 + w) = 0 := if_neg (show ¬ 10 + w = 5 by omega)
    have a2 : jz_0.1 (20 + w) = 0 := if_neg (show ¬ 20 + w = 5 by omega)
    rw [a1, a2]
    exact ⟨⟨by decide, by decide, by decide⟩, fun z => by omega⟩⟩
  rw [jz_street, jz_first] at h ⊢
  by_cases c : jq_pc T e (0, jq_sk T e 0, []) = -1
  · have n1 : (1 : Nat) ≠ 0 := by decide
    rw [if_pos c, kz_loopF (show ((1 : Nat), jq_sk T e 0, ([] : List Int)).1 ≠ 0 from n1)] at h
    exact absurd h n1
  · rw [if_neg c] at h ⊢
    rw [jz_loop, if_neg c] at h ⊢
    by_cases z : (jz_stm T e 0 jz_0 (0, jq_sk T e 0, [])).1.1 = 0
    · obtain ⟨q1, q2⟩ := kz_stm hs J0 z
      exact kz_loop 60 1 _ (by decide) q2 q1 h
    · rw [kz_loopF z] at h; exact absurd h z
