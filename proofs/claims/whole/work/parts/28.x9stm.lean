/-! PURE, the class's street reader: what a statement does -/
/-- the class's Street H holds Z -/
def jz_R (H : Nat) (Z : jz_Z) (τ : jl_Mm) : Prop :=
  (∀ k, k < 7 → jl_g τ H k = Z.1 k) ∧
  (∀ i : Nat, (i : Int) < Z.1 2 → jl_g τ (H + 1) i = jz_cn (Z.2.2 1 i) ∧ jz_vn (Z.2.2 1 i) ∧ jl_g τ (H + 2) i = Z.2.1 2 i ∧ jl_g τ (H + 3) i = Z.2.1 3 i) ∧
  (∀ i : Nat, (i : Int) < Z.1 3 → jl_g τ (H + 4) i = jz_cn (Z.2.2 4 i) ∧ jz_vn (Z.2.2 4 i) ∧ jl_g τ (H + 5) i = Z.2.1 5 i ∧ jl_g τ (H + 6) i = Z.2.1 6 i) ∧
  (∀ i : Nat, (i : Int) < Z.1 4 → jl_g τ (H + 7) i = Z.2.1 7 i ∧ jl_g τ (H + 8) i = Z.2.1 8 i ∧ jl_g τ (H + 9) i = Z.2.1 9 i)
/-- the class's Street H, read up to st (all of Z without a fault) -/
def jz_B (T : Nat → Int) (e H w f : Nat) (st : jq_S) (Z : jz_Z) (τ : jl_Mm) : Prop :=
  jq_CS T e (H + 10) w f st τ ∧ τ 39 1 = (H : Int) ∧ jl_g τ 38 3 = 0 ∧ True ∧ (0 ≤ jl_g τ H 2 ∧ jl_g τ H 2 ≤ 6) ∧ (0 ≤ jl_g τ H 3 ∧ jl_g τ H 3 ≤ 8) ∧ (0 ≤ jl_g τ H 4 ∧ jl_g τ H 4 ≤ 16) ∧ (st.1 = 0 → jz_R H Z τ)
def jz_Hq (H : Nat) : Prop := H = 8 ∨ H = 23
theorem jz_Hq.q {H w : Nat} (h : jz_Hq H) (hw : w = 0 ∨ w = 1 ∨ w = 2) : jq_qw (H + 10) w := ⟨by rcases h with rfl | rfl <;> decide, hw⟩
theorem jz_kd {H : Nat} (h : jz_Hq H) : (jl_kd H).1 = 8 := by
  rcases h with rfl | rfl <;> decide +kernel
theorem jz_R.fr {H : Nat} {Z : jz_Z} {s τ : jl_Mm} {F : jp_F} (h : jz_R H Z s) (f : jp_fr F s τ) (w : ∀ c i, H ≤ c → c < H + 10 → jp_in F c i = false) : jz_R H Z τ := by
  obtain ⟨h1, h2, h3, h4⟩ := h
  refine ⟨fun k hk => (f.g _ _ (w _ _ (by omega) (by omega))).trans (h1 k hk), fun i hi => ?_, fun i hi => ?_, fun i hi => ?_⟩
  · obtain ⟨a, b, c, d⟩ := h2 i hi
    exact ⟨(f.g _ _ (w _ _ (by omega) (by omega))).trans a, b, (f.g _ _ (w _ _ (by omega) (by omega))).trans c, (f.g _ _ (w _ _ (by omega) (by omega))).trans d⟩
  · obtain ⟨a, b, c, d⟩ := h3 i hi
    exact ⟨(f.g _ _ (w _ _ (by omega) (by omega))).trans a, b, (f.g _ _ (w _ _ (by omega) (by omega))).trans c, (f.g _ _ (w _ _ (by omega) (by omega))).trans d⟩
  · obtain ⟨a, b, c⟩ := h4 i hi
    exact ⟨(f.g _ _ (w _ _ (by omega) (by omega))).trans a, (f.g _ _ (w _ _ (by omega) (by omega))).trans b, (f.g _ _ (w _ _ (by omega) (by omega))).trans c⟩
/-- a step of the reader leaves the street as it is -/
theorem jz_B.rd {T : Nat → Int} {e H w f : Nat} {st st' : jq_S} {Z : jz_Z} {s τ : jl_Mm} {F : jp_F} (hH : jz_Hq H) (h : jz_B T e H w f st Z s) (hC : jq_CS T e (H + 10) w f st' τ) (hk : st.1 ≠ 0 → st'.1 ≠ 0) (fr : jp_fr F s τ) (hF : ∀ c i, jp_in F c i = true → c = 38 ∧ i ≠ 3) : jz_B T e H w f st' Z τ := by
  have hn : ∀ c i, (c ≠ 38 ∨ i = 3) → jp_in F c i = false := by
    intro c i hc
    cases hz : jp_in F c i with
    | false => rfl
    | true => have := hF c i hz; omega
  have hH38 : H + 10 < 38 := by rcases hH with rfl | rfl <;> decide
  obtain ⟨-, h2, h3, h4, h5, h6, h7, h8⟩ := h
  refine ⟨hC, (fr _ _ (hn _ _ (by omega))).trans h2, (fr.g _ _ (hn _ _ (by omega))).trans h3, ?_, ?_, ?_, ?_, fun z => ?_⟩
  · trivial
  · rw [fr.g _ _ (hn _ _ (by omega))]; exact h5
  · rw [fr.g _ _ (hn _ _ (by omega))]; exact h6
  · rw [fr.g _ _ (hn _ _ (by omega))]; exact h7
  · exact (h8 (Classical.byContradiction (fun q => hk q z))).fr fr (fun c i _ _ => hn _ _ (by omega))
theorem jz_fi_b (f : Nat → List Int) (u : List Int) : ∀ (n i : Nat), jz_fi f u n i = -1 ∨ ((i : Int) ≤ jz_fi f u n i ∧ jz_fi f u n i < (i + n : Nat)) := by
  intro n
  induction n with
  | zero => intro i; exact Or.inl rfl
  | succ n ih =>
    intro i
    rw [jz_fi]
    by_cases h : f i = u
    · rw [if_pos h]; exact Or.inr (by omega)
    · rw [if_neg h]
      rcases ih (i + 1) with q | q
      · exact Or.inl q
      · exact Or.inr (by omega)
theorem jx8_nameL {c N : Nat} {H k : Nat} {v : Int} {s : jl_Mm} {L : Nat → Nat → Int → Int → jl_Mm → jl_O} (hL : ∀ n l2 s, L (n + 1) H v l2 s = if jl_g s H k ≤ l2 then some (-1, s) else if 0 ≤ l2 ∧ l2 < ((N : Nat) : Int) then (if jl_g s (H + c) l2.toNat = v then some (l2, s) else L n H v (jl_add l2 1) s) else none) (hk : 0 ≤ jl_g s H k ∧ jl_g s H k ≤ (N : Int)) (hN : N ≤ 100) : ∀ (m n i : Nat), (i : Int) + m = jl_g s H k → m < n → ∃ r, L n H v (i : Int) s = some (r, s) ∧ -1 ≤ r ∧ r < jl_g s H k ∧ ∀ (g : Nat → List Int) (u : List Int), (∀ j : Nat, (j : Int) < jl_g s H k → (jl_g s (H + c) j = v ↔ g j = u)) → r = jz_fi g u m i := by
  intro m
  induction m with
  | zero =>
    intro n i hi hn
    cases n with
    | zero => cases hn
    | succ n =>
      rw [hL, if_pos (by omega)]
      exact ⟨-1, rfl, by omega, by omega, fun _ _ _ => rfl⟩
  | succ m ih =>
    intro n i hi hn
    cases n with
    | zero => cases hn
    | succ n =>
      rw [hL, if_neg (by omega), if_pos (by omega), Int.toNat_natCast]
      by_cases q : jl_g s (H + c) i = v
      · rw [if_pos q]
        refine ⟨_, rfl, by omega, by omega, fun g u hg => ?_⟩
        rw [jz_fi, if_pos ((hg i (by omega)).mp q)]
      · have i1 : jl_add (i : Int) 1 = ((i + 1 : Nat) : Int) := by rw [jp_add (by omega) (by omega)]; omega
        rw [if_neg q, i1]
        obtain ⟨r, r1, r2, r3, r4⟩ := ih n (i + 1) (by omega) (by omega)
        refine ⟨r, r1, r2, r3, fun g u hg => ?_⟩
        rw [jz_fi, if_neg (fun z => q ((hg i (by omega)).mpr z))]
        exact r4 g u hg
theorem jx8_person {T : Nat → Int} {e H w f : Nat} {st : jq_S} {Z : jz_Z} {s : jl_Mm} {v : Int} (hH : jz_Hq H) (h : jz_B T e H w f st Z s) : ∃ r, jf_X8_personNamed H v s = some (r, s) ∧ -1 ≤ r ∧ r < jl_g s H 2 ∧ (st.1 = 0 → ∀ u, jz_vn u → v = jz_cn u → r = jz_find Z 1 u) := by
  obtain ⟨r, r1, r2, r3, r4⟩ := jx8_nameL (c := 1) (N := 6) (H := H) (k := 2) (v := v) (s := s) (L := jf_X8_personNamed_L2) (fun n l2 s => rfl) h.2.2.2.2.1 (by decide) (jl_g s H 2).toNat jl_fu 0 (by have := h.2.2.2.2.1; omega) (by have := h.2.2.2.2.1; show _ < 4000; omega)
  rw [jf_X8_personNamed, if_pos (jz_kd hH)]
  refine ⟨r, r1, r2, r3, fun h0 u hu hv => ?_⟩
  obtain ⟨k1, k2, k3, k4⟩ := h.2.2.2.2.2.2.2 h0
  have e2 := k1 2 (by decide)
  rw [r4 (Z.2.2 1) u (fun j hj => by
    rw [(k2 j (by omega)).1, hv]
    exact jz_cn_inj (k2 j (by omega)).2.1 hu), jz_find, e2]
  rfl
theorem jx8_lie {T : Nat → Int} {e H w f : Nat} {st : jq_S} {Z : jz_Z} {s : jl_Mm} {v : Int} (hH : jz_Hq H) (h : jz_B T e H w f st Z s) : ∃ r, jf_X8_lieNamed H v s = some (r, s) ∧ -1 ≤ r ∧ r < jl_g s H 3 ∧ (st.1 = 0 → ∀ u, jz_vn u → v = jz_cn u → r = jz_find Z 4 u) := by
  obtain ⟨r, r1, r2, r3, r4⟩ := jx8_nameL (c := 4) (N := 8) (H := H) (k := 3) (v := v) (s := s) (L := jf_X8_lieNamed_L2) (fun n l2 s => rfl) h.2.2.2.2.2.1 (by decide) (jl_g s H 3).toNat jl_fu 0 (by have := h.2.2.2.2.2.1; omega) (by have := h.2.2.2.2.2.1; show _ < 4000; omega)
  rw [jf_X8_lieNamed, if_pos (jz_kd hH)]
  refine ⟨r, r1, r2, r3, fun h0 u hu hv => ?_⟩
  obtain ⟨k1, k2, k3, k4⟩ := h.2.2.2.2.2.2.2 h0
  have e2 := k1 3 (by decide)
  rw [r4 (Z.2.2 4) u (fun j hj => by
    rw [(k3 j (by omega)).1, hv]
    exact jz_cn_inj (k3 j (by omega)).2.1 hu), jz_find, e2]
  rfl
def jz_F38 : jp_F := [(38, 4, 6), (38, 4, 5), (38, 4, 7), (38, 7, 9)]
theorem jz_F38i : ∀ c i, jp_in jz_F38 c i = true → c = 38 ∧ i ≠ 3 := by
  intro c i hc
  simp [jp_in, jz_F38] at hc
  omega
theorem jz_F38s {F : jp_F} (h : (F.all fun q => jz_F38.contains q) = true) : ∀ c i, jp_in F c i = true → c = 38 ∧ i ≠ 3 := by
  intro c i hc
  refine jz_F38i c i ?_
  cases hz : jp_in jz_F38 c i with
  | true => rfl
  | false => rw [jp_in_sub h hz] at hc; cases hc
theorem jq_fl_k {k p : Nat} {st : jq_S} (hk : k ≠ 0) : (jq_fl k p st).1 ≠ 0 := by
  by_cases h : st.1 = 0
  · rw [jq_fl0 h]; exact hk
  · rw [jq_flk h]; exact h
theorem jq_mv_k {T : Nat → Int} {e p : Nat} {st : jq_S} (h : st.1 ≠ 0) : (jq_mv T e p st).1 ≠ 0 := by
  rw [jq_mv, if_neg h]; exact h
theorem jq_wn_k {T : Nat → Int} {e : Nat} {st : jq_S} (h : st.1 ≠ 0) : jq_pn T e st = -1 := by
  rw [jq_pn, jq_atk h, jq_wn, if_neg]
  intro q
  exact absurd q.1 (Nat.lt_irrefl _)
theorem jx4c_ew {T : Nat → Int} {e q w f : Nat} {v : Int} {st : jq_S} {s : jl_Mm} (hq : jq_qw q w) (h : jq_CS T e q w f st s) (hs : jq_wf T e st) (hv : v ≠ -1) : jE (jf_X4_expectWord v s) 0 jz_F38 s (fun τ => jq_CS T e q w f (jz_ew T e v st) τ) := by
  have he := h.1.1
  have ha := hs.at
  rw [jf_X4_expectWord]
  refine jE.bd (jx4c_word hq h) (by decide) (fun τ fr ⟨z, hat, hpb⟩ => ?_)
  rw [jz_ew]
  by_cases q1 : jq_pn T e st = v
  · obtain ⟨q0, q2, q3, q4⟩ := jq_pn_in q1 hv
    rw [if_pos q1, if_pos q1, hpb]
    simp only [jf_X4_expectWord_B28]
    exact jE.lm rfl (jE.ret (jx4c_mv hq z q0 (by rw [q3]; exact jq_we_ub hs.1) (by omega)))
  · rw [if_neg q1, if_neg q1, hat]
    simp only [jf_X4_expectWord_B28]
    exact jE.bd (jx4c_fail (k := 1) hq z (by decide) (by decide) (by omega)) (by decide) (fun τ2 _ z2 => jE.ret z2)
theorem jz_ew_wf {T : Nat → Int} {e : Nat} {v : Int} {st : jq_S} (hs : jq_wf T e st) (hv : v ≠ -1) : jq_wf T e (jz_ew T e v st) := by
  rw [jz_ew]
  split
  · rename_i q
    obtain ⟨q0, q2, q3, q4⟩ := jq_pn_in q hv
    exact hs.mv (by rw [q3]; exact jq_we_ub hs.1)
  · exact hs.fl hs.at (by decide)
theorem jz_ew_k {T : Nat → Int} {e : Nat} {v : Int} {st : jq_S} (h : st.1 ≠ 0) : (jz_ew T e v st).1 ≠ 0 := by
  rw [jz_ew]
  split
  · exact jq_mv_k h
  · exact jq_fl_k (by decide)
theorem jz_num_wf {T : Nat → Int} {e : Nat} {lo hi : Int} {st : jq_S} (hs : jq_wf T e st) : jq_wf T e (jz_num T e lo hi st).1 := by
  have nm := jq_nm_ok (T := T) (lo := lo) (hi := hi) hs.at
  rw [jz_num]
  simp only
  split
  · exact hs.mv nm.1
  · rename_i z; exact hs.fl nm.1 z
theorem jz_num_k {T : Nat → Int} {e : Nat} {lo hi : Int} {st : jq_S} (h : st.1 ≠ 0) : (jz_num T e lo hi st).1 = st ∧ (jz_num T e lo hi st).2 = lo := by
  have e1 : jq_nm T e lo hi (jq_at e st) = (1, e, lo) := by
    rw [jq_atk h, jq_nm, if_pos]
    exact Or.inl (fun q => absurd q.1 (Nat.lt_irrefl _))
  rw [jz_num, e1]
  simp only
  rw [if_neg (by decide), jq_flk h]
  exact ⟨rfl, trivial⟩
theorem jz_name_k {T : Nat → Int} {e : Nat} {st : jq_S} (h : st.1 ≠ 0) : (jz_name T e st).1.1 ≠ 0 := by
  rw [jz_name]
  split
  · exact jq_fl_k (by decide)
  · split
    · exact jq_fl_k (by decide)
    · exact jq_mv_k h
theorem jz_rk_k {Z : jz_Z} {u : List Int} {na : Nat} {st : jq_S} (h : st.1 ≠ 0) : jz_rk Z u na st = st := by
  rw [jz_rk]
  split
  · exact jq_flk h
  · rfl
theorem jz_rn_k {i : Int} {na : Nat} {st : jq_S} (h : st.1 ≠ 0) : jz_rn i na st = st := by
  rw [jz_rn]
  split
  · exact jq_flk h
  · rfl
theorem jz_rk_wf {T : Nat → Int} {e : Nat} {Z : jz_Z} {u : List Int} {na : Nat} {st : jq_S} (hs : jq_wf T e st) (hna : na ≤ e) : jq_wf T e (jz_rk Z u na st) := by
  rw [jz_rk]
  split
  · exact hs.fl hna (by decide)
  · exact hs
theorem jz_rn_wf {T : Nat → Int} {e : Nat} {i : Int} {na : Nat} {st : jq_S} (hs : jq_wf T e st) (hna : na ≤ e) : jq_wf T e (jz_rn i na st) := by
  rw [jz_rn]
  split
  · exact hs.fl hna (by decide)
  · exact hs
theorem jz_gH {T : Nat → Int} {e H w f : Nat} {st : jq_S} {Z : jz_Z} {s : jl_Mm} (hH : jz_Hq H) (h : jz_B T e H w f st Z s) : (0 ≤ s 39 1 ∧ (jl_kd (jl_gr s 39 1)).1 = 8) ∧ jl_gr s 39 1 = H := by
  have h2 := h.2.1
  have e1 : jl_gr s 39 1 = H := by rw [jl_gr, h2]; exact Int.toNat_natCast H
  exact ⟨⟨by rw [h2]; omega, by rw [e1]; exact jz_kd hH⟩, e1⟩
/-- steps with the street beside them -/
theorem jz_bName {T : Nat → Int} {e H w f : Nat} {st : jq_S} {Z : jz_Z} {s : jl_Mm} (hH : jz_Hq H) (hw : w = 0 ∨ w = 1 ∨ w = 2) (h : jz_B T e H w f st Z s) (hs : jq_wf T e st) : ∃ r τ, jf_X4_takeName s = some (r, τ) ∧ jp_fr jz_F38 s τ ∧ jz_B T e H w f (jz_name T e st).1 Z τ ∧ jl_g τ 38 6 = ((jq_at e st : Nat) : Int) ∧ ((jz_name T e st).1.1 = 0 → r = jz_cn (jz_name T e st).2 ∧ jz_vn (jz_name T e st).2) ∧ jq_wf T e (jz_name T e st).1 := by
  obtain ⟨r, τ, a1, a2, a3, a4, a5, a6⟩ := jx4c_name (hH.q hw) h.1 hs
  exact ⟨r, τ, a1, a2.w (by decide), h.rd hH a3 jz_name_k a2 (jz_F38s (by decide)), a4, a5, a6⟩
theorem jz_bEw {T : Nat → Int} {e H w f : Nat} {v : Int} {st : jq_S} {Z : jz_Z} {s : jl_Mm} (hH : jz_Hq H) (hw : w = 0 ∨ w = 1 ∨ w = 2) (h : jz_B T e H w f st Z s) (hs : jq_wf T e st) (hv : v ≠ -1) : ∃ τ, jf_X4_expectWord v s = some (0, τ) ∧ jp_fr jz_F38 s τ ∧ jz_B T e H w f (jz_ew T e v st) Z τ := by
  obtain ⟨τ, a1, a2, a3⟩ := jx4c_ew (hH.q hw) h.1 hs hv
  exact ⟨τ, a1, a2, h.rd hH a3 jz_ew_k a2 jz_F38i⟩
theorem jz_bNum {T : Nat → Int} {e H w f : Nat} {lo hi : Int} {st : jq_S} {Z : jz_Z} {s : jl_Mm} (hH : jz_Hq H) (hw : w = 0 ∨ w = 1 ∨ w = 2) (h : jz_B T e H w f st Z s) (hs : jq_wf T e st) : ∃ τ, jf_X4_takeNumber lo hi s = some ((jz_num T e lo hi st).2, τ) ∧ jp_fr jz_F38 s τ ∧ jz_B T e H w f (jz_num T e lo hi st).1 Z τ := by
  obtain ⟨τ, a1, a2, a3⟩ := jx4c_num (lo := lo) (hi := hi) (hH.q hw) h.1 hs
  exact ⟨τ, a1, a2.w (by decide), h.rd hH a3 (fun z => by rw [(jz_num_k (T := T) (e := e) (lo := lo) (hi := hi) z).1]; exact z) a2 (jz_F38s (by decide))⟩
theorem jz_bFail {T : Nat → Int} {e H w f k na : Nat} {st : jq_S} {Z : jz_Z} {s : jl_Mm} (hH : jz_Hq H) (hw : w = 0 ∨ w = 1 ∨ w = 2) (h : jz_B T e H w f st Z s) (hk : k ≠ 0) (hk2 : k < 9) (hna : na ≤ 2000) : ∃ τ, jf_X4_fail (k : Int) (na : Int) s = some (0, τ) ∧ jp_fr jz_F38 s τ ∧ jz_B T e H w f (jq_fl k na st) Z τ ∧ jl_g τ 38 6 = jl_g s 38 6 := by
  obtain ⟨τ, a1, a2, a3⟩ := jx4c_fail (hH.q hw) h.1 hk hk2 hna
  exact ⟨τ, a1, a2.w (by decide), h.rd hH a3 (fun _ => jq_fl_k hk) a2 (jz_F38s (by decide)), a2.g _ _ rfl⟩
theorem jz_bSign {T : Nat → Int} {e H w f : Nat} {c : Int} {st : jq_S} {Z : jz_Z} {s : jl_Mm} (hH : jz_Hq H) (hw : w = 0 ∨ w = 1 ∨ w = 2) (h : jz_B T e H w f st Z s) (hs : jq_wf T e st) (hc : c ≠ -1) : ∃ τ, jf_X4_expectSign c s = some (0, τ) ∧ jp_fr jz_F38 s τ ∧ jz_B T e H w f (jq_xs T e c st) Z τ := by
  obtain ⟨τ, a1, a2, a3⟩ := jx4c_sign (hH.q hw) h.1 hs hc
  exact ⟨τ, a1, a2.w (by decide), h.rd hH a3 (fun z => by rw [jq_xs_k z hc]; exact z) a2 (jz_F38s (by decide))⟩
theorem jz_bRk {T : Nat → Int} {e H w f na : Nat} {st : jq_S} {Z : jz_Z} {s : jl_Mm} {v : Int} {u : List Int} (hH : jz_Hq H) (hw : w = 0 ∨ w = 1 ∨ w = 2) (h : jz_B T e H w f st Z s) (hv : st.1 = 0 → v = jz_cn u ∧ jz_vn u) (h6 : jl_g s 38 6 = (na : Int)) (hna : na ≤ 2000) : ∃ τ, jf_X9_refuseKnown v s = some (0, τ) ∧ jp_fr jz_F38 s τ ∧ jz_B T e H w f (jz_rk Z u na st) Z τ := by
  obtain ⟨g1, g2⟩ := jz_gH hH h
  obtain ⟨r, r1, r2, r3, r4⟩ := jx8_person (v := v) hH h
  obtain ⟨r', r1', r2', r3', r4'⟩ := jx8_lie (v := v) hH h
  obtain ⟨τ, t1, t2, t3, -⟩ := jz_bFail (k := 3) (na := na) hH hw h (by decide) (by decide) hna
  rw [show ((3 : Nat) : Int) = 3 from rfl] at t1
  rw [jf_X9_refuseKnown, if_pos g1, g2, r1, jp_bd]
  simp only [jf_X9_refuseKnown_B24, jf_X9_refuseKnown_B39]
  have f24 : ((st.1 = 0 → jz_find Z 1 u ≠ -1 ∨ jz_find Z 4 u ≠ -1)) → ∃ τ, (jl_bd (jf_X4_fail 3 (jl_g s 38 6) s) fun _ s6 => some (0, s6)) = some (0, τ) ∧ jp_fr jz_F38 s τ ∧ jz_B T e H w f (jz_rk Z u na st) Z τ := by
    intro hy
    rw [h6, t1, jp_bd]
    refine ⟨τ, rfl, t2, ?_⟩
    by_cases h0 : st.1 = 0
    · rw [jz_rk, if_pos (hy h0)]; exact t3
    · rw [jz_rk_k h0]; rw [jq_flk h0] at t3; exact t3
  by_cases q : r = -1
  · rw [if_pos q, if_pos g1, g2, r1', jp_bd]
    by_cases q' : r' = -1
    · rw [if_pos q']
      refine ⟨s, rfl, jp_fr.rf, ?_⟩
      by_cases h0 : st.1 = 0
      · obtain ⟨v1, v2⟩ := hv h0
        rw [jz_rk, if_neg]
        · exact h
        · rw [← r4 h0 u v2 v1, ← r4' h0 u v2 v1]; omega
      · rw [jz_rk_k h0]; exact h
    · rw [if_neg q']
      exact f24 (fun h0 => Or.inr (by rw [← r4' h0 u (hv h0).2 (hv h0).1]; exact q'))
  · rw [if_neg q]
    exact f24 (fun h0 => Or.inl (by rw [← r4 h0 u (hv h0).2 (hv h0).1]; exact q))
theorem jz_bRn {T : Nat → Int} {e H w f na : Nat} {st : jq_S} {Z : jz_Z} {s : jl_Mm} {r i : Int} (hH : jz_Hq H) (hw : w = 0 ∨ w = 1 ∨ w = 2) (h : jz_B T e H w f st Z s) (hv : st.1 = 0 → r = i) (h6 : jl_g s 38 6 = (na : Int)) (hna : na ≤ 2000) : ∃ τ, jf_X9_refuseNone r s = some (0, τ) ∧ jp_fr jz_F38 s τ ∧ jz_B T e H w f (jz_rn i na st) Z τ ∧ jl_g τ 38 6 = (na : Int) := by
  obtain ⟨τ, t1, t2, t3, t4⟩ := jz_bFail (k := 3) (na := na) hH hw h (by decide) (by decide) hna
  rw [show ((3 : Nat) : Int) = 3 from rfl] at t1
  rw [jf_X9_refuseNone]
  simp only [jf_X9_refuseNone_B20]
  by_cases q : r = -1
  · rw [if_pos q, h6, t1, jp_bd]
    refine ⟨τ, rfl, t2, ?_, t4.trans h6⟩
    by_cases h0 : st.1 = 0
    · rw [jz_rn, if_pos ((hv h0).symm.trans q)]; exact t3
    · rw [jz_rn_k h0]; rw [jq_flk h0] at t3; exact t3
  · rw [if_neg q]
    refine ⟨s, rfl, jp_fr.rf, ?_, h6⟩
    by_cases h0 : st.1 = 0
    · rw [jz_rn, if_neg (fun z => q ((hv h0).trans z))]; exact h
    · rw [jz_rn_k h0]; exact h
