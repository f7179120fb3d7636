/-! PURE, the class's street reader: names -/
theorem jp_nat_bv {n : Nat} : (jl_i3 (n : Int)).toBitVec = BitVec.ofNat 32 n := by
  show BitVec.ofInt 32 (n : Int) = BitVec.ofNat 32 n
  exact BitVec.ofInt_natCast 32 n
theorem jp_toInt_bv {b : Int32} {n : Nat} (h : b.toBitVec = BitVec.ofNat 32 n) (hn : n < 2147483648) : b.toInt = (n : Int) := by
  show b.toBitVec.toInt = (n : Int)
  rw [h, BitVec.toInt_eq_toNat_of_lt] <;> rw [BitVec.toNat_ofNat] <;> omega
theorem jp_shl5 {v : Nat} (h : v < 67108864) : jl_shl (v : Int) 5 = ((32 * v : Nat) : Int) := by
  rw [jl_shl]
  refine jp_toInt_bv ?_ (by omega)
  have e := jp_sh 5 (by decide)
  rw [Int32.toBitVec_shiftLeft, show ((5 : Nat) : Int) = 5 from rfl] at *
  rw [e, jp_nat_bv]
  apply BitVec.eq_of_toNat_eq
  rw [show (BitVec.ofNat 32 v <<< BitVec.ofNat 32 5) = BitVec.ofNat 32 v <<< 5 from rfl, BitVec.toNat_shiftLeft, BitVec.toNat_ofNat, BitVec.toNat_ofNat, Nat.shiftLeft_eq]
  omega
theorem jp_or5 {v x : Nat} (h : v < 67108864) (hx : x < 32) : jl_or ((32 * v : Nat) : Int) (x : Int) = ((32 * v + x : Nat) : Int) := by
  rw [jl_or]
  refine jp_toInt_bv ?_ (by omega)
  rw [Int32.toBitVec_or, jp_nat_bv, jp_nat_bv]
  apply BitVec.eq_of_toNat_eq
  rw [BitVec.toNat_or, BitVec.toNat_ofNat, BitVec.toNat_ofNat, BitVec.toNat_ofNat, Nat.mod_eq_of_lt (by omega), Nat.mod_eq_of_lt (by omega), Nat.mod_eq_of_lt (by omega)]
  have z := Nat.shiftLeft_add_eq_or_of_lt (b := x) (i := 5) (by omega) v
  rw [Nat.shiftLeft_eq] at z
  rw [show 32 * v = v * 2 ^ 5 by omega]
  exact z.symm
/-- a name as the class keeps it -/
def jz_cf : Nat → List Int → Int → Int
  | 0, _, v => v
  | n + 1, [], v => jz_cf n [] (32 * v)
  | n + 1, c :: u, v => jz_cf n u (32 * v + (c - 96))
def jz_cn (u : List Int) : Int := jz_cf 6 u 0
def jz_vn (u : List Int) : Prop := 1 ≤ u.length ∧ u.length ≤ 6 ∧ ∀ c ∈ u, jq_lt c
theorem jz_cf_b : ∀ (n : Nat) (u : List Int) (v : Int), (∀ c ∈ u, jq_lt c) → 0 ≤ v → 0 ≤ jz_cf n u v ∧ jz_cf n u v < 32 ^ n * (v + 1) := by
  intro n
  induction n with
  | zero => intro u v _ h; rw [jz_cf]; omega
  | succ n ih =>
    intro u v hu h
    have step : ∀ (u' : List Int) (x : Int), (∀ c ∈ u', jq_lt c) → 0 ≤ x → x ≤ 31 → 0 ≤ jz_cf n u' (32 * v + x) ∧ jz_cf n u' (32 * v + x) < 32 ^ (n + 1) * (v + 1) := by
      intro u' x hu' h0 h1
      obtain ⟨a, b⟩ := ih u' (32 * v + x) hu' (by omega)
      refine ⟨a, Int.lt_of_lt_of_le b ?_⟩
      rw [Int.pow_succ, Int.mul_assoc]
      exact Int.mul_le_mul_of_nonneg_left (by omega) (Int.pow_nonneg (by decide))
    cases u with
    | nil =>
      have := step [] 0 (by simp) (by decide) (by decide)
      rw [jz_cf]; simpa using this
    | cons c u =>
      have hc := hu c List.mem_cons_self
      rw [jz_cf]
      exact step u (c - 96) (fun x hx => hu x (List.mem_cons_of_mem _ hx)) (by omega) (by omega)
theorem jz_cn_n {u : List Int} (h : jz_vn u) : jl_n3 (jz_cn u) := by
  have := jz_cf_b 6 u 0 h.2.2 (by decide)
  exact ⟨by rw [jz_cn]; omega, by rw [jz_cn]; omega⟩
theorem jz_cf_inj : ∀ (n : Nat) (u u' : List Int) (v v' : Int), u.length ≤ n → u'.length ≤ n → (∀ c ∈ u, jq_lt c) → (∀ c ∈ u', jq_lt c) → jz_cf n u v = jz_cf n u' v' → v = v' ∧ u = u' := by
  intro n
  induction n with
  | zero =>
    intro u u' v v' h1 h2 _ _ h
    rw [jz_cf, jz_cf] at h
    exact ⟨h, (List.length_eq_zero_iff.mp (show u.length = 0 by omega)).trans (List.length_eq_zero_iff.mp (show u'.length = 0 by omega)).symm⟩
  | succ n ih =>
    intro u u' v v' h1 h2 hu hu' h
    cases u with
    | nil =>
      cases u' with
      | nil =>
        rw [jz_cf, jz_cf] at h
        have := ih [] [] _ _ (by simp) (by simp) (by simp) (by simp) h
        exact ⟨by omega, rfl⟩
      | cons c u' =>
        have hc := hu' c List.mem_cons_self
        rw [jz_cf, jz_cf] at h
        have := (ih [] u' _ _ (by simp) (by simpa using h2) (by simp) (fun x hx => hu' x (List.mem_cons_of_mem _ hx)) h).1
        omega
    | cons c u =>
      have hc := hu c List.mem_cons_self
      cases u' with
      | nil =>
        rw [jz_cf, jz_cf] at h
        have := (ih u [] _ _ (by simpa using h1) (by simp) (fun x hx => hu x (List.mem_cons_of_mem _ hx)) (by simp) h).1
        omega
      | cons c' u' =>
        have hc' := hu' c' List.mem_cons_self
        rw [jz_cf, jz_cf] at h
        have := ih u u' _ _ (by simpa using h1) (by simpa using h2) (fun x hx => hu x (List.mem_cons_of_mem _ hx)) (fun x hx => hu' x (List.mem_cons_of_mem _ hx)) h
        have e : c = c' := by omega
        exact ⟨by omega, by rw [e, this.2]⟩
theorem jz_cn_inj {u u' : List Int} (h : jz_vn u) (h' : jz_vn u') : jz_cn u = jz_cn u' ↔ u = u' := by
  constructor
  · intro q
    exact (jz_cf_inj 6 u u' 0 0 h.2.1 h'.2.1 h.2.2 h'.2.2 q).2
  · rintro rfl; rfl
theorem jq_sl_cons {T : Nat → Int} {a b : Nat} (h : a < b) : jq_sl T a b = T a :: jq_sl T (a + 1) b := by
  apply (jq_sl_eq).mpr
  refine ⟨by simp [jq_sl_len]; omega, fun i hi => ?_⟩
  cases i with
  | zero => simp
  | succ i =>
    simp only [List.length_cons, jq_sl_len] at hi
    have z := jq_sl_get (T := T) (a := a + 1) (b := b) (i := i) (by omega)
    rw [List.getElem?_eq_getElem (by rw [jq_sl_len]; omega)] at z
    simp only [List.getElem_cons_succ]
    rw [Option.some.inj z]
    congr 1
    omega
theorem jq_sl_nil {T : Nat → Int} {a b : Nat} (h : b ≤ a) : jq_sl T a b = [] := by
  have : (jq_sl T a b).length = 0 := by rw [jq_sl_len]; omega
  exact List.length_eq_zero_iff.mp this
theorem jx4_nameL {T : Nat → Int} {e p w : Nat} {s : jl_Mm} (hP : jq_P T e s) (hp : jl_g s 38 4 = (p : Int)) (hw : jl_g s 38 5 = (w : Int)) (hwe : w ≤ e) (hl : ∀ j, p ≤ j → j < w → jq_lt (T j)) : ∀ (m n : Nat) (v : Nat), m ≤ 6 → m < n → v < 32 ^ (6 - m) → p ≤ e → jf_X4_takeName_L80 n (v : Int) ((p + (6 - m) : Nat) : Int) s = some (jz_cf m (jq_sl T (p + (6 - m)) w) (v : Int), jl_up s 38 4 (w : Int)) := by
  have he := hP.1
  intro m
  induction m with
  | zero =>
    intro n v _ hn hv hpe
    cases n with
    | zero => cases hn
    | succ n =>
      rw [jf_X4_takeName_L80, hp, jp_add (by omega) (by omega), if_pos (by omega), hw, jp_lm, jz_cf]
  | succ m ih =>
    intro n v hm hn hv hpe
    cases n with
    | zero => cases hn
    | succ n =>
      have hv2 : v < 67108864 := by
        have h6 : 6 - (m + 1) ≤ 5 := by omega
        have : 32 ^ (6 - (m + 1)) ≤ 32 ^ 5 := Nat.pow_le_pow_right (by decide) h6
        omega
      have hv3 : ∀ x : Nat, x < 32 → 32 * v + x < 32 ^ (6 - m) := by
        intro x hx
        rw [show 6 - m = (6 - (m + 1)) + 1 by omega, Nat.pow_succ]
        omega
      have i1 : jl_add ((p + (6 - (m + 1)) : Nat) : Int) 1 = ((p + (6 - m) : Nat) : Int) := by rw [jp_add (by omega) (by omega)]; omega
      rw [jf_X4_takeName_L80, hp, jp_add (by omega) (by omega), if_neg (by omega), hw, jp_shl5 hv2]
      simp only [jf_X4_takeName_B119, jp_let, i1]
      by_cases hq : w ≤ p + (6 - (m + 1))
      · have z := ih n (32 * v) (by omega) (by omega) (by have := hv3 0 (by decide); omega) hpe
        have o5 := jp_or5 (v := v) (x := 0) hv2 (by decide)
        rw [show ((0 : Nat) : Int) = 0 from rfl, Nat.add_zero] at o5
        rw [if_pos (by omega), o5, z, jq_sl_nil (by omega), jq_sl_nil (a := p + (6 - (m + 1))) (by omega), jz_cf]
        simp
      · have hT := hl (p + (6 - (m + 1))) (by omega) (by omega)
        obtain ⟨x, hx⟩ : ∃ x : Nat, T (p + (6 - (m + 1))) - 96 = (x : Int) := ⟨(T (p + (6 - (m + 1))) - 96).toNat, by omega⟩
        have z := ih n (32 * v + x) (by omega) (by omega) (hv3 x (by omega)) hpe
        rw [if_neg (by omega), jx10_byteAt hP, jp_bd, if_pos (by omega), Int.toNat_natCast, jp_sub (by omega) (by omega), jp_add (by omega) (by omega), show T (p + (6 - (m + 1))) - 97 + 1 = (x : Int) by omega, jp_or5 hv2 (by omega), z, jq_sl_cons (a := p + (6 - (m + 1))) (by omega), jz_cf, hx, show p + (6 - (m + 1)) + 1 = p + (6 - m) by omega]
        simp
theorem jq_sl_vn {T : Nat → Int} {e p : Nat} (h : jq_bg T e p) (h6 : jq_we T e p - p ≤ 6) : jz_vn (jq_sl T p (jq_we T e p)) := by
  have h5 := jq_we_ge (T := T) (e := e) (a := p + 1)
  rw [← jq_we_step h.1 h.2.1] at h5
  refine ⟨by rw [jq_sl_len]; omega, by rw [jq_sl_len]; exact h6, fun c hc => ?_⟩
  simp only [jq_sl, List.mem_map, List.mem_range] at hc
  obtain ⟨i, hi, rfl⟩ := hc
  exact jq_we_l (e := e) (a := p) (by omega) (by omega)
theorem jx4c_name {T : Nat → Int} {e q w f : Nat} {st : jq_S} {s : jl_Mm} (hq : jq_qw q w) (h : jq_CS T e q w f st s) (hs : jq_wf T e st) : ∃ r τ, jf_X4_takeName s = some (r, τ) ∧ jp_fr [(38, 4, 7), (38, 7, 9)] s τ ∧ jq_CS T e q w f (jz_name T e st).1 τ ∧ jl_g τ 38 6 = ((jq_at e st : Nat) : Int) ∧ ((jz_name T e st).1.1 = 0 → r = jz_cn (jz_name T e st).2 ∧ jz_vn (jz_name T e st).2) ∧ jq_wf T e (jz_name T e st).1 := by
  have he := h.1.1
  have ha := hs.at
  obtain ⟨a0, a1, a2, a3, a4, a5⟩ := jx4c_word hq h
  have hn6 : ∀ c i, jp_in [(38, 6, 7)] c i = true → c = 38 ∧ 3 ≤ i ∧ i < 7 := by
    intro c i hc; simp [jp_in] at hc; omega
  have f6 : jp_fr [(38, 6, 7)] a0 (jl_up a0 38 6 (jl_g a0 38 4)) := jp_fr.rf.up rfl
  have g4 : jl_g (jl_up a0 38 6 (jl_g a0 38 4)) 38 4 = ((jq_at e st : Nat) : Int) := by
    simp (disch := omega) only [if_pos, if_neg, jp_bd, jp_lm, jp_let, jp_zb0, jp_zb1, jp_add, jp_sub, jp_g_eq, jp_g_eqg, jp_g_ne, jp_g_nei, jp_r_ne, jp_r_nei, Int.toNat_natCast, a4]
  have g5 : jl_g (jl_up a0 38 6 (jl_g a0 38 4)) 38 5 = ((jq_pb T e st : Nat) : Int) := by
    simp (disch := omega) only [if_pos, if_neg, jp_bd, jp_lm, jp_let, jp_zb0, jp_zb1, jp_add, jp_sub, jp_g_eq, jp_g_eqg, jp_g_ne, jp_g_nei, jp_r_ne, jp_r_nei, Int.toNat_natCast, a5]
  have g6 : jl_g (jl_up a0 38 6 (jl_g a0 38 4)) 38 6 = ((jq_at e st : Nat) : Int) := by
    simp (disch := omega) only [if_pos, if_neg, jp_bd, jp_lm, jp_let, jp_zb0, jp_zb1, jp_add, jp_sub, jp_g_eq, jp_g_eqg, jp_g_ne, jp_g_nei, jp_r_ne, jp_r_nei, Int.toNat_natCast, a4]
  have hsk : jq_sk T e (jq_at e st) = jq_at e st := by
    by_cases h0 : st.1 = 0
    · rw [jq_at0 h0]; exact hs.2 h0
    · rw [jq_atk h0]; exact jq_sk_end (Nat.le_refl _)
  have b3 : jq_CS T e q w f st (jl_up a0 38 6 (jl_g a0 38 4)) := a3.fr hq f6 hn6 g4 ha hsk
  rw [jf_X4_takeName, a1, jp_bd, jp_lm]
  generalize jl_up a0 38 6 (jl_g a0 38 4) = b0 at *
  have fb : jp_fr [(38, 4, 7), (38, 7, 9)] s b0 := by
    have f1 : jp_fr [(38, 4, 7), (38, 7, 9)] s a0 := by
      intro c i hc
      refine a2 c i ?_
      simp [jp_in] at hc ⊢
      omega
    refine f1.tr ?_
    intro c i hc
    refine f6 c i ?_
    simp [jp_in] at hc ⊢
    omega
  have bad : ∀ (p k : Nat), p ≤ 2000 → (jz_name T e st) = (jq_fl 1 p st, []) → jq_wf T e (jq_fl 1 p st) → ∃ r τ, (jl_bd (jf_X4_fail 1 (p : Int) b0) fun _ s6 => some (-1, s6)) = some (r, τ) ∧ jp_fr [(38, 4, 7), (38, 7, 9)] s τ ∧ jq_CS T e q w f (jz_name T e st).1 τ ∧ jl_g τ 38 6 = ((jq_at e st : Nat) : Int) ∧ ((jz_name T e st).1.1 = 0 → r = jz_cn (jz_name T e st).2 ∧ jz_vn (jz_name T e st).2) ∧ jq_wf T e (jz_name T e st).1 := by
    intro p k hp hz hwf
    obtain ⟨c0, c1, c2, c3⟩ := jx4c_fail (k := 1) (p := p) hq b3 (by decide) (by decide) hp
    rw [show ((1 : Nat) : Int) = 1 from rfl] at c1
    rw [c1, jp_bd, hz]
    refine ⟨-1, c0, rfl, fb.tr ?_, c3, (c2.g _ _ rfl).trans g6, fun z => ?_, hwf⟩
    · intro c i hc
      refine c2 c i ?_
      simp [jp_in] at hc ⊢
      omega
    · exfalso
      by_cases h0 : st.1 = 0
      · rw [jq_fl0 h0] at z; exact absurd z (by simp)
      · rw [jq_flk h0] at z; exact h0 z
  rw [g5, g4]
  by_cases hA : jq_pb T e st = jq_at e st
  · rw [if_pos (by omega), jf_X4_takeName_B34, g4]
    exact bad _ 0 (by omega) (by rw [jz_name, if_pos (Or.inl hA)]) (hs.fl ha (by decide))
  · rw [if_neg (by omega)]
    have hbg : jq_bg T e (jq_at e st) := by
      apply Classical.byContradiction
      intro z
      exact hA (by rw [jq_pb, jq_wb, if_neg z])
    have h0 := jq_bg_k hbg
    have hpb : jq_pb T e st = jq_we T e (jq_at e st) := by rw [jq_pb, jq_wb, if_pos hbg]
    have hpe : jq_pb T e st ≤ e := by rw [hpb]; exact jq_we_ub ha
    have hge : jq_at e st ≤ jq_pb T e st := by rw [hpb]; exact jq_we_ge
    have b45 : ¬ (0 ≤ jq_pn T e st ∧ jq_pn T e st ≤ 31) → ∃ r τ, jf_X4_takeName_B45 b0 = some (r, τ) ∧ jp_fr [(38, 4, 7), (38, 7, 9)] s τ ∧ jq_CS T e q w f (jz_name T e st).1 τ ∧ jl_g τ 38 6 = ((jq_at e st : Nat) : Int) ∧ ((jz_name T e st).1.1 = 0 → r = jz_cn (jz_name T e st).2 ∧ jz_vn (jz_name T e st).2) ∧ jq_wf T e (jz_name T e st).1 := by
      intro hB
      rw [jf_X4_takeName_B45, g5, g4, jp_sub (by omega) (by omega)]
      by_cases hC : 6 < jq_pb T e st - jq_at e st
      · rw [if_neg (by omega), jp_add (by omega) (by omega), show ((jq_at e st : Nat) : Int) + 6 = ((jq_at e st + 6 : Nat) : Int) by omega]
        exact bad _ 0 (by omega) (by rw [jz_name, if_neg (fun z => z.elim hA hB), if_pos hC]) (hs.fl (by omega) (by decide))
      · have e1 : jz_name T e st = (jq_mv T e (jq_pb T e st) st, jq_sl T (jq_at e st) (jq_pb T e st)) := by
          rw [jz_name, if_neg (fun z => z.elim hA hB), if_neg hC]
        have z := jx4_nameL b3.1 g4 g5 hpe (fun j j1 j2 => jq_we_l (e := e) j1 (by rw [← hpb]; exact j2)) 6 jl_fu 0 (Nat.le_refl _) (by decide) (by decide) ha
        rw [show ((0 : Nat) : Int) = 0 from rfl, Nat.sub_self, Nat.add_zero] at z
        rw [if_pos (by omega), jp_let, z, e1]
        have f4 : jp_fr [(38, 4, 5)] b0 (jl_up b0 38 4 ((jq_pb T e st : Nat) : Int)) := jp_fr.rf.up rfl
        refine ⟨_, _, rfl, fb.tr ?_, jx4c_mv hq b3 h0 hpe (by rw [← jq_at0 (e := e) h0]; exact hge), (f4.g _ _ rfl).trans g6, fun _ => ⟨rfl, ?_⟩, hs.mv hpe⟩
        · intro c i hc
          refine f4 c i ?_
          simp [jp_in] at hc ⊢
          omega
        · simp only
          rw [hpb]
          exact jq_sl_vn hbg (by omega)
    by_cases hneg : jq_pn T e st < 0
    · rw [if_pos hneg]; exact b45 (by omega)
    · rw [if_neg hneg]
      by_cases h31 : 31 < jq_pn T e st
      · rw [if_pos h31]; exact b45 (by omega)
      · rw [if_neg h31, jf_X4_takeName_B34, g4]
        exact bad _ 0 (by omega) (by rw [jz_name, if_pos (Or.inr ⟨by omega, by omega⟩)]) (hs.fl ha (by decide))
