/-! PURE, the reference's street reader: names found -/
def jh_M (s : jl_Mm) : Prop := (0 ≤ jl_g s 241 1 ∧ jl_g s 241 1 ≤ 6) ∧ (0 ≤ jl_g s 241 2 ∧ jl_g s 241 2 ≤ 8) ∧ (0 ≤ jl_g s 241 3 ∧ jl_g s 241 3 ≤ 16)
/-- the reference's draft of a street is Z -/
def jh_R (Z : jz_Z) (s : jl_Mm) : Prop :=
  (∀ k, k < 6 → jl_g s 241 k = Z.1 (k + 1)) ∧
  (∀ i : Nat, (i : Int) < Z.1 2 → jl_gl s 242 i = jh_cn (Z.2.2 1 i) ∧ jz_vn (Z.2.2 1 i) ∧ jl_g s 243 (2 * i) = Z.2.1 2 i ∧ jl_g s 243 (2 * i + 1) = Z.2.1 3 i) ∧
  (∀ i : Nat, (i : Int) < Z.1 3 → jl_gl s 242 (8 + i) = jh_cn (Z.2.2 4 i) ∧ jz_vn (Z.2.2 4 i) ∧ jl_g s 244 (2 * i) = Z.2.1 5 i ∧ jl_g s 244 (2 * i + 1) = Z.2.1 6 i) ∧
  (∀ i : Nat, (i : Int) < Z.1 4 → jl_g s 245 (3 * i) = Z.2.1 7 i ∧ jl_g s 245 (3 * i + 1) = Z.2.1 8 i ∧ jl_g s 245 (3 * i + 2) = Z.2.1 9 i)
theorem jh_M.fr {s τ : jl_Mm} {F : jp_F} (h : jh_M s) (f : jp_fr F s τ) (w : ∀ i, jp_in F 241 i = false) : jh_M τ := by
  obtain ⟨a, b, c⟩ := h
  refine ⟨?_, ?_, ?_⟩
  · rw [f.g _ _ (w _)]; exact a
  · rw [f.g _ _ (w _)]; exact b
  · rw [f.g _ _ (w _)]; exact c
theorem jh_R.fr {Z : jz_Z} {s τ : jl_Mm} {F : jp_F} (h : jh_R Z s) (f : jp_fr F s τ) (w : ∀ c i, 241 ≤ c → c < 246 → jp_in F c i = false) : jh_R Z τ := by
  obtain ⟨h1, h2, h3, h4⟩ := h
  refine ⟨fun k hk => (f.g _ _ (w _ _ (by omega) (by omega))).trans (h1 k hk), fun i hi => ?_, fun i hi => ?_, fun i hi => ?_⟩
  · obtain ⟨a, b, c, d⟩ := h2 i hi
    exact ⟨(f.gl _ _ (w _ _ (by omega) (by omega))).trans a, b, (f.g _ _ (w _ _ (by omega) (by omega))).trans c, (f.g _ _ (w _ _ (by omega) (by omega))).trans d⟩
  · obtain ⟨a, b, c, d⟩ := h3 i hi
    exact ⟨(f.gl _ _ (w _ _ (by omega) (by omega))).trans a, b, (f.g _ _ (w _ _ (by omega) (by omega))).trans c, (f.g _ _ (w _ _ (by omega) (by omega))).trans d⟩
  · obtain ⟨a, b, c⟩ := h4 i hi
    exact ⟨(f.g _ _ (w _ _ (by omega) (by omega))).trans a, (f.g _ _ (w _ _ (by omega) (by omega))).trans b, (f.g _ _ (w _ _ (by omega) (by omega))).trans c⟩
theorem jh_fail0 {s : jl_Mm} {k a : Int} (h : jl_g s 206 5 = 0) : jf_X12_fail k a s = some (0, jl_up (jl_up s 206 5 k) 206 6 a) := by
  rw [jf_X12_fail, if_pos h, jp_lm, jp_lm]
theorem jh_fail1 {s : jl_Mm} {k a : Int} (h : jl_g s 206 5 ≠ 0) : jf_X12_fail k a s = some (0, s) := by
  rw [jf_X12_fail, if_neg h]
/-- what a name says in the long cells -/
def jh_nn (s : jl_Mm) (k N : Nat) (f : Nat → List Int) : Prop := jl_g s 241 (1 + k) = (N : Int) ∧ N ≤ 8 ∧ ∀ i, i < N → jl_gl s 242 (8 * k + i) = jh_cn (f i) ∧ jz_vn (f i)
theorem jh_lcmp {u v : List Int} (hu : jz_vn u) (hv : jz_vn v) : jl_lcmp (jh_cn u) (jh_cn v) = 0 ↔ u = v := by
  have a := jh_cn_n hu
  have b := jh_cn_n hv
  rw [jp_lcmp ⟨by omega, by omega⟩ ⟨by omega, by omega⟩, ← jh_cn_inj hu hv]
  split
  · constructor
    · intro y; omega
    · intro y; omega
  · split
    · rename_i y; exact ⟨fun _ => y, fun _ => rfl⟩
    · rename_i y; exact ⟨fun z => absurd z (by decide), fun z => absurd z y⟩
theorem jh_k1 {k : Nat} (hk : k = 0 ∨ k = 1) : jl_add 1 (k : Int) = ((1 + k : Nat) : Int) := by rw [jp_add (by omega) (by omega)]; omega
theorem jh_k8 {k i : Nat} (hk : k = 0 ∨ k = 1) (hi : i < 100) : jl_add (jl_mul 8 (k : Int)) (i : Int) = ((8 * k + i : Nat) : Int) := by rw [jp_mul (by omega) (by omega), jp_add (by omega) (by omega)]; omega
theorem jh_fiL {k N : Nat} {f : Nat → List Int} {u : List Int} {s : jl_Mm} (hk : k = 0 ∨ k = 1) (hN : jh_nn s k N f) (hu : jz_vn u) (h5 : jl_g s 206 5 = 0) : ∀ (m n i : Nat), i + m = N → m < n → (jz_fi f u m i ≠ -1 → jf_X12_named_L8 n (k : Int) (jh_cn u) (i : Int) s = some (jz_fi f u m i, s)) ∧ (jz_fi f u m i = -1 → jf_X12_named_L8 n (k : Int) (jh_cn u) (i : Int) s = some (0, jl_up (jl_up s 206 5 3) 206 6 (jl_g s 206 43))) := by
  obtain ⟨n1, n2, n3⟩ := hN
  intro m
  induction m with
  | zero =>
    intro n i hi hn
    obtain ⟨n, rfl⟩ : ∃ j, n = j + 1 := ⟨n - 1, by omega⟩
    rw [jz_fi, jf_X12_named_L8, jh_k1 hk, if_pos (by omega), Int.toNat_natCast, n1, if_pos (by omega), if_pos h5, jh_fail0 h5, jp_bd, jf_X12_named_B63]
    exact ⟨fun z => absurd rfl z, fun _ => rfl⟩
  | succ m ih =>
    intro n i hi hn
    obtain ⟨n, rfl⟩ : ∃ j, n = j + 1 := ⟨n - 1, by omega⟩
    obtain ⟨a, b⟩ := n3 i (by omega)
    rw [jf_X12_named_L8, jh_k1 hk, if_pos (by omega), Int.toNat_natCast, n1, if_neg (by omega), jh_k8 hk (by omega), if_pos (by omega), Int.toNat_natCast, a, jz_fi]
    by_cases e : f i = u
    · rw [if_pos ((jh_lcmp b hu).mpr e), if_pos e]
      exact ⟨fun _ => rfl, fun z => by omega⟩
    · rw [if_neg (fun y => e ((jh_lcmp b hu).mp y)), if_neg e, jp_add (by omega) (by omega)]
      exact ih n (i + 1) (by omega) (by omega)
theorem jh_fiK {k N : Nat} {v : Int} {s : jl_Mm} (hk : k = 0 ∨ k = 1) (hN : jl_g s 241 (1 + k) = (N : Int)) (hN8 : N ≤ 8) (h5 : jl_g s 206 5 ≠ 0) : ∀ (m n i : Nat), i + m = N → m < n → ∃ r, jf_X12_named_L8 n (k : Int) v (i : Int) s = some (r, s) := by
  intro m
  induction m with
  | zero =>
    intro n i hi hn
    obtain ⟨n, rfl⟩ : ∃ j, n = j + 1 := ⟨n - 1, by omega⟩
    exact ⟨0, by rw [jf_X12_named_L8, jh_k1 hk, if_pos (by omega), Int.toNat_natCast, hN, if_pos (by omega), if_neg h5, jf_X12_named_B63]⟩
  | succ m ih =>
    intro n i hi hn
    obtain ⟨n, rfl⟩ : ∃ j, n = j + 1 := ⟨n - 1, by omega⟩
    rw [jf_X12_named_L8, jh_k1 hk, if_pos (by omega), Int.toNat_natCast, hN, if_neg (by omega), jh_k8 hk (by omega), if_pos (by omega), Int.toNat_natCast]
    by_cases e : jl_lcmp (jl_gl s 242 (8 * k + i)) v = 0
    · rw [if_pos e]
      exact ⟨_, rfl⟩
    · rw [if_neg e, jp_add (by omega) (by omega)]
      exact ih n (i + 1) (by omega) (by omega)
theorem jh_newK {R7 : Int → Int → jl_Mm → jl_O} {k N : Nat} {v : Int} {s : jl_Mm} (hk : k = 0 ∨ k = 1) (hN : jl_g s 241 (1 + k) = (N : Int)) (hN8 : N ≤ 8) (h5 : jl_g s 206 5 ≠ 0) : ∀ (m n i : Nat), i + m = N → m < n → jf_X12_newName_L15 R7 n v (k : Int) (i : Int) s = R7 v ((k + 1 : Nat) : Int) s := by
  intro m
  induction m with
  | zero =>
    intro n i hi hn
    obtain ⟨n, rfl⟩ : ∃ j, n = j + 1 := ⟨n - 1, by omega⟩
    rw [jf_X12_newName_L15, jh_k1 hk, if_pos (by omega), Int.toNat_natCast, hN, if_pos (by omega), jp_add (by omega) (by omega)]
    rfl
  | succ m ih =>
    intro n i hi hn
    obtain ⟨n, rfl⟩ : ∃ j, n = j + 1 := ⟨n - 1, by omega⟩
    rw [jf_X12_newName_L15, jh_k1 hk, if_pos (by omega), Int.toNat_natCast, hN, if_neg (by omega), if_neg h5, jf_X12_newName_B61, jp_add (by omega) (by omega)]
    exact ih n (i + 1) (by omega) (by omega)
theorem jh_newL {R7 : Int → Int → jl_Mm → jl_O} {k N : Nat} {f : Nat → List Int} {u : List Int} {s : jl_Mm} (hk : k = 0 ∨ k = 1) (hN : jh_nn s k N f) (hu : jz_vn u) (h5 : jl_g s 206 5 = 0) : ∀ (m n i : Nat), i + m = N → m < n → jf_X12_newName_L15 R7 n (jh_cn u) (k : Int) (i : Int) s = R7 (jh_cn u) ((k + 1 : Nat) : Int) (if jz_fi f u m i = -1 then s else jl_up (jl_up s 206 5 3) 206 6 (jl_g s 206 43)) := by
  obtain ⟨n1, n2, n3⟩ := hN
  intro m
  induction m with
  | zero =>
    intro n i hi hn
    obtain ⟨n, rfl⟩ : ∃ j, n = j + 1 := ⟨n - 1, by omega⟩
    rw [jf_X12_newName_L15, jh_k1 hk, if_pos (by omega), Int.toNat_natCast, n1, if_pos (by omega), jp_add (by omega) (by omega), jz_fi, if_pos rfl]
    rfl
  | succ m ih =>
    intro n i hi hn
    obtain ⟨n, rfl⟩ : ∃ j, n = j + 1 := ⟨n - 1, by omega⟩
    obtain ⟨a, b⟩ := n3 i (by omega)
    rw [jf_X12_newName_L15, jh_k1 hk, if_pos (by omega), Int.toNat_natCast, n1, if_neg (by omega), if_pos h5, jh_k8 hk (by omega), if_pos (by omega), Int.toNat_natCast, a, jz_fi]
    by_cases e : f i = u
    · rw [if_pos ((jh_lcmp b hu).mpr e), if_pos e, if_neg (by omega), jh_fail0 h5, jp_bd, jf_X12_newName_B61, jp_add (by omega) (by omega)]
      refine jh_newK hk ?_ n2 ?_ m n (i + 1) (by omega) (by omega)
      · rw [jp_g_ne (by decide), jp_g_ne (by decide)]; exact n1
      · rw [jp_g_nei (by decide), jp_g_eq (by decide) (by decide)]; decide
    · rw [if_neg (fun y => e ((jh_lcmp b hu).mp y)), if_neg e, jf_X12_newName_B61, jp_add (by omega) (by omega)]
      exact ih n (i + 1) (by omega) (by omega)
/-- the reference's reader of a street, up to st -/
def jh_B (T : Nat → Int) (e : Nat) (st : jq_S) (Z : jz_Z) (τ : jl_Mm) : Prop := jh_L T e st τ ∧ jh_M τ ∧ (st.1 = 0 → jh_R Z τ)
theorem jh_nn0 {Z : jz_Z} {s : jl_Mm} (h : jh_R Z s) (m : jh_M s) : jh_nn s 0 (Z.1 2).toNat (Z.2.2 1) := by
  have a := h.1 1 (by decide)
  obtain ⟨m1, m2, m3⟩ := m
  simp only [Nat.reduceAdd] at a
  refine ⟨by rw [show 1 + 0 = 1 from rfl, a]; omega, by omega, fun i hi => ?_⟩
  obtain ⟨x, y, -⟩ := h.2.1 i (by omega)
  exact ⟨by rw [show 8 * 0 + i = i by omega]; exact x, y⟩
theorem jh_nn1 {Z : jz_Z} {s : jl_Mm} (h : jh_R Z s) (m : jh_M s) : jh_nn s 1 (Z.1 3).toNat (Z.2.2 4) := by
  have a := h.1 2 (by decide)
  obtain ⟨m1, m2, m3⟩ := m
  simp only [Nat.reduceAdd] at a
  refine ⟨by rw [show 1 + 1 = 2 from rfl, a]; omega, by omega, fun i hi => ?_⟩
  obtain ⟨x, y, -⟩ := h.2.2.1 i (by omega)
  exact ⟨by rw [show 8 * 1 + i = 8 + i by omega]; exact x, y⟩
