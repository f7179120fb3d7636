/-! PURE, the reference's reader: names -/
def jy_Z (T : Nat → Int) (e p : Nat) (τ : jl_Mm) : Prop := jy_L T e p τ ∧ jl_g τ 206 2 = (p : Int) ∧ jy_E T p (jl_g τ 206 4)
theorem jy_ownS {T : Nat → Int} {e p c w : Nat} {A B : jl_Mm → jl_O} {s : jl_Mm} (hc : jy_is c) (hw : jy_wn c = w) (hw2 : w < 32) (h : jy_L T e p s) (hA : ∀ τ, jy_Z T e p τ → jE (A τ) (if ((w + 1 : Nat) : Int) ≤ jq_wn T e p ∧ jq_wn T e p ≤ 31 then 1 else 0) [(206, 2, 3)] τ (jy_Z T e p)) (hB : ∀ τ, B τ = some (1, τ)) : jE (jl_bd (jf_X12_isHere c s) fun r τ => if r = 0 then A τ else B τ) (if ((w : Nat) : Int) ≤ jq_wn T e p ∧ jq_wn T e p ≤ 31 then 1 else 0) [(206, 2, 3)] s (jy_Z T e p) := by
  refine jE.bd (jx12_isHere hc h) (by decide) (fun τ f z => ?_)
  rw [hw]
  by_cases q : jq_wn T e p = (w : Int)
  · rw [if_pos q, if_neg (by decide), hB, if_pos (by omega)]
    exact jE.ret z
  · rw [if_neg q, if_pos rfl]
    have := hA τ z
    by_cases r : ((w + 1 : Nat) : Int) ≤ jq_wn T e p ∧ jq_wn T e p ≤ 31
    · rw [if_pos r] at this; rw [if_pos (by omega)]; exact this
    · rw [if_neg r] at this; rw [if_neg (by omega)]; exact this
theorem jy_ow402 (τ : jl_Mm) : jf_X12_isOwnHere_B402 τ = some (1, τ) := by rw [jf_X12_isOwnHere_B402, jf_X12_isOwnHere_B407, jp_zb1]
theorem jy_ow370 (τ : jl_Mm) : jf_X12_isOwnHere_B370 τ = some (1, τ) := by rw [jf_X12_isOwnHere_B370, jf_X12_isOwnHere_B375, if_neg (by decide)]; exact jy_ow402 τ
theorem jy_ow294 (τ : jl_Mm) : jf_X12_isOwnHere_B294 τ = some (1, τ) := by rw [jf_X12_isOwnHere_B294, jf_X12_isOwnHere_B299, if_neg (by decide)]; exact jy_ow370 τ
theorem jy_ow218 (τ : jl_Mm) : jf_X12_isOwnHere_B218 τ = some (1, τ) := by rw [jf_X12_isOwnHere_B218, jf_X12_isOwnHere_B223, if_neg (by decide)]; exact jy_ow294 τ
theorem jy_ow142 (τ : jl_Mm) : jf_X12_isOwnHere_B142 τ = some (1, τ) := by rw [jf_X12_isOwnHere_B142, jf_X12_isOwnHere_B147, if_neg (by decide)]; exact jy_ow218 τ
theorem jy_ow66 (τ : jl_Mm) : jf_X12_isOwnHere_B66 τ = some (1, τ) := by rw [jf_X12_isOwnHere_B66, jf_X12_isOwnHere_B71, if_neg (by decide)]; exact jy_ow142 τ
theorem jx12_own {T : Nat → Int} {e p : Nat} {s : jl_Mm} (h : jy_L T e p s) : jE (jf_X12_isOwnHere s) (if 0 ≤ jq_wn T e p ∧ jq_wn T e p ≤ 31 then 1 else 0) [(206, 2, 3)] s (jy_Z T e p) := by
  rw [jf_X12_isOwnHere]
  refine jy_ownS (c := 209) (Or.inl (by omega)) rfl (by decide) h (fun τ z => ?_) (fun τ => jy_ow66 τ)
  refine jy_ownS (c := 210) (Or.inl (by omega)) rfl (by decide) z.1 (fun τ z => ?_) (fun τ => jy_ow66 τ)
  refine jy_ownS (c := 211) (Or.inl (by omega)) rfl (by decide) z.1 (fun τ z => ?_) (fun τ => jy_ow66 τ)
  refine jy_ownS (c := 212) (Or.inl (by omega)) rfl (by decide) z.1 (fun τ z => ?_) (fun τ => jy_ow66 τ)
  refine jy_ownS (c := 213) (Or.inl (by omega)) rfl (by decide) z.1 (fun τ z => ?_) (fun τ => jy_ow66 τ)
  refine jy_ownS (c := 214) (Or.inl (by omega)) rfl (by decide) z.1 (fun τ z => ?_) (fun τ => jy_ow66 τ)
  rw [jf_X12_isOwnHere_B71, if_pos rfl]
  refine jy_ownS (c := 215) (Or.inl (by omega)) rfl (by decide) z.1 (fun τ z => ?_) (fun τ => jy_ow142 τ)
  refine jy_ownS (c := 216) (Or.inl (by omega)) rfl (by decide) z.1 (fun τ z => ?_) (fun τ => jy_ow142 τ)
  refine jy_ownS (c := 217) (Or.inl (by omega)) rfl (by decide) z.1 (fun τ z => ?_) (fun τ => jy_ow142 τ)
  refine jy_ownS (c := 218) (Or.inl (by omega)) rfl (by decide) z.1 (fun τ z => ?_) (fun τ => jy_ow142 τ)
  refine jy_ownS (c := 219) (Or.inl (by omega)) rfl (by decide) z.1 (fun τ z => ?_) (fun τ => jy_ow142 τ)
  refine jy_ownS (c := 220) (Or.inl (by omega)) rfl (by decide) z.1 (fun τ z => ?_) (fun τ => jy_ow142 τ)
  rw [jf_X12_isOwnHere_B147, if_pos rfl]
  refine jy_ownS (c := 221) (Or.inl (by omega)) rfl (by decide) z.1 (fun τ z => ?_) (fun τ => jy_ow218 τ)
  refine jy_ownS (c := 222) (Or.inl (by omega)) rfl (by decide) z.1 (fun τ z => ?_) (fun τ => jy_ow218 τ)
  refine jy_ownS (c := 223) (Or.inl (by omega)) rfl (by decide) z.1 (fun τ z => ?_) (fun τ => jy_ow218 τ)
  refine jy_ownS (c := 224) (Or.inl (by omega)) rfl (by decide) z.1 (fun τ z => ?_) (fun τ => jy_ow218 τ)
  refine jy_ownS (c := 225) (Or.inl (by omega)) rfl (by decide) z.1 (fun τ z => ?_) (fun τ => jy_ow218 τ)
  refine jy_ownS (c := 226) (Or.inl (by omega)) rfl (by decide) z.1 (fun τ z => ?_) (fun τ => jy_ow218 τ)
  rw [jf_X12_isOwnHere_B223, if_pos rfl]
  refine jy_ownS (c := 227) (Or.inl (by omega)) rfl (by decide) z.1 (fun τ z => ?_) (fun τ => jy_ow294 τ)
  refine jy_ownS (c := 228) (Or.inl (by omega)) rfl (by decide) z.1 (fun τ z => ?_) (fun τ => jy_ow294 τ)
  refine jy_ownS (c := 229) (Or.inl (by omega)) rfl (by decide) z.1 (fun τ z => ?_) (fun τ => jy_ow294 τ)
  refine jy_ownS (c := 230) (Or.inl (by omega)) rfl (by decide) z.1 (fun τ z => ?_) (fun τ => jy_ow294 τ)
  refine jy_ownS (c := 231) (Or.inl (by omega)) rfl (by decide) z.1 (fun τ z => ?_) (fun τ => jy_ow294 τ)
  refine jy_ownS (c := 232) (Or.inl (by omega)) rfl (by decide) z.1 (fun τ z => ?_) (fun τ => jy_ow294 τ)
  rw [jf_X12_isOwnHere_B299, if_pos rfl]
  refine jy_ownS (c := 233) (Or.inl (by omega)) rfl (by decide) z.1 (fun τ z => ?_) (fun τ => jy_ow370 τ)
  refine jy_ownS (c := 234) (Or.inl (by omega)) rfl (by decide) z.1 (fun τ z => ?_) (fun τ => jy_ow370 τ)
  refine jy_ownS (c := 235) (Or.inl (by omega)) rfl (by decide) z.1 (fun τ z => ?_) (fun τ => jy_ow370 τ)
  refine jy_ownS (c := 236) (Or.inl (by omega)) rfl (by decide) z.1 (fun τ z => ?_) (fun τ => jy_ow370 τ)
  refine jy_ownS (c := 237) (Or.inl (by omega)) rfl (by decide) z.1 (fun τ z => ?_) (fun τ => jy_ow370 τ)
  refine jy_ownS (c := 238) (Or.inl (by omega)) rfl (by decide) z.1 (fun τ z => ?_) (fun τ => jy_ow370 τ)
  rw [jf_X12_isOwnHere_B375, if_pos rfl]
  refine jy_ownS (c := 239) (Or.inl (by omega)) rfl (by decide) z.1 (fun τ z => ?_) (fun τ => jy_ow402 τ)
  refine jy_ownS (c := 240) (Or.inl (by omega)) rfl (by decide) z.1 (fun τ z => ?_) (fun τ => jy_ow402 τ)
  rw [jf_X12_isOwnHere_B407, jp_zb0, if_neg (by omega)]
  exact jE.ret z
def jh_cf : List Int → Int → Int
  | [], v => v
  | c :: u, v => jh_cf u (27 * v + (c - 96))
def jh_cn (u : List Int) : Int := jh_cf u 0
theorem jh_cf_b : ∀ (u : List Int) (v : Int), (∀ c ∈ u, jq_lt c) → 0 ≤ v → 0 ≤ jh_cf u v ∧ jh_cf u v < 27 ^ u.length * (v + 1) := by
  intro u
  induction u with
  | nil => intro v _ hv; simp only [jh_cf, List.length_nil]; omega
  | cons c u ih =>
    intro v hu hv
    have hc := hu c List.mem_cons_self
    obtain ⟨a, b⟩ := ih (27 * v + (c - 96)) (fun x hx => hu x (List.mem_cons_of_mem _ hx)) (by omega)
    rw [jh_cf]
    refine ⟨a, Int.lt_of_lt_of_le b ?_⟩
    rw [List.length_cons, Int.pow_succ, Int.mul_assoc]
    exact Int.mul_le_mul_of_nonneg_left (by omega) (Int.pow_nonneg (by decide))
theorem jh_cf_inj : ∀ (u u' : List Int) (v : Int), (∀ c ∈ u, jq_lt c) → (∀ c ∈ u', jq_lt c) → 0 ≤ v → u.length = u'.length → jh_cf u v = jh_cf u' v → u = u' := by
  have key : ∀ (u u' : List Int) (v v' : Int), (∀ c ∈ u, jq_lt c) → (∀ c ∈ u', jq_lt c) → u.length = u'.length → jh_cf u v = jh_cf u' v' → v = v' ∧ u = u' := by
    intro u
    induction u with
    | nil =>
      intro u' v v' _ _ hl h
      cases u' with
      | nil => exact ⟨h, rfl⟩
      | cons c u' => simp at hl
    | cons c u ih =>
      intro u' v v' h1 h2 hl h
      cases u' with
      | nil => simp at hl
      | cons c' u' =>
        have hc := h1 c List.mem_cons_self
        have hc' := h2 c' List.mem_cons_self
        rw [jh_cf, jh_cf] at h
        obtain ⟨a, b⟩ := ih u' _ _ (fun x hx => h1 x (List.mem_cons_of_mem _ hx)) (fun x hx => h2 x (List.mem_cons_of_mem _ hx)) (by simpa using hl) h
        have e1 : v = v' := by omega
        have e2 : c = c' := by omega
        exact ⟨e1, by rw [e2, b]⟩
  intro u u' v h1 h2 _ hl h
  exact (key u u' v v h1 h2 hl h).2
theorem jh_cf_app : ∀ (u w : List Int) (v : Int), jh_cf (u ++ w) v = jh_cf w (jh_cf u v) := by
  intro u
  induction u with
  | nil => intro w v; rfl
  | cons c u ih => intro w v; rw [List.cons_append, jh_cf, jh_cf, ih]
theorem jh_cf_len : ∀ (n : Nat) (u u' : List Int) (v v' : Int), u.length ≤ n → u'.length ≤ n → (∀ c ∈ u, jq_lt c) → (∀ c ∈ u', jq_lt c) → v = 0 → v' = 0 → jh_cf u v = jh_cf u' v' → u = u' := by
  intro n
  induction n with
  | zero =>
    intro u u' v v' hl hl' _ _ _ _ _
    have a := List.length_eq_zero_iff.mp (Nat.le_zero.mp hl)
    have b := List.length_eq_zero_iff.mp (Nat.le_zero.mp hl')
    rw [a, b]
  | succ n ih =>
    intro u u' v v' hl hl' h1 h2 hv hv' h
    rcases List.eq_nil_or_concat u with rfl | ⟨w, c, rfl⟩ <;> rcases List.eq_nil_or_concat u' with rfl | ⟨w', c', rfl⟩
    · rfl
    · rw [List.concat_eq_append, jh_cf_app] at h
      have hc := h2 c' (by simp)
      have b := (jh_cf_b w' v' (fun x hx => h2 x (by simp [hx])) (by omega)).1
      simp only [jh_cf] at h
      omega
    · rw [List.concat_eq_append, jh_cf_app] at h
      have hc := h1 c (by simp)
      have b := (jh_cf_b w v (fun x hx => h1 x (by simp [hx])) (by omega)).1
      simp only [jh_cf] at h
      omega
    · rw [List.concat_eq_append, List.concat_eq_append, jh_cf_app, jh_cf_app] at h
      have hc := h1 c (by simp)
      have hc' := h2 c' (by simp)
      simp only [jh_cf] at h
      have e2 : c = c' := by omega
      have e1 : jh_cf w v = jh_cf w' v' := by omega
      have := ih w w' v v' (by simp at hl; omega) (by simp at hl'; omega) (fun x hx => h1 x (by simp [hx])) (fun x hx => h2 x (by simp [hx])) hv hv' e1
      rw [this, e2]
theorem jh_cn_inj {u u' : List Int} (h : jz_vn u) (h' : jz_vn u') : jh_cn u = jh_cn u' ↔ u = u' := by
  constructor
  · intro q
    exact jh_cf_len 6 u u' 0 0 h.2.1 h'.2.1 h.2.2 h'.2.2 rfl rfl q
  · intro q; rw [q]
theorem jh_cn_n {u : List Int} (h : jz_vn u) : 0 ≤ jh_cn u ∧ jh_cn u < 387420489 := by
  obtain ⟨a, b⟩ := jh_cf_b u 0 h.2.2 (Int.le_refl _)
  refine ⟨a, Int.lt_of_lt_of_le b ?_⟩
  have : (27 : Int) ^ u.length ≤ 27 ^ 6 := by
    have z : (27 : Nat) ^ u.length ≤ 27 ^ 6 := Nat.pow_le_pow_right (by decide) h.2.1
    exact_mod_cast z
  rw [Int.zero_add, Int.mul_one]
  exact this
theorem jh_nameL {T : Nat → Int} {e p : Nat} {s0 : jl_Mm} (h0 : jy_L T e p s0) (h43 : jl_g s0 206 43 = (p : Int)) : ∀ (m n a : Nat) (v : Int) (s : jl_Mm), jp_fr [(206, 2, 3)] s0 s → e - a ≤ m → m < n → p ≤ a → a ≤ e → a ≤ p + 6 → jl_g s 206 2 = (a : Int) → 0 ≤ v → v < 27 ^ (a - p) →
    (jq_we T e a ≤ p + 6 → jE (jf_X12_name_L58 n v s) (jh_cf (jq_sl T a (jq_we T e a)) v) [(206, 2, 3), (206, 4, 5)] s (fun τ => jl_g τ 206 2 = ((jq_we T e a : Nat) : Int) ∧ jl_g τ 206 4 = ((jq_we T e a : Nat) : Int))) ∧
    (¬ jq_we T e a ≤ p + 6 → jE (jf_X12_name_L58 n v s) 0 [(206, 2, 3), (206, 5, 7)] s (fun τ => jy_K 1 (p + 6) τ)) := by
  intro m
  have he := h0.1
  have h3 := h0.2.1
  have hT := h0.2.2.1
  have h5 := h0.2.2.2.1
  induction m with
  | zero =>
    intro n a v s f hm hn hpa hae ha6 h2 hv0 hv
    obtain ⟨n, rfl⟩ : ∃ j, n = j + 1 := ⟨n - 1, by omega⟩
    have hw : jq_we T e a = a := jq_we_end (by omega)
    rw [hw, jf_X12_name_L58, f.g 206 3 rfl, h3, h2, if_pos (by omega), jf_X12_name_B145, h2]
    refine ⟨fun _ => ?_, fun z => absurd ha6 z⟩
    refine jE.lm rfl ?_
    rw [jq_sl_nil (Nat.le_refl _), jh_cf]
    refine jE.ret ⟨?_, ?_⟩
    · simp (disch := omega) only [if_pos, if_neg, jp_bd, jp_lm, jp_let, jp_zb0, jp_zb1, jp_add, jp_sub, jp_g_eq, jp_g_eqg, jp_g_ne, jp_g_nei, jp_r_ne, jp_r_nei, Int.toNat_natCast, h2]
    · simp (disch := omega) only [if_pos, if_neg, jp_bd, jp_lm, jp_let, jp_zb0, jp_zb1, jp_add, jp_sub, jp_g_eq, jp_g_eqg, jp_g_ne, jp_g_nei, jp_r_ne, jp_r_nei, Int.toNat_natCast]
  | succ m ih =>
    intro n a v s f hm hn hpa hae ha6 h2 hv0 hv
    obtain ⟨n, rfl⟩ : ∃ j, n = j + 1 := ⟨n - 1, by omega⟩
    have stop : jq_we T e a = a → jf_X12_name_L58 (n + 1) v s = jf_X12_name_B145 v s → _ := fun hw hE => by
      have R : (jq_we T e a ≤ p + 6 → jE (jf_X12_name_L58 (n + 1) v s) (jh_cf (jq_sl T a (jq_we T e a)) v) [(206, 2, 3), (206, 4, 5)] s (fun τ => jl_g τ 206 2 = ((jq_we T e a : Nat) : Int) ∧ jl_g τ 206 4 = ((jq_we T e a : Nat) : Int))) ∧ (¬ jq_we T e a ≤ p + 6 → jE (jf_X12_name_L58 (n + 1) v s) 0 [(206, 2, 3), (206, 5, 7)] s (fun τ => jy_K 1 (p + 6) τ)) := by
        rw [hw, hE, jf_X12_name_B145, h2]
        refine ⟨fun _ => ?_, fun z => absurd ha6 z⟩
        refine jE.lm rfl ?_
        rw [jq_sl_nil (Nat.le_refl _), jh_cf]
        refine jE.ret ⟨?_, ?_⟩
        · simp (disch := omega) only [if_pos, if_neg, jp_bd, jp_lm, jp_let, jp_zb0, jp_zb1, jp_add, jp_sub, jp_g_eq, jp_g_eqg, jp_g_ne, jp_g_nei, jp_r_ne, jp_r_nei, Int.toNat_natCast, h2]
        · simp (disch := omega) only [if_pos, if_neg, jp_bd, jp_lm, jp_let, jp_zb0, jp_zb1, jp_add, jp_sub, jp_g_eq, jp_g_eqg, jp_g_ne, jp_g_nei, jp_r_ne, jp_r_nei, Int.toNat_natCast]
      exact R
    by_cases hend : e ≤ a
    · exact stop (jq_we_end hend) (by rw [jf_X12_name_L58, f.g 206 3 rfl, h3, h2, if_pos (by omega)])
    · have hTa : jl_g s 207 a = T a := (f.g 207 a rfl).trans (hT a (by omega))
      by_cases hl : jq_lt (T a)
      · have hw : jq_we T e a = jq_we T e (a + 1) := jq_we_step (by omega) hl
        have hge := jq_we_ge (T := T) (e := e) (a := a + 1)
        rw [hw, jf_X12_name_L58, f.g 206 3 rfl, h3, h2, if_neg (by omega), if_pos (by omega), Int.toNat_natCast, hTa, jx12_letter, jp_bd, if_pos hl, if_neg (by decide), f.g 206 43 rfl, h43, h2, jp_sub (by omega) (by omega)]
        by_cases h6 : a = p + 6
        · rw [if_pos (by omega)]
          refine ⟨fun z => by omega, fun _ => ?_⟩
          rw [jf_X12_fail, f.g 206 5 rfl, h5, if_pos rfl, jp_lm, jp_lm, jp_bd]
          refine ⟨_, rfl, (jp_fr.rf.up rfl).up rfl, by decide, ?_, ?_⟩
          · simp (disch := omega) only [if_pos, if_neg, jp_bd, jp_lm, jp_let, jp_zb0, jp_zb1, jp_add, jp_sub, jp_g_eq, jp_g_eqg, jp_g_ne, jp_g_nei, jp_r_ne, jp_r_nei, Int.toNat_natCast]
            rfl
          · rw [h6]
            simp (disch := omega) only [if_pos, if_neg, jp_bd, jp_lm, jp_let, jp_zb0, jp_zb1, jp_add, jp_sub, jp_g_eq, jp_g_eqg, jp_g_ne, jp_g_nei, jp_r_ne, jp_r_nei, Int.toNat_natCast]
        · have hp6 : (27 : Int) ^ (a - p) ≤ 387420489 := by
            have z : (27 : Nat) ^ (a - p) ≤ 27 ^ 6 := Nat.pow_le_pow_right (by decide) (by omega)
            have z2 : (27 : Int) ^ (a - p) ≤ 27 ^ 6 := by exact_mod_cast z
            exact Int.le_trans z2 (by decide)
          have hp1 : (27 : Int) ^ (a + 1 - p) = 27 ^ (a - p) * 27 := by rw [show a + 1 - p = (a - p) + 1 by omega, Int.pow_succ]
          have x1 : jl_lmul 27 v = 27 * v := jp_lmul (by omega) (by omega)
          have x2 : jl_ladd (27 * v) (T a) = 27 * v + T a := jp_ladd (by omega) (by omega)
          have x3 : jl_lsub (27 * v + T a) 97 = 27 * v + T a - 97 := jp_lsub (by omega) (by omega)
          have x4 : jl_ladd (27 * v + T a - 97) 1 = 27 * v + T a - 97 + 1 := jp_ladd (by omega) (by omega)
          rw [if_neg (by omega), if_pos (by omega), Int.toNat_natCast, hTa, x1, x2, x3, x4, jp_add (by omega) (by omega), jp_let, jp_lm]
          have f2 : jp_fr [(206, 2, 3)] s (jl_up s 206 2 ((a : Int) + 1)) := jp_fr.rf.up rfl
          obtain ⟨i1, i2⟩ := ih n (a + 1) (27 * v + T a - 97 + 1) (jl_up s 206 2 ((a : Int) + 1)) (f.tr f2) (by omega) (by omega) (by omega) (by omega) (by omega) (by rw [jp_g_eq (by omega) (by omega)]; omega) (by omega) (by rw [hp1]; omega)
          refine ⟨fun z => ?_, fun z => ?_⟩
          · rw [jq_sl_cons (by omega), jh_cf, show 27 * v + (T a - 96) = 27 * v + T a - 97 + 1 by omega]
            exact jE.fr (f2.w (by decide)) (i1 z)
          · exact jE.fr (f2.w (by decide)) (i2 z)
      · exact stop (jq_we_stop hl) (by rw [jf_X12_name_L58, f.g 206 3 rfl, h3, h2, if_neg (by omega), if_pos (by omega), Int.toNat_natCast, hTa, jx12_letter, jp_bd, if_neg hl, if_pos rfl])
