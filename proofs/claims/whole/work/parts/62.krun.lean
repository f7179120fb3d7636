/-! PURE, the class: what codes tell -/
def kv_wi (c : Int) : Nat := if c = 40 then 19 else if c = 41 then 20 else if c = 42 then 15 else if c = 43 then 16 else if c = 44 then 17 else if c = 45 then 18 else if c = 46 then 3 else if c = 47 then 21 else if c = 48 then 22 else 23
def kc_S : List Int → jl_Mm → Prop
  | [], _ => True
  | v :: r, s => jl_g s 191 r.length = v ∧ kc_S r s
theorem kc_S.up : ∀ {r : List Int} {s : jl_Mm} {i : Nat} {v : Int}, kc_S r s → r.length ≤ i → kc_S r (jl_up s 191 i v)
  | [], _, _, _, _, _ => trivial
  | x :: r, s, i, v, h, hi => by
    rw [List.length_cons] at hi
    exact ⟨(jp_g_nei (by omega)).trans h.1, h.2.up (by omega)⟩
theorem kc_S.fr : ∀ {r : List Int} {s τ : jl_Mm} {F : jp_F}, kc_S r s → jp_fr F s τ → (∀ i, jp_in F 191 i = false) → kc_S r τ
  | [], _, _, _, _, _, _ => trivial
  | _ :: r, _, _, _, h, f, w => ⟨(f.g _ _ (w _)).trans h.1, h.2.fr f w⟩
theorem kc_push {v : Int} {r : List Int} {s : jl_Mm} (h : kc_S r s) (hv : kv_b v) : kc_S (v :: r) (jl_up s 191 r.length v) := by
  have h1 := hv.1; have h2 := hv.2
  exact ⟨jp_g_eq (by omega) (by omega), h.up (Nat.le_refl _)⟩
theorem ku_m1 : jl_i3 (-1) = -1 := by decide +kernel
theorem ku_xorN {v : Int} (h : 0 ≤ v ∧ v < 10000) : jl_xor v (-1) = -v - 1 := by
  rw [jl_xor, ku_m1, Int32.xor_neg_one, Int32.toInt_not, jl_to_i3 ⟨by omega, by omega⟩]
  exact Int.bmod_eq_of_le (by omega) (by omega)
theorem kv_wi_t {c : Int} (h : 40 ≤ c ∧ c < 50) : jq_U c < 0 ∧ jl_xor (jq_U c) (-1) = ((kv_wi c : Nat) : Int) ∧ kv_wi c < 24 := by
  obtain rfl | rfl | rfl | rfl | rfl | rfl | rfl | rfl | rfl | rfl : c = 40 ∨ c = 41 ∨ c = 42 ∨ c = 43 ∨ c = 44 ∨ c = 45 ∨ c = 46 ∨ c = 47 ∨ c = 48 ∨ c = 49 := by omega
  all_goals decide +kernel
theorem kv_w2_t {c : Int} (h : 1 ≤ c ∧ c ≤ 11) : jl_xor (jq_U c) (-1) = kv_w2 c ∧ 24 ≤ kv_w2 c ∧ kv_w2 c ≠ 28 ∧ kv_w2 c ≠ 24 ∧ kv_w2 c ≠ 25 := by
  obtain rfl | rfl | rfl | rfl | rfl | rfl | rfl | rfl | rfl | rfl | rfl : c = 1 ∨ c = 2 ∨ c = 3 ∨ c = 4 ∨ c = 5 ∨ c = 6 ∨ c = 7 ∨ c = 8 ∨ c = 9 ∨ c = 10 ∨ c = 11 := by omega
  all_goals decide +kernel
