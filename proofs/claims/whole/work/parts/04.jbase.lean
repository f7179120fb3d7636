/-! THE MEMORY OF A RUN AS NUMBERS. Cell c (in the order of making) has the kind jl_kd c; what it holds are whole numbers σ c i. -/
abbrev jl_Mm : Type := Nat → Nat → Int
abbrev jl_O : Type := Option (Int × jl_Mm)
def jl_kP : List (Nat × Nat) := [(7, 5), (20, 6), (20, 8), (20, 8), (2, 4), (20, 40), (20, 40)]
def jl_kT : List (Nat × Nat) := [(11, 18), (10, 2), (20, 1600), (0, 6), (20, 1608), (20, 3), (20, 3), (20, 3), (8, 17), (20, 6), (20, 6), (20, 6), (20, 8), (20, 8), (20, 8), (20, 16), (20, 16), (20, 16), (0, 6), (20, 1608), (20, 3), (20, 3), (20, 3), (8, 17), (20, 6), (20, 6), (20, 6), (20, 8), (20, 8), (20, 8), (20, 16), (20, 16), (20, 16), (0, 6), (20, 1608), (20, 3), (20, 3), (20, 3), (4, 9), (9, 2), (7, 5), (20, 6), (20, 8), (20, 8), (2, 4), (20, 40), (20, 40), (3, 4), (24, 20), (25, 20), (7, 5), (20, 6), (20, 8), (20, 8), (2, 4), (20, 40), (20, 40), (7, 5), (20, 6), (20, 8), (20, 8), (2, 4), (20, 40), (20, 40), (7, 5), (20, 6), (20, 8), (20, 8), (2, 4), (20, 40), (20, 40), (7, 5), (20, 6), (20, 8), (20, 8), (2, 4), (20, 40), (20, 40), (7, 5), (20, 6), (20, 8), (20, 8), (2, 4), (20, 40), (20, 40), (7, 5), (20, 6), (20, 8), (20, 8), (2, 4), (20, 40), (20, 40), (7, 5), (20, 6), (20, 8), (20, 8), (2, 4), (20, 40), (20, 40), (7, 5), (20, 6), (20, 8), (20, 8), (2, 4), (20, 40), (20, 40), (7, 5), (20, 6), (20, 8), (20, 8), (2, 4), (20, 40), (20, 40), (7, 5), (20, 6), (20, 8), (20, 8), (2, 4), (20, 40), (20, 40), (7, 5), (20, 6), (20, 8), (20, 8), (2, 4), (20, 40), (20, 40), (7, 5), (20, 6), (20, 8), (20, 8), (2, 4), (20, 40), (20, 40), (7, 5), (20, 6), (20, 8), (20, 8), (2, 4), (20, 40), (20, 40), (7, 5), (20, 6), (20, 8), (20, 8), (2, 4), (20, 40), (20, 40), (7, 5), (20, 6), (20, 8), (20, 8), (2, 4), (20, 40), (20, 40), (7, 5), (20, 6), (20, 8), (20, 8), (2, 4), (20, 40), (20, 40), (7, 5), (20, 6), (20, 8), (20, 8), (2, 4), (20, 40), (20, 40), (7, 5), (20, 6), (20, 8), (20, 8), (2, 4), (20, 40), (20, 40), (7, 5), (20, 6), (20, 8), (20, 8), (2, 4), (20, 40), (20, 40), (7, 5), (20, 6), (20, 8), (20, 8), (2, 4), (20, 40), (20, 40), (5, 5), (20, 128), (20, 24), (20, 8), (20, 30), (1, 8), (7, 5), (20, 6), (20, 8), (20, 8), (6, 11), (20, 48), (20, 99), (20, 1620), (20, 27), (20, 6), (12, 111), (20, 1600), (20, 6), (22, 6), (22, 6), (22, 2), (22, 5), (22, 3), (22, 2), (22, 5), (22, 2), (22, 5), (22, 3), (22, 6), (22, 6), (22, 5), (22, 8), (22, 4), (22, 6), (22, 4), (22, 5), (22, 4), (22, 4), (22, 5), (22, 6), (22, 3), (22, 4), (22, 3), (22, 4), (22, 2), (22, 3), (22, 3), (22, 3), (22, 3), (22, 3), (20, 12), (21, 32), (20, 24), (20, 32), (20, 96), (20, 6), (20, 6), (20, 3200), (20, 105), (20, 30), (20, 8), (20, 24), (20, 48), (23, 100), (20, 93000), (20, 9), (20, 2100), (22, 5), (22, 4), (22, 5), (22, 5), (22, 4), (22, 5), (22, 3), (22, 3), (22, 2), (22, 3), (22, 3), (22, 3), (22, 4), (22, 5), (22, 6), (22, 4), (22, 5), (22, 4), (22, 5), (22, 6), (22, 3), (22, 4), (22, 3), (22, 4), (20, 1700), (20, 1700), (21, 1700), (20, 27)]
def jl_kd (c : Nat) : Nat × Nat := if 50 ≤ c ∧ c < 190 then jl_kP.getD ((c - 50) % 7) (99, 0) else jl_kT.getD c (99, 0)
/-- the types of a class's fields: 0 a number of one word, 1 a long, 2 a reference -/
def jl_fT : List (List Nat) := [[2, 2, 2, 2, 0, 0], [2, 2, 2, 0, 0, 0, 0, 0], [2, 2, 0, 0], [2, 2, 0, 0], [2, 2, 0, 0, 0, 0, 0, 0, 0], [2, 2, 2, 2, 2], [2, 2, 2, 2, 0, 2, 0, 2, 0, 0, 0], [0, 0, 2, 2, 2], [0, 0, 0, 0, 0, 0, 0, 2, 2, 2, 2, 2, 2, 2, 2, 2, 2], [2, 2], [2, 0], [2, 2, 2, 2, 2, 2, 2, 2, 2, 2, 2, 2, 2, 0, 2, 0, 0, 0], [2, 0, 0, 0, 0, 0, 0, 0, 0, 2, 0, 2, 2, 2, 2, 2, 2, 2, 2, 2, 2, 2, 2, 2, 2, 2, 2, 2, 2, 2, 2, 2, 2, 2, 2, 2, 2, 2, 2, 2, 2, 2, 2, 0, 2, 2, 2, 2, 2, 2, 2, 2, 0, 0, 0, 0, 2, 0, 0, 0, 2, 0, 2, 0, 2, 0, 2, 2, 0, 2, 2, 2, 0, 0, 1, 2, 2, 2, 2, 2, 2, 2, 2, 2, 2, 2, 2, 2, 2, 2, 2, 2, 2, 2, 2, 2, 2, 2, 2, 2, 0, 2, 0, 0, 0, 2, 0, 1, 0, 2, 0]]
def jl_ft (k i : Nat) : Nat := (jl_fT.getD k []).getD i 9
def jl_nf (k : Nat) : Nat := (jl_fT.getD k []).length
def jl_lS : List (Nat × List (Option Nat)) := [(0, [some 1, some 3, none, none, some 38, some 39, some 40, some 44, some 47, some 190, some 195, some 200, some 204, none, some 205, none, none, none]), (1, [some 2, none]), (38, [some 1, none, none, none, none, none, none, none, none]), (39, [some 38, none]), (47, [some 48, some 49, none, none]), (190, [none, some 191, some 192, some 193, some 194]), (195, [some 190, some 40, some 196, none, none, none, none, none]), (200, [some 195, some 190, some 196, some 201, none, some 202, none, some 203, none, none, none]), (206, [some 207, none, none, none, none, none, none, none, none, some 208, none, some 209, some 210, some 211, some 212, some 213, some 214, some 215, some 216, some 217, some 218, some 219, some 220, some 221, some 222, some 223, some 224, some 225, some 226, some 227, some 228, some 229, some 230, some 231, some 232, some 233, some 234, some 235, some 236, some 237, some 238, some 239, some 240, none, some 241, some 242, some 243, some 244, some 245, some 246, some 247, some 248, none, none, none, none, some 249, none, none, none, some 250, none, some 251, none, some 252, none, some 253, some 254, none, some 255, some 256, some 257, none, none, none, some 258, some 259, some 260, some 261, some 262, some 263, some 264, some 265, some 266, some 267, some 268, some 269, some 270, some 271, some 272, some 273, some 274, some 275, some 276, some 277, some 278, some 279, some 280, some 281, some 282, none, some 283, none, none, none, some 284, none, none, none, some 285, none])]
def jl_lk (c i : Nat) : Option Nat := match (jl_kd c).1 with
  | 7 => if 2 ≤ i ∧ i < 5 then some (c + i - 1) else none
  | 2 => if i < 2 then some (c + i + 1) else none
  | 0 => if i < 4 then some (c + i + 1) else none
  | 8 => if 7 ≤ i ∧ i < 17 then some (c + i - 6) else none
  | 24 => if c = 48 ∧ i < 20 then some (50 + 7 * i) else none
  | 25 => if c = 49 ∧ i < 20 then some (54 + 7 * i) else none
  | _ => (((jl_lS.find? (fun q => q.1 == c)).getD (0, [])).2.getD i none)
def jl_n3 (x : Int) : Prop := -2147483648 ≤ x ∧ x < 2147483648
def jl_n6 (x : Int) : Prop := -9223372036854775808 ≤ x ∧ x < 9223372036854775808
def jl_i3 (x : Int) : Int32 := Int32.ofInt x
def jl_i6 (x : Int) : Int64 := Int64.ofInt x
theorem jl_i3_to (v : Int32) : jl_i3 v.toInt = v := Int32.ofInt_toInt v
theorem jl_i6_to (v : Int64) : jl_i6 v.toInt = v := Int64.ofInt_toInt v
theorem jl_n3_to (v : Int32) : jl_n3 v.toInt := ⟨Int32.le_toInt v, Int32.toInt_lt v⟩
theorem jl_n6_to (v : Int64) : jl_n6 v.toInt := ⟨Int64.le_toInt v, Int64.toInt_lt v⟩
theorem jl_to_i3 {x : Int} (h : jl_n3 x) : (jl_i3 x).toInt = x := Int32.toInt_ofInt_of_le h.1 h.2
theorem jl_to_i6 {x : Int} (h : jl_n6 x) : (jl_i6 x).toInt = x := Int64.toInt_ofInt_of_le h.1 h.2
theorem jl_lt3 {a b : Int} (ha : jl_n3 a) (hb : jl_n3 b) : jl_i3 a < jl_i3 b ↔ a < b := by rw [Int32.lt_iff_toInt_lt, jl_to_i3 ha, jl_to_i3 hb]
theorem jl_le3 {a b : Int} (ha : jl_n3 a) (hb : jl_n3 b) : jl_i3 a ≤ jl_i3 b ↔ a ≤ b := by rw [Int32.le_iff_toInt_le, jl_to_i3 ha, jl_to_i3 hb]
theorem jl_eq3 {a b : Int} (ha : jl_n3 a) (hb : jl_n3 b) : jl_i3 a = jl_i3 b ↔ a = b := by rw [← Int32.toInt_inj, jl_to_i3 ha, jl_to_i3 hb]
theorem jl_n3_0 : jl_n3 0 := ⟨by decide, by decide⟩
theorem jl_i3_0 : jl_i3 0 = 0 := rfl
theorem jl_in3 {i : Int} {n : Nat} (h : jl_n3 i) (hi : 0 ≤ i ∧ i < n) : vp_in (jl_i3 i) n := vp_in_iff.mpr (by rw [jl_to_i3 h]; exact hi)
theorem jl_cl3 {i : Int} (h : jl_n3 i) : (jl_i3 i).toNatClampNeg = i.toNat := Int32.toNatClampNeg_ofInt_of_le h.1 h.2
/-- arithmetic -/
def jl_add (a b : Int) : Int := (jl_i3 a + jl_i3 b).toInt
def jl_sub (a b : Int) : Int := (jl_i3 a - jl_i3 b).toInt
def jl_mul (a b : Int) : Int := (jl_i3 a * jl_i3 b).toInt
def jl_and (a b : Int) : Int := (jl_i3 a &&& jl_i3 b).toInt
def jl_or (a b : Int) : Int := (jl_i3 a ||| jl_i3 b).toInt
def jl_xor (a b : Int) : Int := (jl_i3 a ^^^ jl_i3 b).toInt
def jl_shl (a b : Int) : Int := (jl_i3 a <<< (jl_i3 b &&& 31)).toInt
def jl_shr (a b : Int) : Int := (jl_i3 a >>> (jl_i3 b &&& 31)).toInt
def jl_ushr (a b : Int) : Int := ((jl_i3 a).toUInt32 >>> ((jl_i3 b).toUInt32 &&& Int32.toUInt32 31)).toInt32.toInt
def jl_div (a b : Int) : Int := (jl_i3 a / jl_i3 b).toInt
def jl_rem (a b : Int) : Int := (jl_i3 a - jl_i3 a / jl_i3 b * jl_i3 b).toInt
def jl_ladd (a b : Int) : Int := (jl_i6 a + jl_i6 b).toInt
def jl_lsub (a b : Int) : Int := (jl_i6 a - jl_i6 b).toInt
def jl_lmul (a b : Int) : Int := (jl_i6 a * jl_i6 b).toInt
def jl_land (a b : Int) : Int := (jl_i6 a &&& jl_i6 b).toInt
def jl_ldiv (a b : Int) : Int := (jl_i6 a / jl_i6 b).toInt
def jl_lrem (a b : Int) : Int := (jl_i6 a - jl_i6 a / jl_i6 b * jl_i6 b).toInt
def jl_lcmp (a b : Int) : Int := (lg_cmp (jl_i6 a) (jl_i6 b)).toInt
def jl_l2i (a : Int) : Int := (jl_i6 a).toInt32.toInt
/-- reading: a number of one word, a long, a reference -/
def jl_g (σ : jl_Mm) (c i : Nat) : Int := (jl_i3 (σ c i)).toInt
def jl_gl (σ : jl_Mm) (c i : Nat) : Int := (jl_i6 (σ c i)).toInt
def jl_gr (σ : jl_Mm) (c i : Nat) : Nat := (σ c i).toNat
def jl_up (σ : jl_Mm) (c i : Nat) (v : Int) : jl_Mm := fun c' i' => if c' = c then (if i' = i then v else σ c i') else σ c' i'
def jl_cp (σ : jl_Mm) (s sp d dp n : Nat) : jl_Mm := fun c' i' => if c' = d then (if dp ≤ i' ∧ i' < dp + n then σ s (sp + (i' - dp)) else σ d i') else σ c' i'
def jl_fv (ad : Nat → Nat) (t : Nat) (x : Int) : Value := match t with
  | 1 => .long (Int64.ofInt x)
  | 2 => va_rf (if x < 0 then none else some (ad x.toNat))
  | _ => .int (Int32.ofInt x)
abbrev jl_LK : Type := Nat → Nat → Option Nat
def jl_f1 (ad : Nat → Nat) (lk : jl_LK) (c k : Nat) (f : Nat → Int) (i : Nat) : Value := match lk c i with
  | some r => .ref (ad r)
  | none => jl_fv ad (jl_ft k i) (f i)
def jl_fs (ad : Nat → Nat) (lk : jl_LK) (c k : Nat) (f : Nat → Int) : List Value := (List.range (jl_nf k)).map (jl_f1 ad lk c k f)
def jl_ra (ad : Nat → Nat) (lk : jl_LK) (c : Nat) (f : Nat → Int) : Nat → Option Nat := fun i => match lk c i with
  | some r => some (ad r)
  | none => if f i < 0 then none else some (ad (f i).toNat)
def jl_ar (ad : Nat → Nat) (lk : jl_LK) (c k : Nat) (f : Nat → Int) : ((Nat → Int32) ⊕ (Nat → Int64) ⊕ (Nat → UInt32) ⊕ (Nat → UInt64) ⊕ (Nat → Option Nat)) :=
  if k = 21 then .inr (.inl (fun i => Int64.ofInt (f i))) else if 24 ≤ k then .inr (.inr (.inr (.inr (jl_ra ad lk c f)))) else .inl (fun i => Int32.ofInt (f i))
def jl_en (ad : Nat → Nat) (cA : Nat → ClassId) (lk : jl_LK) (c : Nat) (f : Nat → Int) : va_E :=
  if (jl_kd c).1 < 20 then .inr ((jl_kd c).1, jl_fs ad lk c (jl_kd c).1 f) else .inl (cA (jl_kd c).1, (jl_kd c).2, jl_ar ad lk c (jl_kd c).1 f)
def jl_w (ad : Nat → Nat) (cA : Nat → ClassId) (lk : jl_LK) (σ : jl_Mm) (nx : Nat) : va_W := (List.range nx).map (fun c => (ad c, jl_en ad cA lk c (σ c)))
theorem jl_w_get {ad : Nat → Nat} {cA : Nat → ClassId} {lk : jl_LK} {σ : jl_Mm} {nx c : Nat} (h : c < nx) : (jl_w ad cA lk σ nx)[c]? = some (ad c, jl_en ad cA lk c (σ c)) := by
  simp [jl_w, h]
theorem jl_w_get' {ad : Nat → Nat} {cA : Nat → ClassId} {lk : jl_LK} {σ : jl_Mm} {nx c : Nat} {q : Nat × va_E} (h : (jl_w ad cA lk σ nx)[c]? = some q) : c < nx ∧ q = (ad c, jl_en ad cA lk c (σ c)) := by
  have hl : c < nx := by
    have := (List.getElem?_eq_some_iff.mp h).1
    simpa [jl_w] using this
  refine ⟨hl, ?_⟩
  rw [jl_w_get hl] at h
  exact (Option.some.inj h).symm
theorem jl_w_set {ad : Nat → Nat} {cA : Nat → ClassId} {lk : jl_LK} {σ σ' : jl_Mm} {nx c : Nat} (h : ∀ c', c' ≠ c → σ' c' = σ c') : (jl_w ad cA lk σ nx).set c (ad c, jl_en ad cA lk c (σ' c)) = jl_w ad cA lk σ' nx := by
  apply List.ext_getElem?
  intro k
  by_cases hk : k = c
  · subst hk
    by_cases hl : k < nx
    · rw [List.getElem?_set_self (by simpa [jl_w] using hl), jl_w_get hl]
    · simp [jl_w, hl]
  · rw [List.getElem?_set_ne (Ne.symm hk)]
    by_cases hl : k < nx
    · rw [jl_w_get hl, jl_w_get hl, h k hk]
    · simp [jl_w, hl]
theorem jl_up_ne {σ : jl_Mm} {c i : Nat} {v : Int} (c' : Nat) (h : c' ≠ c) : jl_up σ c i v c' = σ c' := by
  funext i'
  simp [jl_up, h]
theorem jl_cp_ne {σ : jl_Mm} {s sp d dp n : Nat} (c' : Nat) (h : c' ≠ d) : jl_cp σ s sp d dp n c' = σ c' := by
  funext i'
  simp [jl_cp, h]
theorem jl_en_o {ad : Nat → Nat} {cA : Nat → ClassId} {lk : jl_LK} {c k n : Nat} {f : Nat → Int} (h : jl_kd c = (k, n)) (hk : k < 20) : jl_en ad cA lk c f = .inr (k, jl_fs ad lk c k f) := by
  simp [jl_en, h, hk]
theorem jl_en_i {ad : Nat → Nat} {cA : Nat → ClassId} {lk : jl_LK} {c k n : Nat} {f : Nat → Int} (h : jl_kd c = (k, n)) (hk : k = 20 ∨ k = 22 ∨ k = 23) : jl_en ad cA lk c f = .inl (cA k, n, .inl (fun i => jl_i3 (f i))) := by
  rcases hk with rfl | rfl | rfl <;> simp [jl_en, jl_ar, h, jl_i3]
theorem jl_en_l {ad : Nat → Nat} {cA : Nat → ClassId} {lk : jl_LK} {c n : Nat} {f : Nat → Int} (h : jl_kd c = (21, n)) : jl_en ad cA lk c f = .inl (cA 21, n, .inr (.inl (fun i => jl_i6 (f i)))) := by
  simp [jl_en, jl_ar, h, jl_i6]
theorem jl_en_r {ad : Nat → Nat} {cA : Nat → ClassId} {lk : jl_LK} {c k n : Nat} {f : Nat → Int} (h : jl_kd c = (k, n)) (hk : 24 ≤ k) : jl_en ad cA lk c f = .inl (cA k, n, .inr (.inr (.inr (.inr (jl_ra ad lk c f))))) := by
  have h1 : ¬ k < 20 := by omega
  have h2 : ¬ k = 21 := by omega
  simp [jl_en, jl_ar, h, h1, h2, hk]
theorem jl_fs_get {ad : Nat → Nat} {lk : jl_LK} {c k i : Nat} {f : Nat → Int} (h : i < jl_nf k) : (jl_fs ad lk c k f)[i]? = some (jl_f1 ad lk c k f i) := by
  simp [jl_fs, h]
theorem jl_fs_len {ad : Nat → Nat} {lk : jl_LK} {c k : Nat} {f : Nat → Int} : (jl_fs ad lk c k f).length = jl_nf k := by simp [jl_fs]
theorem jl_fs_set {ad : Nat → Nat} {lk : jl_LK} {c k i : Nat} {f : Nat → Int} {x : Int} (hl : lk c i = none) : (jl_fs ad lk c k f).set i (jl_fv ad (jl_ft k i) x) = jl_fs ad lk c k (fun i' => if i' = i then x else f i') := by
  apply List.ext_getElem?
  intro j
  by_cases hj : j = i
  · subst hj
    by_cases hn : j < jl_nf k
    · rw [List.getElem?_set_self (by rw [jl_fs_len]; exact hn), jl_fs_get hn]
      simp [jl_f1, hl]
    · simp [jl_fs, hn]
  · rw [List.getElem?_set_ne (Ne.symm hj)]
    by_cases hn : j < jl_nf k
    · rw [jl_fs_get hn, jl_fs_get hn]
      simp [jl_f1, hj]
    · simp [jl_fs, hn]
theorem jl_up_eq {σ : jl_Mm} {c i : Nat} {v : Int} : jl_up σ c i v c = fun i' => if i' = i then v else σ c i' := by
  funext i'
  simp [jl_up]
def jl_tbl : List Cond := lw_tbl.filter goodWord
theorem jl_mem {w : Cond} (i : Nat) (h : lw_tbl[i]? = some w) (g : goodWord w = true) : w ∈ jl_tbl := List.mem_filter.mpr ⟨List.mem_of_getElem? h, g⟩
theorem jl_tbl_in {w : Cond} (h : w ∈ jl_tbl) : w ∈ lw_tbl := (List.mem_filter.mp h).1
theorem jl_goodIn {ws : List Cond} (h : ∀ w ∈ ws, w ∈ jl_tbl) : GoodIn jl_tbl ws := fun w hw => ⟨h w hw, good_of_word (List.mem_filter.mp (h w hw)).2⟩
def jl_isN : Cond → Bool
  | .fieldLinkNest _ _ _ _ _ _ => true
  | .methodLinkNest _ _ _ _ => true
  | _ => false
def jl_nw : List Cond := lw_tbl.filter jl_isN
theorem jl_memN {w : Cond} (i : Nat) (h : lw_tbl[i]? = some w) (g : jl_isN w = true) : w ∈ jl_nw := List.mem_filter.mpr ⟨List.mem_of_getElem? h, g⟩
theorem jl_nw_warm {s U : State} (hW : s.WarmedH U.vm) (h : ∀ w ∈ jl_nw, va_Nw w s) : ∀ w ∈ jl_nw, va_Nw w U := by
  intro w hw
  have hN := (List.mem_filter.mp hw).2
  have hs := h w hw
  cases w <;> first | exact va_Nw.warmF hW hs | exact va_Nw.warmM hW hs | cases hN
theorem jl_nw_same {u U : State} (hv : u.vm = U.vm) (h : ∀ w ∈ jl_nw, va_Nw w u) : ∀ w ∈ jl_nw, va_Nw w U := by
  intro w hw
  have hN := (List.mem_filter.mp hw).2
  have hs := h w hw
  cases w <;> first | exact va_Nw.same rfl hv hs | cases hN
theorem jl_nw_use {w : Cond} {A : Array Value} {U : State} (hw : w ∈ jl_nw) (h : va_Nw w U) : w.before A U = true := by
  have hN := (List.mem_filter.mp hw).2
  cases w <;> first | exact va_Nw.use rfl h | cases hN
theorem jl_kd1 {x k : Nat} (h : (jl_kd x).1 = k) : jl_kd x = (k, (jl_kd x).2) := by rw [← h]
theorem jl_kd_big {x : Nat} (h : 286 ≤ x) : jl_kd x = (99, 0) := by
  have h1 : ¬ (50 ≤ x ∧ x < 190) := by omega
  have h2 : jl_kT.length = 286 := by decide +kernel
  rw [jl_kd, if_neg h1, List.getD, List.getElem?_eq_none (by omega)]
  rfl
theorem jl_kdl {x k n : Nat} (h : jl_kd x = (k, n)) (hk : k ≠ 99) : x < 286 := by
  rcases Nat.lt_or_ge x 286 with q | q
  · exact q
  · rw [jl_kd_big q] at h
    exact absurd (Prod.mk.inj h).1.symm hk
theorem jl_kdlt {x k : Nat} (h : (jl_kd x).1 = k) (hk : k ≠ 99) : x < 286 := jl_kdl (jl_kd1 h) hk
theorem jl_kdw (c : Nat) : (jl_kd c).1 < 20 ∨ (jl_kd c).1 < 26 ∨ (jl_kd c).1 = 99 := by
  rcases Nat.lt_or_ge c 286 with q | q
  · exact (by decide +kernel : ∀ c, c < 286 → ((jl_kd c).1 < 20 ∨ (jl_kd c).1 < 26 ∨ (jl_kd c).1 = 99)) c q
  · rw [jl_kd_big q]; exact Or.inr (Or.inr rfl)
theorem jl_nlit {n : Int} (h : (decide (-2147483648 ≤ n) && decide (n < 2147483648)) = true) : jl_n3 n := by
  simp only [Bool.and_eq_true, decide_eq_true_eq] at h
  exact h
theorem jl_n36 {x : Int} (h : jl_n3 x) : jl_n6 x := ⟨by have := h.1; omega, by have := h.2; omega⟩
theorem jl_nz {x : Int} (h : x = 0 ∨ x = 1) : jl_n3 x := by rcases h with rfl | rfl <;> exact ⟨by decide, by decide⟩
theorem jl_n6lit {n : Int} (h : (decide (-9223372036854775808 ≤ n) && decide (n < 9223372036854775808)) = true) : jl_n6 n := by
  simp only [Bool.and_eq_true, decide_eq_true_eq] at h
  exact h

