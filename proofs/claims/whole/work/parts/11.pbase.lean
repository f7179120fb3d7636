/-! PURE: the answers as numbers. What follows knows nothing of the machine: it speaks of the functions jf_ alone. -/
theorem jp_bd (r : Int) (τ : jl_Mm) (k : Int → jl_Mm → jl_O) : jl_bd (some (r, τ)) k = k r τ := rfl
theorem jp_lm (σ : jl_Mm) (k : jl_Mm → jl_O) : jl_lm σ k = k σ := rfl
theorem jp_let (x : Int) (k : Int → jl_O) : jl_let x k = k x := rfl
theorem jp_zb0 (s : jl_Mm) : jl_zb 0 s = some (0, s) := rfl
theorem jp_zb1 (s : jl_Mm) : jl_zb 1 s = some (1, s) := rfl
theorem jp_zb {a : Int} (s : jl_Mm) (h : a = 0 ∨ a = 1) : jl_zb a s = some (a, s) := by rw [jl_zb, if_pos h]
theorem jp_add {a b : Int} (h1 : -2147483648 ≤ a + b) (h2 : a + b < 2147483648) : jl_add a b = a + b := by
  rw [jl_add, jl_i3, jl_i3, ← Int32.ofInt_add, Int32.toInt_ofInt_of_le h1 h2]
theorem jp_sub {a b : Int} (h1 : -2147483648 ≤ a - b) (h2 : a - b < 2147483648) : jl_sub a b = a - b := by
  rw [jl_sub, jl_i3, jl_i3, ← Int32.ofInt_sub, Int32.toInt_ofInt_of_le h1 h2]
theorem jp_mul {a b : Int} (h1 : -2147483648 ≤ a * b) (h2 : a * b < 2147483648) : jl_mul a b = a * b := by
  rw [jl_mul, jl_i3, jl_i3, ← Int32.ofInt_mul, Int32.toInt_ofInt_of_le h1 h2]
theorem jp_ladd {a b : Int} (h1 : -9223372036854775808 ≤ a + b) (h2 : a + b < 9223372036854775808) : jl_ladd a b = a + b := by
  rw [jl_ladd, jl_i6, jl_i6, ← Int64.ofInt_add, Int64.toInt_ofInt_of_le h1 h2]
theorem jp_lsub {a b : Int} (h1 : -9223372036854775808 ≤ a - b) (h2 : a - b < 9223372036854775808) : jl_lsub a b = a - b := by
  rw [jl_lsub, jl_i6, jl_i6, ← Int64.ofInt_sub, Int64.toInt_ofInt_of_le h1 h2]
theorem jp_lmul {a b : Int} (h1 : -9223372036854775808 ≤ a * b) (h2 : a * b < 9223372036854775808) : jl_lmul a b = a * b := by
  rw [jl_lmul, jl_i6, jl_i6, ← Int64.ofInt_mul, Int64.toInt_ofInt_of_le h1 h2]
/-- what is read is a number of one word -/
theorem jp_gn (s : jl_Mm) (c i : Nat) : jl_n3 (jl_g s c i) := jl_n3_to _
theorem jp_g_lo (s : jl_Mm) (c i : Nat) : -2147483648 ≤ jl_g s c i := (jp_gn s c i).1
theorem jp_g_hi (s : jl_Mm) (c i : Nat) : jl_g s c i < 2147483648 := (jp_gn s c i).2
theorem jp_g_eq {s : jl_Mm} {c i : Nat} {v : Int} (h1 : -2147483648 ≤ v) (h2 : v < 2147483648) : jl_g (jl_up s c i v) c i = v := by
  simp only [jl_g, jl_up, if_true]
  exact jl_to_i3 ⟨h1, h2⟩
theorem jp_g_eqg {s t : jl_Mm} {c i c' i' : Nat} : jl_g (jl_up s c i (jl_g t c' i')) c i = jl_g t c' i' := jp_g_eq (jp_g_lo _ _ _) (jp_g_hi _ _ _)
theorem jp_g_ne {s : jl_Mm} {c i c' i' : Nat} {v : Int} (h : c' ≠ c) : jl_g (jl_up s c i v) c' i' = jl_g s c' i' := by
  simp only [jl_g, jl_up, if_neg h]
theorem jp_g_nei {s : jl_Mm} {c i i' : Nat} {v : Int} (h : i' ≠ i) : jl_g (jl_up s c i v) c i' = jl_g s c i' := by
  simp only [jl_g, jl_up, if_true, if_neg h]
theorem jp_gl_ne {s : jl_Mm} {c i c' i' : Nat} {v : Int} (h : c' ≠ c) : jl_gl (jl_up s c i v) c' i' = jl_gl s c' i' := by
  simp only [jl_gl, jl_up, if_neg h]
theorem jp_gl_nei {s : jl_Mm} {c i i' : Nat} {v : Int} (h : i' ≠ i) : jl_gl (jl_up s c i v) c i' = jl_gl s c i' := by
  simp only [jl_gl, jl_up, if_true, if_neg h]
theorem jp_gl_eq {s : jl_Mm} {c i : Nat} {v : Int} (h1 : -9223372036854775808 ≤ v) (h2 : v < 9223372036854775808) : jl_gl (jl_up s c i v) c i = v := by
  simp only [jl_gl, jl_up, if_true]
  exact jl_to_i6 ⟨h1, h2⟩
theorem jp_r_ne {s : jl_Mm} {c i c' i' : Nat} {v : Int} (h : c' ≠ c) : jl_up s c i v c' i' = s c' i' := by
  simp only [jl_up, if_neg h]
theorem jp_r_nei {s : jl_Mm} {c i i' : Nat} {v : Int} (h : i' ≠ i) : jl_up s c i v c i' = s c i' := by
  simp only [jl_up, if_true, if_neg h]
theorem jp_r_eq {s : jl_Mm} {c i : Nat} {v : Int} : jl_up s c i v c i = v := by
  simp only [jl_up, if_true]
/-- places: (cell, from, to); to = 0: the whole cell -/
abbrev jp_F : Type := List (Nat × Nat × Nat)
def jp_in (F : jp_F) (c i : Nat) : Bool := F.any (fun q => q.1 == c && (q.2.2 == 0 || (decide (q.2.1 ≤ i) && decide (i < q.2.2))))
/-- nothing but the places F has changed -/
def jp_fr (F : jp_F) (s τ : jl_Mm) : Prop := ∀ c i, jp_in F c i = false → τ c i = s c i
theorem jp_fr.rf {F : jp_F} {s : jl_Mm} : jp_fr F s s := fun _ _ _ => rfl
theorem jp_in_sub {F E : jp_F} (h : (F.all fun q => E.contains q) = true) {c i : Nat} (hE : jp_in E c i = false) : jp_in F c i = false := by
  simp only [jp_in, List.any_eq_false] at hE ⊢
  intro q hq
  have := List.all_eq_true.mp h q hq
  exact hE q (by simpa using this)
theorem jp_fr.w {F E : jp_F} {s τ : jl_Mm} (h : (F.all fun q => E.contains q) = true) (f : jp_fr F s τ) : jp_fr E s τ := fun c i hE => f c i (jp_in_sub h hE)
theorem jp_fr.tr {F : jp_F} {s τ υ : jl_Mm} (f : jp_fr F s τ) (g : jp_fr F τ υ) : jp_fr F s υ := fun c i h => (g c i h).trans (f c i h)
theorem jp_fr.up {F : jp_F} {s τ : jl_Mm} {c i : Nat} {v : Int} (f : jp_fr F s τ) (h : jp_in F c i = true) : jp_fr F s (jl_up τ c i v) := by
  intro c' i' h'
  rw [← f c' i' h']
  by_cases hc : c' = c
  · subst hc
    by_cases hi : i' = i
    · subst hi; rw [h] at h'; cases h'
    · exact jp_r_nei hi
  · exact jp_r_ne hc
theorem jp_fr.g {F : jp_F} {s τ : jl_Mm} (f : jp_fr F s τ) (c i : Nat) (h : jp_in F c i = false) : jl_g τ c i = jl_g s c i := by
  simp only [jl_g, f c i h]
theorem jp_fr.gl {F : jp_F} {s τ : jl_Mm} (f : jp_fr F s τ) (c i : Nat) (h : jp_in F c i = false) : jl_gl τ c i = jl_gl s c i := by
  simp only [jl_gl, f c i h]
theorem jp_fr.gr {F : jp_F} {s τ : jl_Mm} (f : jp_fr F s τ) (c i : Nat) (h : jp_in F c i = false) : jl_gr τ c i = jl_gr s c i := by
  simp only [jl_gr, f c i h]
/-- it answers r, changes no more than F, and leaves Q -/
def jE (o : jl_O) (r : Int) (F : jp_F) (s : jl_Mm) (Q : jl_Mm → Prop) : Prop := ∃ τ, o = some (r, τ) ∧ jp_fr F s τ ∧ Q τ
theorem jE.ret {r : Int} {F : jp_F} {s : jl_Mm} {Q : jl_Mm → Prop} (h : Q s) : jE (some (r, s)) r F s Q := ⟨s, rfl, jp_fr.rf, h⟩
theorem jE.reti {r r' : Int} {F : jp_F} {s τ : jl_Mm} {Q : jl_Mm → Prop} (e : r' = r) (f : jp_fr F s τ) (h : Q τ) : jE (some (r', τ)) r F s Q := ⟨τ, by rw [e], f, h⟩
theorem jE.of {o : jl_O} {r : Int} {F : jp_F} {s τ : jl_Mm} {Q : jl_Mm → Prop} (e : o = some (r, τ)) (f : jp_fr F s τ) (h : Q τ) : jE o r F s Q := ⟨τ, e, f, h⟩
theorem jE.bd {o : jl_O} {k : Int → jl_Mm → jl_O} {r r' : Int} {F E : jp_F} {s : jl_Mm} {P Q : jl_Mm → Prop} (h : jE o r F s P) (w : (F.all fun q => E.contains q) = true) (g : ∀ τ, jp_fr F s τ → P τ → jE (k r τ) r' E τ Q) : jE (jl_bd o k) r' E s Q := by
  obtain ⟨τ, e, f, p⟩ := h
  obtain ⟨υ, e2, f2, q⟩ := g τ f p
  refine ⟨υ, ?_, (f.w w).tr f2, q⟩
  rw [e]
  exact e2
theorem jE.mono {o : jl_O} {r : Int} {F E : jp_F} {s : jl_Mm} {P Q : jl_Mm → Prop} (h : jE o r F s P) (w : (F.all fun q => E.contains q) = true) (g : ∀ τ, jp_fr F s τ → P τ → Q τ) : jE o r E s Q := by
  obtain ⟨τ, e, f, p⟩ := h
  exact ⟨τ, e, f.w w, g τ f p⟩
theorem jE.up {o : jl_O} {r : Int} {F : jp_F} {s : jl_Mm} {c i : Nat} {v : Int} {Q : jl_Mm → Prop} (h : jp_in F c i = true) (g : jE o r F (jl_up s c i v) Q) : jE o r F s Q := by
  obtain ⟨τ, e, f, q⟩ := g
  exact ⟨τ, e, (jp_fr.rf.up h).tr f, q⟩
theorem jE.eq {o o' : jl_O} {r : Int} {F : jp_F} {s : jl_Mm} {Q : jl_Mm → Prop} (e : o = o') (h : jE o' r F s Q) : jE o r F s Q := e ▸ h
theorem jE.fr {o : jl_O} {r : Int} {F : jp_F} {s s0 : jl_Mm} {Q : jl_Mm → Prop} (f : jp_fr F s0 s) (h : jE o r F s Q) : jE o r F s0 Q := by
  obtain ⟨τ, e, f2, q⟩ := h
  exact ⟨τ, e, f.tr f2, q⟩
theorem jE.lm {k : jl_Mm → jl_O} {r : Int} {F : jp_F} {s : jl_Mm} {c i : Nat} {v : Int} {Q : jl_Mm → Prop} (h : jp_in F c i = true) (g : jE (k (jl_up s c i v)) r F (jl_up s c i v) Q) : jE (jl_lm (jl_up s c i v) k) r F s Q := jE.up h g
theorem jp_i1 {p : Prop} [Decidable p] : ((if p then (1 : Int) else 0) = 0) ↔ ¬ p := by
  by_cases h : p <;> simp [h]
