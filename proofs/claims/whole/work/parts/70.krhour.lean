/-! PURE, the reference: an hour, a gust, what is kept -/
def ks_push (a : Nat → Int) (h l : Int) : Nat → Int :=
  if a 24 = 40 then (fun j => if j = 104 then l else if j = 103 then h else if 25 ≤ j ∧ j < 103 then a (j + 2) else a j)
  else (fun j => if (j : Int) = 26 + 2 * a 24 then l else if (j : Int) = 25 + 2 * a 24 then h else if j = 24 then a 24 + 1 else a j)
/-- all of a set kept (th: when it is thought only, none) -/
def ks_log (th : Bool) (a : Nat → Int) (h : Int) (p : Nat → Bool) : Nat → Nat → Int
  | 0 => a
  | n + 1 => if p n = true ∧ th = false then ks_push (ks_log th a h p n) h ((n : Nat) : Int) else ks_log th a h p n
def ks_mix (f g : Nat → Int) : Nat → Int := fun j => if j < 24 then f j else g j
theorem ks_mixL {f g : Nat → Int} {j : Nat} (h : j < 24) : ks_mix f g j = f j := if_pos h
theorem ks_mixH {f g : Nat → Int} {j : Nat} (h : 24 ≤ j) : ks_mix f g j = g j := if_neg (by omega)
theorem ks_push_lo {a : Nat → Int} {h l : Int} {j : Nat} (hj : j < 24) (hk : 0 ≤ a 24) : ks_push a h l j = a j := by
  rw [ks_push]; split
  · show (if j = 104 then l else if j = 103 then h else if 25 ≤ j ∧ j < 103 then a (j + 2) else a j) = a j
    rw [if_neg (by omega), if_neg (by omega), if_neg (by omega)]
  · show (if (j : Int) = 26 + 2 * a 24 then l else if (j : Int) = 25 + 2 * a 24 then h else if j = 24 then a 24 + 1 else a j) = a j
    rw [if_neg (by omega), if_neg (by omega), if_neg (by omega)]
theorem ks_push_24 {a : Nat → Int} {h l : Int} (hk : 0 ≤ a 24 ∧ a 24 ≤ 40) : ks_push a h l 24 = (if a 24 = 40 then 40 else a 24 + 1) := by
  rw [ks_push]; split
  · rename_i z
    show (if 24 = 104 then l else if 24 = 103 then h else if 25 ≤ 24 ∧ 24 < 103 then a (24 + 2) else a 24) = 40
    rw [if_neg (by decide), if_neg (by decide), if_neg (by decide), z]
  · show (if ((24 : Nat) : Int) = 26 + 2 * a 24 then l else if ((24 : Nat) : Int) = 25 + 2 * a 24 then h else if 24 = 24 then a 24 + 1 else a 24) = a 24 + 1
    rw [if_neg (by omega), if_neg (by omega), if_pos rfl]
theorem ks_log_24 {th : Bool} {a : Nat → Int} {h : Int} {p : Nat → Bool} (hk : 0 ≤ a 24 ∧ a 24 ≤ 40) : ∀ n, 0 ≤ ks_log th a h p n 24 ∧ ks_log th a h p n 24 ≤ 40
  | 0 => hk
  | n + 1 => by
    have ih := ks_log_24 (th := th) (h := h) (p := p) hk n
    rw [ks_log]; split
    · rw [ks_push_24 ih]; split <;> omega
    · exact ih
theorem ks_push_cg {a b : Nat → Int} {h l : Int} (e : ∀ j, 24 ≤ j → a j = b j) {j : Nat} (hj : 24 ≤ j) (hk : 0 ≤ a 24) : ks_push a h l j = ks_push b h l j := by
  have e24 := e 24 (by decide)
  rw [ks_push, ks_push, ← e24]
  split
  · show (if j = 104 then l else if j = 103 then h else if 25 ≤ j ∧ j < 103 then a (j + 2) else a j) = (if j = 104 then l else if j = 103 then h else if 25 ≤ j ∧ j < 103 then b (j + 2) else b j)
    rw [e j hj, e (j + 2) (by omega)]
  · show (if (j : Int) = 26 + 2 * a 24 then l else if (j : Int) = 25 + 2 * a 24 then h else if j = 24 then a 24 + 1 else a j) = (if (j : Int) = 26 + 2 * a 24 then l else if (j : Int) = 25 + 2 * a 24 then h else if j = 24 then a 24 + 1 else b j)
    rw [e j hj]
theorem kr_kept63 {a : Nat → Int} {l : Nat} {s : jl_Mm} {m : Nat} (hA : kr_A a s) (hm : a 24 = (m : Int)) (h1 : 1 ≤ m ∧ m ≤ 40) (h0 : jl_n3 (a 0)) (hl : l < 8) : ∃ τ, jf_X12_isKept_B63 (l : Int) s = some (0, τ) ∧ jp_fr [(249, 24, 105)] s τ ∧ kr_A (ks_u (ks_u a (23 + 2 * m) (a 0)) (24 + 2 * m) (l : Int)) τ := by
  have e : jl_sub (jl_add 25 (jl_mul 2 (m : Int))) 2 = ((23 + 2 * m : Nat) : Int) := by rw [jp_mul (by omega) (by omega), jp_add (by omega) (by omega), jp_sub (by omega) (by omega)]; omega
  have e2 : jl_add ((23 + 2 * m : Nat) : Int) 1 = ((24 + 2 * m : Nat) : Int) := by rw [jp_add (by omega) (by omega)]; omega
  rw [jf_X12_isKept_B63, show ((24 : Int) : Int).toNat = 24 from rfl, hA 24 (by decide), hm, e, jp_let, if_pos (by omega), Int.toNat_natCast, show ((0 : Int) : Int).toNat = 0 from rfl, hA 0 (by decide), jp_lm, e2, if_pos (by omega), Int.toNat_natCast, jp_lm]
  exact ⟨_, rfl, (jp_fr.rf.up (by simp [jp_in]; omega)).up (by simp [jp_in]; omega), (hA.up h0).up ⟨by omega, by omega⟩⟩
theorem kr_shift {a : Nat → Int} {l : Nat} {s : jl_Mm} (hA : kr_A a s) (hn : ∀ j, j < 105 → jl_n3 (a j)) : ∃ τ, jf_X12_isKept_L23 jl_fu (l : Int) 25 s = jf_X12_isKept_B63 (l : Int) τ ∧ jp_fr [(249, 24, 105)] s τ ∧ kr_A (fun j => if 25 ≤ j ∧ j < 103 then a (j + 2) else a j) τ := by
  have key := ku_for (α := jl_Mm) (G := fun n k τ => jf_X12_isKept_L23 n (l : Int) (((25 + k : Nat)) : Int) τ) (N := 78) (P := fun o => ∃ τ, o = jf_X12_isKept_B63 (l : Int) τ ∧ jp_fr [(249, 24, 105)] s τ ∧ kr_A (fun j => if 25 ≤ j ∧ j < 103 then a (j + 2) else a j) τ) (I := fun k τ => jp_fr [(249, 24, 105)] s τ ∧ kr_A (fun j => if 25 ≤ j ∧ j < 25 + k then a (j + 2) else a j) τ) (fun n k τ hk hI => ?_) (fun n τ hI => ?_) 78 0 jl_fu s rfl (by decide) ⟨jp_fr.rf, hA.cg (fun j hj => by rw [if_neg (by omega)])⟩
  · exact key
  · obtain ⟨hf, A⟩ := hI
    have e1 : jl_add ((25 + k : Nat) : Int) 2 = ((27 + k : Nat) : Int) := by rw [jp_add (by omega) (by omega)]; omega
    have e2 : jl_add ((25 + k : Nat) : Int) 1 = ((25 + (k + 1) : Nat) : Int) := by rw [jp_add (by omega) (by omega)]; omega
    have v : jl_g τ 249 (27 + k) = a (27 + k) := (A (27 + k) (by omega)).trans (if_neg (by omega))
    refine Or.inr ⟨jl_up τ 249 (25 + k) (a (27 + k)), ?_, hf.up (by simp [jp_in]; omega), (A.up (hn _ (by omega))).cg (fun j hj => ?_)⟩
    · show jf_X12_isKept_L23 (n + 1) (l : Int) ((25 + k : Nat) : Int) τ = jf_X12_isKept_L23 n (l : Int) ((25 + (k + 1) : Nat) : Int) _
      rw [jf_X12_isKept_L23, if_neg (by omega), e1, if_pos (by omega), if_pos (by omega), Int.toNat_natCast, Int.toNat_natCast, v, jp_lm, e2]
    · by_cases e : j = 25 + k
      · subst e
        rw [ks_ue, if_pos (by omega)]
        congr 1; omega
      · rw [ks_un e]
        by_cases z : 25 ≤ j ∧ j < 25 + k
        · rw [if_pos z, if_pos (by omega)]
        · rw [if_neg z, if_neg (by omega)]
  · obtain ⟨hf, A⟩ := hI
    refine ⟨τ, ?_, hf, A⟩
    show jf_X12_isKept_L23 (n + 1) (l : Int) ((25 + 78 : Nat) : Int) τ = _
    rw [jf_X12_isKept_L23, if_pos (by omega)]
theorem kr_kept {th : Bool} {a : Nat → Int} {l : Nat} {s : jl_Mm} (hA : kr_A a s) (h63 : jl_g s 206 63 = if th = true then 1 else 0) (hk : 0 ≤ a 24 ∧ a 24 ≤ 40) (hn : ∀ j, j < 105 → jl_n3 (a j)) (hl : l < 8) : ∃ τ, jf_X12_isKept (l : Int) s = some (0, τ) ∧ jp_fr [(249, 24, 105)] s τ ∧ kr_A (if th = true then a else ks_push a (a 0) (l : Int)) τ := by
  rw [jf_X12_isKept, h63]
  cases th with
  | true => rw [if_pos rfl, if_neg (by decide)]; exact ⟨s, rfl, jp_fr.rf, hA⟩
  | false =>
    rw [if_pos (by decide), show ((24 : Int) : Int).toNat = 24 from rfl, hA 24 (by decide)]
    show ∃ τ, _ ∧ _ ∧ kr_A (ks_push a (a 0) (l : Int)) τ
    by_cases z : a 24 = 40
    · rw [if_pos z]
      obtain ⟨τ, t1, t2, t3⟩ := kr_shift (l := l) hA hn
      rw [t1]
      obtain ⟨υ, u1, u2, u3⟩ := kr_kept63 (l := l) (m := 40) t3 (by rw [if_neg (by omega), z]; rfl) (by omega) (by rw [if_neg (by omega)]; exact hn 0 (by decide)) hl
      refine ⟨υ, u1, t2.tr u2, u3.cg (fun j hj => ?_)⟩
      rw [ks_push, if_pos z]
      show ks_u (ks_u _ 103 _) 104 _ j = if j = 104 then (l : Int) else if j = 103 then a 0 else if 25 ≤ j ∧ j < 103 then a (j + 2) else a j
      by_cases e : j = 104
      · subst e; rw [ks_ue, if_pos rfl]
      · rw [ks_un e, if_neg e]
        by_cases e2 : j = 103
        · subst e2; rw [ks_ue, if_pos rfl]; rfl
        · rw [ks_un e2, if_neg e2]
    · rw [if_neg z, jp_add (by omega) (by omega), jp_lm]
      obtain ⟨m, hm⟩ : ∃ m : Nat, a 24 = (m : Int) := ⟨(a 24).toNat, by omega⟩
      have A1 := hA.up (i := 24) (v := a 24 + 1) ⟨by omega, by omega⟩
      obtain ⟨υ, u1, u2, u3⟩ := kr_kept63 (l := l) (m := m + 1) A1 (by rw [ks_ue, hm]; rfl) (by omega) (by rw [ks_un (by decide)]; exact hn 0 (by decide)) hl
      rw [u1]
      refine ⟨υ, rfl, (jp_fr.rf.up (by simp [jp_in])).tr u2, u3.cg (fun j hj => ?_)⟩
      rw [ks_push, if_neg z]
      show _ = if (j : Int) = 26 + 2 * a 24 then (l : Int) else if (j : Int) = 25 + 2 * a 24 then a 0 else if j = 24 then a 24 + 1 else a j
      by_cases e : j = 24 + 2 * (m + 1)
      · subst e; rw [ks_ue, if_pos (by omega)]
      · rw [ks_un e, if_neg (by omega)]
        by_cases e2 : j = 23 + 2 * (m + 1)
        · subst e2; rw [ks_ue, if_pos (by omega), ks_un (by decide)]
        · rw [ks_un e2, if_neg (by omega)]
          by_cases e3 : j = 24
          · subst e3; rw [ks_ue, if_pos rfl]
          · rw [ks_un e3, if_neg e3]
