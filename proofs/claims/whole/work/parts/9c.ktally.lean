/-! PURE: the most alike is the highest tally -/
theorem kt_tal_0 {Z : jz_Z} {Ds : Nat → List Int} {a : Nat → Int} {d : kD} {m l h i : Nat} {w x : Int} : 0 ≤ kt_tal Z Ds a d m l h w x i ∧ kt_tal Z Ds a d m l h w x i ≤ (i : Int) := ku_n_ge _ i
theorem kt_mst_le {Z : jz_Z} {Ds : Nat → List Int} {a : Nat → Int} {d : kD} {m l h : Nat} {w x : Int} : ∀ i, kt_tal Z Ds a d m l h w x i ≤ kt_mst Z Ds a d m l h w i
  | 0 => Int.le_refl _
  | i + 1 => by
    have ih := kt_mst_le (Z := Z) (Ds := Ds) (a := a) (d := d) (m := m) (l := l) (h := h) (w := w) (x := x) i
    rw [kt_mst]
    by_cases c : kt_fit Z Ds a d m l (i + 1) = true
    · rw [if_pos c]
      by_cases e : kt_way Z Ds a l h w i = x
      · rw [e]; split <;> omega
      · rw [kt_tal_S (x := x), if_neg (fun q => e q.2)]; split <;> omega
    · rw [if_neg c, kt_tal_S, if_neg (fun q => c q.1)]; exact ih
theorem kt_mst_ex {Z : jz_Z} {Ds : Nat → List Int} {a : Nat → Int} {d : kD} {m l h : Nat} {w : Int} (hZ : kz_V Z) : ∀ i, 0 ≤ kt_mst Z Ds a d m l h w i ∧ (kt_mst Z Ds a d m l h w i = 0 ∨ ∃ x : Nat, x < 9 ∧ kt_tal Z Ds a d m l h w (x : Int) i = kt_mst Z Ds a d m l h w i)
  | 0 => ⟨Int.le_refl _, Or.inl rfl⟩
  | i + 1 => by
    obtain ⟨p, q⟩ := kt_mst_ex (Ds := Ds) (a := a) (d := d) (m := m) (l := l) (h := h) (w := w) hZ i
    have keep : ∀ v, kt_mst Z Ds a d m l h w (i + 1) = v → v = kt_mst Z Ds a d m l h w i → 0 ≤ v ∧ (v = 0 ∨ ∃ x : Nat, x < 9 ∧ kt_tal Z Ds a d m l h w (x : Int) (i + 1) = v) := by
      intro v e1 e2
      refine ⟨by omega, ?_⟩
      rcases q with q | ⟨x, x1, x2⟩
      · left; omega
      · right
        refine ⟨x, x1, ?_⟩
        have le := kt_mst_le (Z := Z) (Ds := Ds) (a := a) (d := d) (m := m) (l := l) (h := h) (w := w) (x := (x : Int)) (i + 1)
        have ge : kt_tal Z Ds a d m l h w (x : Int) i ≤ kt_tal Z Ds a d m l h w (x : Int) (i + 1) := by rw [kt_tal_S]; split <;> omega
        omega
    have ib : 0 ≤ kt_way Z Ds a l h w i ∧ kt_way Z Ds a l h w i ≤ 8 := ks_in_b hZ
    by_cases c : kt_fit Z Ds a d m l (i + 1) = true
    · by_cases e : kt_tal Z Ds a d m l h w (kt_way Z Ds a l h w i) (i + 1) ≤ kt_mst Z Ds a d m l h w i
      · exact keep _ rfl (by rw [kt_mst, if_pos c, if_pos e])
      · have ee : kt_mst Z Ds a d m l h w (i + 1) = kt_tal Z Ds a d m l h w (kt_way Z Ds a l h w i) (i + 1) := by rw [kt_mst, if_pos c, if_neg e]
        rw [ee]
        refine ⟨kt_tal_0.1, Or.inr ⟨(kt_way Z Ds a l h w i).toNat, by omega, ?_⟩⟩
        rw [show (((kt_way Z Ds a l h w i).toNat : Nat) : Int) = kt_way Z Ds a l h w i by omega]
    · exact keep _ rfl (by rw [kt_mst, if_neg c])
/-- the highest of the first tallies -/
def kt_mx (Z : jz_Z) (Ds : Nat → List Int) (a : Nat → Int) (d : kD) (m l h : Nat) (w : Int) (i : Nat) : Nat → Int
  | 0 => 0
  | x + 1 => if kt_mx Z Ds a d m l h w i x < kt_tal Z Ds a d m l h w (x : Int) i then kt_tal Z Ds a d m l h w (x : Int) i else kt_mx Z Ds a d m l h w i x
theorem kt_mx_b {Z : jz_Z} {Ds : Nat → List Int} {a : Nat → Int} {d : kD} {m l h i : Nat} {w : Int} : ∀ n, (0 ≤ kt_mx Z Ds a d m l h w i n) ∧ (kt_mx Z Ds a d m l h w i n ≤ kt_mst Z Ds a d m l h w i) ∧ ∀ x : Nat, x < n → kt_tal Z Ds a d m l h w (x : Int) i ≤ kt_mx Z Ds a d m l h w i n
  | 0 => by
    have := kt_mst_le (Z := Z) (Ds := Ds) (a := a) (d := d) (m := m) (l := l) (h := h) (w := w) (x := 0) i
    have := (kt_tal_0 (Z := Z) (Ds := Ds) (a := a) (d := d) (m := m) (l := l) (h := h) (w := w) (x := 0) (i := i)).1
    exact ⟨Int.le_refl _, by show (0 : Int) ≤ _; omega, fun x hx => by omega⟩
  | n + 1 => by
    obtain ⟨p, q, r⟩ := kt_mx_b (Z := Z) (Ds := Ds) (a := a) (d := d) (m := m) (l := l) (h := h) (i := i) (w := w) n
    have le := kt_mst_le (Z := Z) (Ds := Ds) (a := a) (d := d) (m := m) (l := l) (h := h) (w := w) (x := (n : Int)) i
    rw [kt_mx]
    split
    · refine ⟨by omega, le, fun x hx => ?_⟩
      by_cases c : x = n
      · subst c; exact Int.le_refl _
      · have := r x (by omega); omega
    · refine ⟨p, q, fun x hx => ?_⟩
      by_cases c : x = n
      · subst c; omega
      · exact r x (by omega)
theorem kt_mx9 {Z : jz_Z} {Ds : Nat → List Int} {a : Nat → Int} {d : kD} {m l h i : Nat} {w : Int} (hZ : kz_V Z) : kt_mx Z Ds a d m l h w i 9 = kt_mst Z Ds a d m l h w i := by
  obtain ⟨p, q, r⟩ := kt_mx_b (Z := Z) (Ds := Ds) (a := a) (d := d) (m := m) (l := l) (h := h) (i := i) (w := w) 9
  rcases (kt_mst_ex (Ds := Ds) (a := a) (d := d) (m := m) (l := l) (h := h) (w := w) hZ i).2 with e | ⟨x, x1, x2⟩
  · omega
  · have := r x x1; omega
