/-! PURE, both: an hour -/
def ks_u (a : Nat → Int) (i : Nat) (v : Int) : Nat → Int := fun j => if j = i then v else a j
theorem ks_ue {a : Nat → Int} {i : Nat} {v : Int} : ks_u a i v i = v := if_pos rfl
theorem ks_un {a : Nat → Int} {i j : Nat} {v : Int} (h : j ≠ i) : ks_u a i v j = a j := if_neg h
theorem kr_A.up {a : Nat → Int} {s : jl_Mm} {i : Nat} {v : Int} (h : kr_A a s) (hv : jl_n3 v) : kr_A (ks_u a i v) (jl_up s 249 i v) := by
  intro j hj
  by_cases e : j = i
  · subst e; rw [ks_ue]; exact jp_g_eq hv.1 hv.2
  · rw [ks_un e, jp_g_nei e]; exact h j hj
theorem kr_A.cg {a b : Nat → Int} {s : jl_Mm} (h : kr_A a s) (e : ∀ j, j < 105 → a j = b j) : kr_A b s := fun j hj => (h j hj).trans (e j hj)
theorem kc_A.cg {P9 : Nat} {q : Nat} {a b : Nat → Int} {s : jl_Mm} (h : kc_A P9 q a s) (e : ∀ j, j < 24 → a j = b j) : kc_A P9 q b s := by
  obtain ⟨h0, h1, h2, h3, h4⟩ := h
  exact ⟨h0.trans (e 0 (by decide)), h1.trans (e 1 (by decide)), fun i hi => (h2 i hi).trans (e _ (by omega)), fun i hi => (h3 i hi).trans (e _ (by omega)), fun i hi => (h4 i hi).trans (e _ (by omega))⟩
theorem kc_A.up0 {P9 : Nat} {q : Nat} {a : Nat → Int} {s : jl_Mm} {v : Int} (h : kc_A P9 q a s) (hv : jl_n3 v) : kc_A P9 q (ks_u a 0 v) (jl_up s q 0 v) := by
  obtain ⟨h0, h1, h2, h3, h4⟩ := h
  refine ⟨(jp_g_eq hv.1 hv.2).trans ks_ue.symm, ?_, fun i hi => ?_, fun i hi => ?_, fun i hi => ?_⟩
  · rw [jp_g_nei (by decide), h1, ks_un (by decide)]
  · rw [jp_g_ne (by omega), h2 i hi, ks_un (by omega)]
  · rw [jp_g_ne (by omega), h3 i hi, ks_un (by omega)]
  · rw [jp_g_ne (by omega), h4 i hi, ks_un (by omega)]
theorem kc_A.up1 {P9 : Nat} {q : Nat} {a : Nat → Int} {s : jl_Mm} {v : Int} (h : kc_A P9 q a s) (hv : jl_n3 v) : kc_A P9 q (ks_u a 1 v) (jl_up s q 1 v) := by
  obtain ⟨h0, h1, h2, h3, h4⟩ := h
  refine ⟨?_, (jp_g_eq hv.1 hv.2).trans ks_ue.symm, fun i hi => ?_, fun i hi => ?_, fun i hi => ?_⟩
  · rw [jp_g_nei (by decide), h0, ks_un (by decide)]
  · rw [jp_g_ne (by omega), h2 i hi, ks_un (by omega)]
  · rw [jp_g_ne (by omega), h3 i hi, ks_un (by omega)]
  · rw [jp_g_ne (by omega), h4 i hi, ks_un (by omega)]
theorem kc_A.uph {P9 : Nat} {q : Nat} {a : Nat → Int} {s : jl_Mm} {v : Int} {p : Nat} (h : kc_A P9 q a s) (hp : p < 6) (hv : jl_n3 v) : kc_A P9 q (ks_u a (2 + p) v) (jl_up s (q + 1) p v) := by
  obtain ⟨h0, h1, h2, h3, h4⟩ := h
  refine ⟨?_, ?_, fun i hi => ?_, fun i hi => ?_, fun i hi => ?_⟩
  · rw [jp_g_ne (by omega), h0, ks_un (by omega)]
  · rw [jp_g_ne (by omega), h1, ks_un (by omega)]
  · by_cases e : i = p
    · subst e; rw [ks_ue]; exact jp_g_eq hv.1 hv.2
    · rw [jp_g_nei e, h2 i hi, ks_un (by omega)]
  · rw [jp_g_ne (by omega), h3 i hi, ks_un (by omega)]
  · rw [jp_g_ne (by omega), h4 i hi, ks_un (by omega)]
theorem kc_A.upc {P9 : Nat} {q : Nat} {a : Nat → Int} {s : jl_Mm} {v : Int} {l : Nat} (h : kc_A P9 q a s) (hl : l < 8) (hv : jl_n3 v) : kc_A P9 q (ks_u a (8 + l) v) (jl_up s (q + 2) l v) := by
  obtain ⟨h0, h1, h2, h3, h4⟩ := h
  refine ⟨?_, ?_, fun i hi => ?_, fun i hi => ?_, fun i hi => ?_⟩
  · rw [jp_g_ne (by omega), h0, ks_un (by omega)]
  · rw [jp_g_ne (by omega), h1, ks_un (by omega)]
  · rw [jp_g_ne (by omega), h2 i hi, ks_un (by omega)]
  · by_cases e : i = l
    · subst e; rw [ks_ue]; exact jp_g_eq hv.1 hv.2
    · rw [jp_g_nei e, h3 i hi, ks_un (by omega)]
  · rw [jp_g_ne (by omega), h4 i hi, ks_un (by omega)]
theorem kc_A.upt {P9 : Nat} {q : Nat} {a : Nat → Int} {s : jl_Mm} {v : Int} {l : Nat} (h : kc_A P9 q a s) (hl : l < 8) (hv : jl_n3 v) : kc_A P9 q (ks_u a (16 + l) v) (jl_up s (q + 3) l v) := by
  obtain ⟨h0, h1, h2, h3, h4⟩ := h
  refine ⟨?_, ?_, fun i hi => ?_, fun i hi => ?_, fun i hi => ?_⟩
  · rw [jp_g_ne (by omega), h0, ks_un (by omega)]
  · rw [jp_g_ne (by omega), h1, ks_un (by omega)]
  · rw [jp_g_ne (by omega), h2 i hi, ks_un (by omega)]
  · rw [jp_g_ne (by omega), h3 i hi, ks_un (by omega)]
  · by_cases e : i = l
    · subst e; rw [ks_ue]; exact jp_g_eq hv.1 hv.2
    · rw [jp_g_nei e, h4 i hi, ks_un (by omega)]
/-- the rows of the plan -/
def ks_pl (Z : jz_Z) (k : Nat) : Nat := (Z.2.1 7 k).toNat
def ks_plan1 (Z : jz_Z) (a : Nat → Int) (k : Nat) : Nat → Int :=
  if Z.2.1 8 k = a 0 ∧ a (8 + ks_pl Z k) = 0 ∧ Z.2.1 9 k ≤ a 1 then ks_u (ks_u a (8 + ks_pl Z k) (Z.2.1 9 k)) 1 (a 1 - Z.2.1 9 k) else a
def ks_plan (Z : jz_Z) (a : Nat → Int) : Nat → Nat → Int
  | 0 => a
  | n + 1 => ks_plan1 Z (ks_plan Z a n) n
/-- what burns of a LIE; which are OUT -/
def ks_kb (Z : jz_Z) (Ds : Nat → List Int) (p : Nat → Int) (l : Nat) : Int := if ks_val Z Ds p 1 l < 0 then 0 else if p (8 + l) < ks_val Z Ds p 1 l then p (8 + l) else ks_val Z Ds p 1 l
def ks_goneP (Z : jz_Z) (Ds : Nat → List Int) (p : Nat → Int) (l : Nat) : Bool := decide (0 < p (8 + l) ∧ p (8 + l) - ks_kb Z Ds p l = 0)
def ks_fire (Z : jz_Z) (Ds : Nat → List Int) (p : Nat → Int) : Nat → Nat → Int
  | 0 => p
  | n + 1 => if 0 < p (8 + n) then (if p (8 + n) - ks_kb Z Ds p n = 0 then ks_u (ks_u (ks_fire Z Ds p n) (8 + n) 0) (16 + n) 0 else ks_u (ks_u (ks_fire Z Ds p n) (8 + n) (p (8 + n) - ks_kb Z Ds p n)) (16 + n) (if p (16 + n) < 99 then p (16 + n) + 1 else p (16 + n))) else ks_fire Z Ds p n
def ks_hour (Z : jz_Z) (Ds : Nat → List Int) (a : Nat → Int) : Nat → Int := ks_u (ks_fire Z Ds (ks_plan Z a (ks_nr Z)) (ks_nl Z)) 0 (a 0 + 1)
def ks_hourC (Z : jz_Z) (Ds : Nat → List Int) (a : Nat → Int) : Nat → Int := ks_u (ks_fire Z Ds (ks_plan Z a (ks_nr Z)) (ks_nl Z)) 0 (if a 0 + 1 < 999 then a 0 + 1 else 999)
def ks_gone (Z : jz_Z) (Ds : Nat → List Int) (a : Nat → Int) : Nat → Bool := ks_goneP Z Ds (ks_plan Z a (ks_nr Z))
theorem ks_V.c {Z : jz_Z} {a : Nat → Int} {l : Nat} {c t : Int} (h : ks_V Z a) (hZ : kz_V Z) (hl : l < ks_nl Z) (hc : 0 ≤ c ∧ c ≤ 99) (ht : 0 ≤ t ∧ t ≤ 99) (hct : c = 0 → t = 0) : ks_V Z (ks_u (ks_u a (8 + l) c) (16 + l) t) := by
  have h8 := hZ.l
  have hp := hZ.p
  obtain ⟨h0, h1, h2, h3⟩ := h
  refine ⟨?_, ?_, fun p hp => ?_, fun k hk => ?_⟩
  · rw [ks_un (by omega), ks_un (by omega)]; exact h0
  · rw [ks_un (by omega), ks_un (by omega)]; exact h1
  · rw [ks_un (by omega), ks_un (by omega)]; exact h2 p hp
  · by_cases e : k = l
    · subst e
      rw [ks_ue, ks_un (by omega), ks_ue]
      exact ⟨hc, ht, hct, fun z => by omega⟩
    · rw [ks_un (by omega), ks_un (by omega), ks_un (by omega), ks_un (by omega)]
      exact h3 k hk
theorem ks_V.u1 {Z : jz_Z} {a : Nat → Int} {v : Int} (h : ks_V Z a) (hv : 0 ≤ v ∧ v ≤ 999) : ks_V Z (ks_u a 1 v) := by
  obtain ⟨h0, h1, h2, h3⟩ := h
  refine ⟨?_, ?_, fun p hp => ?_, fun k hk => ?_⟩
  · rw [ks_un (by omega)]; exact h0
  · rw [ks_ue]; exact hv
  · rw [ks_un (by omega)]; exact h2 p hp
  · rw [ks_un (by omega), ks_un (by omega)]; exact h3 k hk
theorem ks_V.u0 {Z : jz_Z} {a : Nat → Int} {v : Int} (h : ks_V Z a) (hv : 0 ≤ v ∧ v ≤ 2000) : ks_V Z (ks_u a 0 v) := by
  obtain ⟨h0, h1, h2, h3⟩ := h
  refine ⟨?_, ?_, fun p hp => ?_, fun k hk => ?_⟩
  · rw [ks_ue]; exact hv
  · rw [ks_un (by omega)]; exact h1
  · rw [ks_un (by omega)]; exact h2 p hp
  · rw [ks_un (by omega), ks_un (by omega)]; exact h3 k hk
theorem ks_V.cg {Z : jz_Z} {a b : Nat → Int} (h : ks_V Z a) (hZ : kz_V Z) (e : ∀ j, j < 24 → a j = b j) : ks_V Z b := by
  have hp := hZ.p
  obtain ⟨h0, h1, h2, h3⟩ := h
  refine ⟨?_, ?_, fun p hp => ?_, fun k hk => ?_⟩
  · rw [← e 0 (by decide)]; exact h0
  · rw [← e 1 (by decide)]; exact h1
  · rw [← e (2 + p) (by omega)]; exact h2 p hp
  · rw [← e (8 + k) (by omega), ← e (16 + k) (by omega)]; exact h3 k hk
theorem kz_V.pl {Z : jz_Z} (h : kz_V Z) {k : Nat} (hk : k < ks_nr Z) : Z.2.1 7 k = ((ks_pl Z k : Nat) : Int) ∧ ks_pl Z k < ks_nl Z ∧ (0 ≤ Z.2.1 8 k ∧ Z.2.1 8 k ≤ 999) ∧ (1 ≤ Z.2.1 9 k ∧ Z.2.1 9 k ≤ 99) := by
  have hr := h.r
  have hl := h.l
  have q := h.2.2.2.2.2.2.2.2 k (by omega)
  simp only [ks_pl]
  omega
theorem ks_plan1_V {Z : jz_Z} {a : Nat → Int} {k : Nat} (hZ : kz_V Z) (h : ks_V Z a) (hk : k < ks_nr Z) : ks_V Z (ks_plan1 Z a k) ∧ ks_plan1 Z a k 0 = a 0 ∧ ∀ j, 24 ≤ j → ks_plan1 Z a k j = a j := by
  obtain ⟨p1, p2, p3, p4⟩ := hZ.pl hk
  have h8 := hZ.l
  rw [ks_plan1]
  split
  · rename_i z
    have h1 := h.2.1
    have hc := h.2.2.2 (ks_pl Z k) (by omega)
    refine ⟨?_, ?_, fun j hj => ?_⟩
    · have q : ks_V Z (ks_u (ks_u (ks_u a (8 + ks_pl Z k) (Z.2.1 9 k)) (16 + ks_pl Z k) 0) 1 (a 1 - Z.2.1 9 k)) := (h.c hZ p2 (by omega) (by omega) (by omega)).u1 (by omega)
      refine q.cg hZ (fun j hj => ?_)
      by_cases e : j = 1
      · subst e; rw [ks_ue, ks_ue]
      · rw [ks_un e, ks_un e]
        by_cases e2 : j = 16 + ks_pl Z k
        · subst e2
          rw [ks_ue, ks_un (by omega)]
          exact (hc.2.2.1 z.2.1).symm
        · rw [ks_un e2]
    · rw [ks_un (by omega), ks_un (by omega)]
    · rw [ks_un (by omega), ks_un (by omega)]
  · exact ⟨h, rfl, fun _ _ => rfl⟩
theorem ks_plan_V {Z : jz_Z} {a : Nat → Int} (hZ : kz_V Z) (h : ks_V Z a) : ∀ n, n ≤ ks_nr Z → ks_V Z (ks_plan Z a n) ∧ ks_plan Z a n 0 = a 0 ∧ ∀ j, 24 ≤ j → ks_plan Z a n j = a j
  | 0, _ => ⟨h, rfl, fun _ _ => rfl⟩
  | n + 1, hn => by
    obtain ⟨i1, i2, i3⟩ := ks_plan_V hZ h n (by omega)
    obtain ⟨j1, j2, j3⟩ := ks_plan1_V hZ i1 (by omega : n < ks_nr Z)
    exact ⟨j1, j2.trans i2, fun j hj => (j3 j hj).trans (i3 j hj)⟩
theorem ks_fire_o {Z : jz_Z} {Ds : Nat → List Int} {p : Nat → Int} {j : Nat} : ∀ n, n ≤ 8 → (j < 8 ∨ (8 + n ≤ j ∧ j < 16) ∨ 16 + n ≤ j) → ks_fire Z Ds p n j = p j
  | 0, _, _ => rfl
  | n + 1, hn, h => by
    have ih := ks_fire_o (Z := Z) (Ds := Ds) (p := p) (j := j) n (by omega) (by omega)
    rw [ks_fire]
    split
    · split
      · rw [ks_un (by omega), ks_un (by omega)]; exact ih
      · rw [ks_un (by omega), ks_un (by omega)]; exact ih
    · exact ih
theorem ks_kb_b {Z : jz_Z} {Ds : Nat → List Int} {p : Nat → Int} {l : Nat} (h : 0 ≤ p (8 + l)) : 0 ≤ ks_kb Z Ds p l ∧ ks_kb Z Ds p l ≤ p (8 + l) := by
  rw [ks_kb]; split
  · omega
  · split <;> omega
theorem ks_fire_V {Z : jz_Z} {Ds : Nat → List Int} {p : Nat → Int} (hZ : kz_V Z) (h : ks_V Z p) : ∀ n, n ≤ ks_nl Z → ks_V Z (ks_fire Z Ds p n)
  | 0, _ => h
  | n + 1, hn => by
    have h8 := hZ.l
    have ih := ks_fire_V (Ds := Ds) hZ h n (by omega)
    have hb := h.2.2.2 n (by omega)
    have hk := ks_kb_b (Z := Z) (Ds := Ds) (p := p) (l := n) hb.1.1
    rw [ks_fire]
    split
    · split
      · exact ih.c hZ (by omega) (by omega) (by omega) (fun _ => rfl)
      · exact ih.c hZ (by omega) (by omega) (by split <;> omega) (fun z => by omega)
    · exact ih
theorem ks_hour_V {Z : jz_Z} {Ds : Nat → List Int} {a : Nat → Int} (hZ : kz_V Z) (h : ks_V Z a) (h0 : a 0 < 2000) : ks_V Z (ks_hour Z Ds a) := by
  obtain ⟨p1, p2, p3⟩ := ks_plan_V hZ h (ks_nr Z) (Nat.le_refl _)
  have := h.1
  exact (ks_fire_V (Ds := Ds) hZ p1 (ks_nl Z) (Nat.le_refl _)).u0 (by omega)
theorem ks_hourC_V {Z : jz_Z} {Ds : Nat → List Int} {a : Nat → Int} (hZ : kz_V Z) (h : ks_V Z a) : ks_V Z (ks_hourC Z Ds a) := by
  obtain ⟨p1, p2, p3⟩ := ks_plan_V hZ h (ks_nr Z) (Nat.le_refl _)
  have := h.1
  exact (ks_fire_V (Ds := Ds) hZ p1 (ks_nl Z) (Nat.le_refl _)).u0 (by split <;> omega)
theorem ks_hour_lo {Z : jz_Z} {Ds : Nat → List Int} {a : Nat → Int} (h : a 0 < 999) : ks_hourC Z Ds a = ks_hour Z Ds a := by
  rw [ks_hourC, ks_hour]
  congr 1
  split <;> omega
theorem ks_hour_hi {Z : jz_Z} {Ds : Nat → List Int} {a : Nat → Int} (hZ : kz_V Z) (h : ks_V Z a) {j : Nat} (hj : 24 ≤ j) : ks_hour Z Ds a j = a j := by
  have h8 := hZ.l
  rw [ks_hour, ks_un (by omega), ks_fire_o _ h8.2 (by omega)]
  exact (ks_plan_V hZ h (ks_nr Z) (Nat.le_refl _)).2.2 j hj
theorem ks_hour_home {Z : jz_Z} {Ds : Nat → List Int} {a : Nat → Int} (hZ : kz_V Z) : ∀ p, p < 6 → ks_hour Z Ds a (2 + p) = a (2 + p) := by
  intro p hp
  have h8 := hZ.l
  rw [ks_hour, ks_un (by omega), ks_fire_o _ h8.2 (by omega)]
  have : ∀ n, n ≤ ks_nr Z → ks_plan Z a n (2 + p) = a (2 + p) := by
    intro n
    induction n with
    | zero => intro _; rfl
    | succ n ih =>
      intro hn
      have q := (hZ.pl (by omega : n < ks_nr Z))
      rw [ks_plan, ks_plan1]
      split
      · rw [ks_un (by omega), ks_un (by omega)]; exact ih (by omega)
      · exact ih (by omega)
  exact this _ (Nat.le_refl _)
