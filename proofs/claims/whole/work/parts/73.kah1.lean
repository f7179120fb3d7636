/-! PURE, both: later, held -/
theorem ku_for2 {α : Type} {G : Nat → Nat → α → jl_O} {N : Nat} {P : jl_O → Prop} {I : Nat → α → Prop} (step : ∀ n l x, l < N → N ≤ l + n → I l x → P (G (n + 1) l x) ∨ ∃ x', G (n + 1) l x = G n (l + 1) x' ∧ I (l + 1) x') (last : ∀ n x, I N x → P (G (n + 1) N x)) : ∀ m l n x, l + m = N → m < n → I l x → P (G n l x) := by
  intro m
  induction m with
  | zero =>
    intro l n x hl hn hI
    obtain ⟨n, rfl⟩ : ∃ j, n = j + 1 := ⟨n - 1, by omega⟩
    obtain rfl : l = N := by omega
    exact last n x hI
  | succ m ih =>
    intro l n x hl hn hI
    obtain ⟨n, rfl⟩ : ∃ j, n = j + 1 := ⟨n - 1, by omega⟩
    rcases step n l x (by omega) (by omega) hI with h | ⟨x', h1, h2⟩
    · exact h
    · rw [h1]
      exact ih (l + 1) n x' (by omega) (by omega) h2
/-- what stands: of both, of the class, of the reference -/
def kz_N (Z : jz_Z) (Ds : Nat → List Int) (a : Nat → Int) : Prop := ks_V Z a ∧ kz_K Z Ds ∧ a 0 ≤ 999 ∧ 0 ≤ a 24 ∧ a 24 ≤ 40
def kc_N (H : Nat) (Z : jz_Z) (Ds : Nat → List Int) (a : Nat → Int) (s : jl_Mm) : Prop := kc_W H Z s ∧ kc_K H Z Ds s ∧ kc_A (ks_np Z) 40 a s
def kr_N (Z : jz_Z) (Ds : Nat → List Int) (a : Nat → Int) (s : jl_Mm) : Prop := kr_W Z s ∧ kr_K Z Ds s ∧ kr_A a s ∧ jl_g s 206 63 = 0 ∧ jl_g s 206 54 = if 0 < ks_nw Z then 1 else 0
theorem kc_N.frA {H : Nat} {Z : jz_Z} {Ds : Nat → List Int} {a : Nat → Int} {s τ : jl_Mm} (h : kc_N H Z Ds a s) (f : jp_fr kc_FA s τ) : kc_N H Z Ds a τ := ⟨h.1.frA f, h.2.1.frA h.1.2.1 f, h.2.2.frA f⟩
theorem kr_FAn {c i : Nat} (h1 : c ≠ 284) (h2 : c = 206 → i ≠ 106 ∧ i ≠ 55 ∧ i ≠ 58 ∧ i ≠ 57 ∧ i ≠ 61 ∧ i ≠ 63) (h3 : c < 249 ∨ 252 < c) : jp_in kr_FA c i = false := by simp [jp_in, kr_FA]; omega
theorem kr_N.frA {Z : jz_Z} {Ds : Nat → List Int} {a : Nat → Int} {s τ : jl_Mm} (h : kr_N Z Ds a s) (f : jp_fr kr_FA s τ) (hA : kr_A a τ) (h63 : jl_g τ 206 63 = 0) : kr_N Z Ds a τ :=
  ⟨h.1.fr f (fun c i _ _ => kr_FAn (by omega) (by intro z; omega) (by omega)), h.2.1.fr f (fun c i _ _ => kr_FAn (by omega) (by intro z; omega) (by omega)), hA, h63, (f.g _ _ (by decide)).trans h.2.2.2.2⟩
/-- the end of every thought of the reference -/
theorem kr_end {Z : jz_Z} {Ds : Nat → List Int} {a b : Nat → Int} {s s' : jl_Mm} (hN : kr_N Z Ds a s) (f : jp_fr kr_FA s s') (h : kr_Th Z Ds a b s') (hb : ∀ j, 24 ≤ j → b j = a j) : ∃ τ, jf_X12_takesBack s' = some (0, τ) ∧ jp_fr kr_FA s τ ∧ kr_N Z Ds a τ := by
  obtain ⟨τ, t1, t2, t3, t4⟩ := kr_back h hb
  have ft : jp_fr kr_FA s τ := f.tr (t2.w (by decide))
  exact ⟨τ, t1, ft, hN.frA ft t3 t4⟩
def kp_later (Z : jz_Z) (Ds : Nat → List Int) (a : Nat → Int) (v n : Int) : Int := if (0 ≤ v ∧ v < ((ks_nl Z : Nat) : Int)) ∧ 0 ≤ n ∧ n ≤ 60 ∧ a 0 + n ≤ 999 then ks_hrs Z Ds a n.toNat (8 + v.toNat) else -1
theorem kc_later {H : Nat} {Z : jz_Z} {Ds : Nat → List Int} {a : Nat → Int} {s : jl_Mm} (hz : kz_N Z Ds a) (hN : kc_N H Z Ds a s) (v n : Int) : jE (jf_X11_later v n s) (kp_later Z Ds a v n) kc_FA s (fun _ => True) := by
  have hl := hN.1.1.l
  have hV0 := hz.1.1
  rw [jf_X11_later, hN.1.isL, jp_bd, kp_later]
  by_cases c : 0 ≤ v ∧ v < ((ks_nl Z : Nat) : Int)
  · rw [if_pos c, if_neg (by decide), kc_comes hN.2.2 hV0, jp_bd]
    by_cases d : 0 ≤ n ∧ n ≤ 60 ∧ a 0 + n ≤ 999
    · rw [if_pos d, if_neg (by decide), if_pos ⟨c, d⟩]
      obtain ⟨s1, r1, r2, r3⟩ := kc_restart hN.2.2
      have N1 := hN.frA r2
      obtain ⟨k, rfl⟩ : ∃ k : Nat, n = (k : Int) := ⟨n.toNat, by omega⟩
      obtain ⟨l, rfl⟩ : ∃ l : Nat, v = (l : Int) := ⟨v.toNat, by omega⟩
      rw [r1, jp_bd, if_pos kc_k196, Int.toNat_natCast, Int.toNat_natCast, show (196 : Int).toNat = 196 from rfl]
      refine jE.fr r2 ?_
      refine ku_for (α := jl_Mm) (G := fun m i τ => jf_X11_later_L35 m (l : Int) (k : Int) 196 ((i : Nat) : Int) τ) (N := k) (P := fun o => jE o (ks_hrs Z Ds a k (8 + l)) kc_FA s1 (fun _ => True)) (I := fun i τ => jp_fr kc_FA s1 τ ∧ kc_A (ks_np Z) 196 (ks_hrs Z Ds a i) τ) (fun m i τ hi hI => ?_) (fun m τ hI => ?_) k 0 jl_fu s1 (Nat.zero_add _) (by show k < 4000; omega) ⟨jp_fr.rf, r3⟩
      · obtain ⟨hf, A⟩ := hI
        obtain ⟨i1, i2, -⟩ := ks_hrs_V (Ds := Ds) hN.1.1 hz.1 i (by omega)
        obtain ⟨υ, u1, u2, u3⟩ := kc_passA (N1.1.frA hf) (N1.2.1.frA N1.1.2.1 hf) hz.2.1 i1 A (by omega)
        refine Or.inr ⟨υ, ?_, hf.tr u2, u3⟩
        show jf_X11_later_L35 (m + 1) (l : Int) (k : Int) 196 ((i : Nat) : Int) τ = jf_X11_later_L35 m (l : Int) (k : Int) 196 (((i + 1 : Nat)) : Int) υ
        rw [jf_X11_later_L35, if_neg (by omega), u1, jp_bd, jp_add (by omega) (by omega)]
        rfl
      · obtain ⟨hf, A⟩ := hI
        show jE (jf_X11_later_L35 (m + 1) (l : Int) (k : Int) 196 ((k : Nat) : Int) τ) _ _ _ _
        have e : jl_g τ 198 l = ks_hrs Z Ds a k (8 + l) := A.2.2.2.1 l (by omega)
        rw [jf_X11_later_L35, if_pos (Int.le_refl _), if_pos (by omega), Int.toNat_natCast, e]
        exact ⟨τ, rfl, hf, trivial⟩
    · rw [if_neg d, if_pos rfl, if_neg (fun q => d q.2)]
      exact jE.ret trivial
  · rw [if_neg c, if_pos rfl, if_neg (fun q => c q.1)]
    exact jE.ret trivial
theorem kr_later {Z : jz_Z} {Ds : Nat → List Int} {a : Nat → Int} {s : jl_Mm} (hz : kz_N Z Ds a) (hN : kr_N Z Ds a s) {v n : Int} (hv : jl_n3 v) (hn : jl_n3 n) : jE (jf_X12_later v n s) (kp_later Z Ds a v n) kr_FA s (kr_N Z Ds a) := by
  have hl := hN.1.1.l
  have hV0 := hz.1.1
  rw [jf_X12_later, hN.1.isL hv, jp_bd, kp_later]
  by_cases c : 0 ≤ v ∧ v < ((ks_nl Z : Nat) : Int)
  · have hnw := kz_nw (l := v.toNat) hN.1.1 hz.1 (by omega)
    rw [if_pos c, if_neg (by decide), kr_ahead hN.2.2.2.2 hN.2.2.1 ⟨hV0.1, hz.2.2.1⟩ hn (by decide) (by decide), jp_bd]
    by_cases d : 0 ≤ n ∧ n ≤ 60 ∧ a 0 + n ≤ 999
    · have e : (if 0 < ks_nw Z ∧ 0 ≤ n ∧ n ≤ 60 ∧ a 0 + n ≤ 999 then (1 : Int) else 0) = 1 := if_pos ⟨hnw, d⟩
      rw [e, if_neg (by decide), if_pos ⟨c, d⟩]
      obtain ⟨k, rfl⟩ : ∃ k : Nat, n = (k : Int) := ⟨n.toNat, by omega⟩
      obtain ⟨l, rfl⟩ : ∃ l : Nat, v = (l : Int) := ⟨v.toNat, by omega⟩
      obtain ⟨s1, p1, p2, p3⟩ := kr_aside hN.1 hN.2.1 hN.2.2.1
      obtain ⟨s2, q1, q2, q3⟩ := kr_hoursT (n := k) p3 hz.2.1 hz.1 hz.2.2.2 (by omega)
      obtain ⟨i1, i2, i3, -⟩ := ks_hrs_V (Ds := Ds) hN.1.1 hz.1 k (by omega)
      obtain ⟨s3, b1, b2, b3⟩ := kr_end hN (p2.tr (q2.w (by decide))) q3 i3
      have e8 : jl_add 8 (l : Int) = ((8 + l : Nat) : Int) := by rw [jp_add (by omega) (by omega)]; omega
      rw [p1, jp_bd, q1, jp_bd, e8, if_pos (by omega), Int.toNat_natCast, q3.2.2.1 _ (by omega), jp_let, b1, jp_bd, Int.toNat_natCast, Int.toNat_natCast]
      exact ⟨s3, rfl, b2, b3⟩
    · have e : (if 0 < ks_nw Z ∧ 0 ≤ n ∧ n ≤ 60 ∧ a 0 + n ≤ 999 then (1 : Int) else 0) = 0 := if_neg (fun q => d q.2)
      rw [e, if_pos rfl, if_neg (fun q => d q.2)]
      exact jE.ret hN
  · rw [if_neg c, if_pos rfl, if_neg (fun q => c q.1)]
    exact jE.ret hN
def kp_held (Z : jz_Z) (Ds : Nat → List Int) (a : Nat → Int) (v n : Int) : Int := if (0 ≤ v ∧ v < ((ks_nl Z : Nat) : Int)) ∧ 0 ≤ n ∧ n ≤ 60 ∧ a 0 + n ≤ 999 then (if ks_bel Z Ds (ks_hrs Z Ds a n.toNat) v.toNat = true then 1 else 0) else -1
theorem kc_held {H : Nat} {Z : jz_Z} {Ds : Nat → List Int} {a : Nat → Int} {s : jl_Mm} (hz : kz_N Z Ds a) (hN : kc_N H Z Ds a s) (v n : Int) : jE (jf_X11_held v n s) (kp_held Z Ds a v n) kc_FA s (fun _ => True) := by
  have hl := hN.1.1.l
  have hV0 := hz.1.1
  rw [jf_X11_held, hN.1.isL, jp_bd, kp_held]
  by_cases c : 0 ≤ v ∧ v < ((ks_nl Z : Nat) : Int)
  · rw [if_pos c, if_neg (by decide), kc_comes hN.2.2 hV0, jp_bd]
    by_cases d : 0 ≤ n ∧ n ≤ 60 ∧ a 0 + n ≤ 999
    · rw [if_pos d, if_neg (by decide), if_pos ⟨c, d⟩]
      obtain ⟨s1, r1, r2, r3⟩ := kc_restart hN.2.2
      have N1 := hN.frA r2
      obtain ⟨k, rfl⟩ : ∃ k : Nat, n = (k : Int) := ⟨n.toNat, by omega⟩
      obtain ⟨l, rfl⟩ : ∃ l : Nat, v = (l : Int) := ⟨v.toNat, by omega⟩
      obtain ⟨s2, b1, b2, -⟩ := kc_bb (n := k) N1.1 N1.2.1 hz.2.1 hz.1 r3 d.2.2
      rw [r1, jp_bd, if_pos kc_k196, b1, jp_bd, Int.toNat_natCast, Int.toNat_natCast, ks_belB, ku_b_bit _ (by omega) (by omega)]
      exact ⟨s2, rfl, r2.tr b2, trivial⟩
    · rw [if_neg d, if_pos rfl, if_neg (fun q => d q.2)]
      exact jE.ret trivial
  · rw [if_neg c, if_pos rfl, if_neg (fun q => c q.1)]
    exact jE.ret trivial
theorem kr_heldC {Z : jz_Z} {Ds : Nat → List Int} {a : Nat → Int} {s : jl_Mm} (hz : kz_N Z Ds a) (hN : kr_N Z Ds a s) {v n : Int} (hv : jl_n3 v) (hn : jl_n3 n) : jE (jf_X12_held v n s) (kp_held Z Ds a v n) kr_FA s (kr_N Z Ds a) := by
  have hl := hN.1.1.l
  have hV0 := hz.1.1
  rw [jf_X12_held, hN.1.isL hv, jp_bd, kp_held]
  by_cases c : 0 ≤ v ∧ v < ((ks_nl Z : Nat) : Int)
  · have hnw := kz_nw (l := v.toNat) hN.1.1 hz.1 (by omega)
    rw [if_pos c, if_neg (by decide), kr_ahead hN.2.2.2.2 hN.2.2.1 ⟨hV0.1, hz.2.2.1⟩ hn (by decide) (by decide), jp_bd]
    by_cases d : 0 ≤ n ∧ n ≤ 60 ∧ a 0 + n ≤ 999
    · have e : (if 0 < ks_nw Z ∧ 0 ≤ n ∧ n ≤ 60 ∧ a 0 + n ≤ 999 then (1 : Int) else 0) = 1 := if_pos ⟨hnw, d⟩
      rw [e, if_neg (by decide), if_pos ⟨c, d⟩]
      obtain ⟨k, rfl⟩ : ∃ k : Nat, n = (k : Int) := ⟨n.toNat, by omega⟩
      obtain ⟨l, rfl⟩ : ∃ l : Nat, v = (l : Int) := ⟨v.toNat, by omega⟩
      obtain ⟨s1, p1, p2, p3⟩ := kr_aside hN.1 hN.2.1 hN.2.2.1
      obtain ⟨s2, q1, q2, q3⟩ := kr_hoursT (n := k) p3 hz.2.1 hz.1 hz.2.2.2 (by omega)
      obtain ⟨i1, i2, i3, -⟩ := ks_hrs_V (Ds := Ds) hN.1.1 hz.1 k (by omega)
      obtain ⟨s4, h1, h2, h3⟩ := kr_isHeldT (l := l) q3 hz.2.1 i1 (by omega)
      obtain ⟨s3, b1, b2, b3⟩ := kr_end hN (p2.tr ((q2.w (by decide)).tr (h2.w (by decide)))) h3 i3
      rw [p1, jp_bd, q1, jp_bd, h1, jp_bd, b1, jp_bd, Int.toNat_natCast, Int.toNat_natCast]
      refine ⟨s3, ?_, b2, b3⟩
      by_cases z : ks_bel Z Ds (ks_hrs Z Ds a k) l = true
      · rw [if_pos z, if_neg (by decide)]; rfl
      · rw [if_neg z, if_pos rfl]; rfl
    · have e : (if 0 < ks_nw Z ∧ 0 ≤ n ∧ n ≤ 60 ∧ a 0 + n ≤ 999 then (1 : Int) else 0) = 0 := if_neg (fun q => d q.2)
      rw [e, if_pos rfl, if_neg (fun q => d q.2)]
      exact jE.ret hN
  · rw [if_neg c, if_pos rfl, if_neg (fun q => c q.1)]
    exact jE.ret hN
