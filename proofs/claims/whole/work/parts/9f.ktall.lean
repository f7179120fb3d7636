/-! PURE, the class: the tallies of all lengths. Cell 54 h + 9 p + x: how many of the lengths show x in hour h + 1 where person p lives -/
def kt_Y (Z : jz_Z) (Ds : Nat → List Int) (a : Nat → Int) (d : kD) (m l r : Nat) (f : Nat → Nat → Nat) (s : jl_Mm) : Prop :=
  ∀ h p x : Nat, h < r → p < ks_np Z → x < 9 → jl_g s 203 (54 * h + 9 * p + x) = kt_tal Z Ds a d m l (h + 1) (a (2 + p)) (x : Int) (f h p)
theorem kt_Y.fr {Z : jz_Z} {Ds : Nat → List Int} {a : Nat → Int} {d : kD} {m l r : Nat} {f : Nat → Nat → Nat} {s τ : jl_Mm} {F : jp_F} (h : kt_Y Z Ds a d m l r f s) (w : jp_fr F s τ) (n : ∀ i, jp_in F 203 i = false) : kt_Y Z Ds a d m l r f τ :=
  fun g p x h1 h2 h3 => (w.g _ _ (n _)).trans (h g p x h1 h2 h3)
theorem kt_Y.cg {Z : jz_Z} {Ds : Nat → List Int} {a : Nat → Int} {d : kD} {m l r : Nat} {f g : Nat → Nat → Nat} {s : jl_Mm} (h : kt_Y Z Ds a d m l r f s) (e : ∀ x p, x < r → p < ks_np Z → f x p = g x p) : kt_Y Z Ds a d m l r g s := by
  intro x p y h1 h2 h3
  rw [← e x p h1 h2]; exact h x p y h1 h2 h3
theorem kt_tal_eq {Z : jz_Z} {Ds : Nat → List Int} {a : Nat → Int} {d : kD} {m l h i : Nat} {w x : Int} : ∀ k, kt_cnt Z Ds a d m l (i + k) = kt_cnt Z Ds a d m l i → kt_tal Z Ds a d m l h w x (i + k) = kt_tal Z Ds a d m l h w x i
  | 0, _ => rfl
  | k + 1, e => by
    have ge : ∀ q, kt_cnt Z Ds a d m l i ≤ kt_cnt Z Ds a d m l (i + q) := by
      intro q
      induction q with
      | zero => exact Int.le_refl _
      | succ q ih => rw [← Nat.add_assoc, kt_cnt_S]; split <;> omega
    have g := ge k
    rw [← Nat.add_assoc, kt_cnt_S] at e
    by_cases c : kt_fit Z Ds a d m l (i + k + 1) = true
    · rw [if_pos c] at e; omega
    · rw [if_neg c] at e
      rw [← Nat.add_assoc, kt_tal_S, if_neg (fun q => c q.1)]
      exact kt_tal_eq k e
def kc_FYt : jp_F := [(196, 0, 0), (197, 0, 0), (198, 0, 0), (199, 0, 0), (191, 0, 0), (192, 0, 0), (193, 0, 0), (203, 0, 0)]
theorem kc_FYtn {c i : Nat} (h : c < 191 ∨ 199 < c) (h2 : c ≠ 203) : jp_in kc_FYt c i = false := by simp [jp_in, kc_FYt]; omega
theorem kc_N.frY {H : Nat} {Z : jz_Z} {Ds : Nat → List Int} {a : Nat → Int} {s τ : jl_Mm} (h : kc_N H Z Ds a s) (f : jp_fr kc_FYt s τ) : kc_N H Z Ds a τ := ⟨h.1.fr f (by decide) (by decide) (fun c i _ _ => kc_FYtn (by omega) (by omega)), h.2.1.fr h.1.2.1 f (fun c i _ _ => kc_FYtn (by omega) (by omega)), h.2.2.fr f (kc_FYtn (by omega) (by omega)) (kc_FYtn (by omega) (by omega)) (fun c i _ _ => kc_FYtn (by omega) (by omega))⟩
theorem kc_tallyFrom {n p : Nat} {s : jl_Mm} (hn : n < 30) (hp : p < 6) : jf_X6_tallyFrom ((n + 1 : Nat) : Int) ((p : Nat) : Int) s = some (((54 * n + 9 * p : Nat) : Int), s) := by
  have e1 : jl_sub ((n + 1 : Nat) : Int) 1 = ((n : Nat) : Int) := by rw [jp_sub (by omega) (by omega)]; omega
  have e2 : jl_mul ((n : Nat) : Int) 6 = ((6 * n : Nat) : Int) := by rw [jp_mul (by omega) (by omega)]; omega
  have e3 : jl_add ((6 * n : Nat) : Int) ((p : Nat) : Int) = ((6 * n + p : Nat) : Int) := by rw [jp_add (by omega) (by omega)]; omega
  have e4 : jl_mul ((6 * n + p : Nat) : Int) 9 = ((54 * n + 9 * p : Nat) : Int) := by rw [jp_mul (by omega) (by omega)]; omega
  rw [jf_X6_tallyFrom, e1, e2, e3, e4]
theorem kc_tal93 {H l j n r m : Nat} {v4 : Int} {Z : jz_Z} {Ds : Nat → List Int} {a : Nat → Int} {d : kD} {s : jl_Mm} {R41 : Int → Int → Int → Int → jl_Mm → jl_O} {R72 : Int → Int → Int → Int → Int → jl_Mm → jl_O} (hN : kc_N H Z Ds a s) (hV : kz_N Z Ds a) (hl : l < ks_nl Z) (hr : r ≤ 30) (hn : n < r) (hj : j < 99) (hf : kt_fit Z Ds a d m l (j + 1) = true)
    (hB : kc_A (ks_np Z) 196 (ks_hrs Z Ds (ks_u a (8 + l) ((j + 1 : Nat) : Int)) (n + 1)) s) (hY : kt_Y Z Ds a d m l r (fun h _ => if h < n then j + 1 else j) s) :
    ∃ τ, jf_X6_tallyAll_L93 R41 R72 jl_fu (l : Int) (r : Int) ((ks_np Z : Nat) : Int) v4 ((n + 1 : Nat) : Int) 0 s = R72 (l : Int) (r : Int) ((ks_np Z : Nat) : Int) v4 ((n + 2 : Nat) : Int) τ ∧ jp_fr [(203, 0, 0)] s τ ∧ kt_Y Z Ds a d m l r (fun h _ => if h < n + 1 then j + 1 else j) τ := by
  have h6 := hN.1.1.p
  have h9 := hV.2.2.1
  have e0 : ks_u a (8 + l) ((j + 1 : Nat) : Int) 0 = a 0 := ks_un (by omega)
  have hv := (ks_hrs_V (Ds := Ds) hN.1.1 (hV.1.u8 (l := l) (v := ((j + 1 : Nat) : Int)) hN.1.1 hl (by omega)) (n + 1) (by omega)).2.2.2
  have n1 : ∀ {c i : Nat}, c ≠ 203 → jp_in [(203, 0, 0)] c i = false := by intro c i h; simp [jp_in]; omega
  refine ku_for (α := jl_Mm) (G := fun g p τ => jf_X6_tallyAll_L93 R41 R72 g (l : Int) (r : Int) ((ks_np Z : Nat) : Int) v4 ((n + 1 : Nat) : Int) ((p : Nat) : Int) τ) (N := ks_np Z) (P := fun o => ∃ τ, o = R72 (l : Int) (r : Int) ((ks_np Z : Nat) : Int) v4 ((n + 2 : Nat) : Int) τ ∧ jp_fr [(203, 0, 0)] s τ ∧ kt_Y Z Ds a d m l r (fun h _ => if h < n + 1 then j + 1 else j) τ)
    (I := fun p τ => jp_fr [(203, 0, 0)] s τ ∧ kt_Y Z Ds a d m l r (fun h q => if h < n ∨ (h = n ∧ q < p) then j + 1 else j) τ) (fun g p τ hp hI => Or.inr ?_) (fun g τ hI => ?_) (ks_np Z) 0 jl_fu s (Nat.zero_add _) (by show ks_np Z < 4000; omega) ⟨jp_fr.rf, hY.cg (fun x p _ _ => ?_)⟩
  · obtain ⟨fI, yI⟩ := hI
    have W : kc_W H Z τ := hN.1.fr fI (n1 (by decide)) (n1 (by decide)) (fun c i _ _ => n1 (by omega))
    have B : kc_A (ks_np Z) 196 (ks_hrs Z Ds (ks_u a (8 + l) ((j + 1 : Nat) : Int)) (n + 1)) τ := hB.fr fI (n1 (by decide)) (n1 (by decide)) (fun c i _ _ => n1 (by omega))
    have eh : jl_g τ 197 p = a (2 + p) := by rw [B.2.2.1 p (by omega), hv p (by omega), ks_un (by omega)]
    have ib : 0 ≤ kt_way Z Ds a l (n + 1) (a (2 + p)) j ∧ kt_way Z Ds a l (n + 1) (a (2 + p)) j ≤ 8 := ks_in_b W.1
    obtain ⟨x, hx⟩ : ∃ x : Nat, kt_way Z Ds a l (n + 1) (a (2 + p)) j = (x : Int) := ⟨(kt_way Z Ds a l (n + 1) (a (2 + p)) j).toNat, by omega⟩
    have ei : ks_in Z (ks_hrs Z Ds (ks_u a (8 + l) ((j + 1 : Nat) : Int)) (n + 1)) (a (2 + p)) = (x : Int) := hx
    have ex : jl_add ((54 * n + 9 * p : Nat) : Int) (x : Int) = ((54 * n + 9 * p + x : Nat) : Int) := by rw [jp_add (by omega) (by omega)]; omega
    have ea : jl_add (p : Int) 1 = ((p + 1 : Nat) : Int) := by rw [jp_add (by omega) (by omega)]; omega
    have tb := kt_tal_0 (Z := Z) (Ds := Ds) (a := a) (d := d) (m := m) (l := l) (h := n + 1) (w := a (2 + p)) (x := (x : Int)) (i := j)
    have ev : jl_g τ 203 (54 * n + 9 * p + x) = kt_tal Z Ds a d m l (n + 1) (a (2 + p)) (x : Int) j := by
      have q : (if n < n ∨ (n = n ∧ p < p) then j + 1 else j) = j := if_neg (by omega)
      refine (yI n p x hn hp (by omega)).trans ?_
      show kt_tal Z Ds a d m l (n + 1) (a (2 + p)) (x : Int) (if n < n ∨ (n = n ∧ p < p) then j + 1 else j) = _
      rw [q]
    have e1 : kt_tal Z Ds a d m l (n + 1) (a (2 + p)) (x : Int) (j + 1) = kt_tal Z Ds a d m l (n + 1) (a (2 + p)) (x : Int) j + 1 := by rw [kt_tal_S, if_pos ⟨hf, hx⟩]
    refine ⟨jl_up τ 203 (54 * n + 9 * p + x) (kt_tal Z Ds a d m l (n + 1) (a (2 + p)) (x : Int) j + 1), ?_, fI.up (by simp [jp_in]), fun h q y hh hq hy => ?_⟩
    · show jf_X6_tallyAll_L93 R41 R72 (g + 1) (l : Int) (r : Int) ((ks_np Z : Nat) : Int) v4 ((n + 1 : Nat) : Int) (p : Int) τ = jf_X6_tallyAll_L93 R41 R72 g (l : Int) (r : Int) ((ks_np Z : Nat) : Int) v4 ((n + 1 : Nat) : Int) ((p + 1 : Nat) : Int) _
      rw [jf_X6_tallyAll_L93, if_neg (by omega), kc_tallyFrom (by omega) (by omega), jp_bd, if_pos (by omega), Int.toNat_natCast, eh, kc_in (Or.inr rfl) W B, jp_bd, ei, ex, if_pos (by omega), if_pos (by omega), Int.toNat_natCast, ev, jp_add (a := kt_tal Z Ds a d m l (n + 1) (a (2 + p)) (x : Int) j) (by omega) (by omega), jp_lm, ea]
    · by_cases c : h = n ∧ q = p
      · obtain ⟨rfl, rfl⟩ := c
        have z1 : (if h < h ∨ (h = h ∧ q < q + 1) then j + 1 else j) = j + 1 := if_pos (by omega)
        have z2 : (if h < h ∨ (h = h ∧ q < q) then j + 1 else j) = j := if_neg (by omega)
        show _ = kt_tal Z Ds a d m l (h + 1) (a (2 + q)) (y : Int) (if h < h ∨ (h = h ∧ q < q + 1) then j + 1 else j)
        rw [z1]
        by_cases cy : y = x
        · subst cy; rw [jp_g_eq (by omega) (by omega), e1]
        · rw [jp_g_nei (by omega), kt_tal_S, if_neg (fun z => by have := z.2; omega)]
          refine (yI h q y hh hq hy).trans ?_
          show kt_tal Z Ds a d m l (h + 1) (a (2 + q)) (y : Int) (if h < h ∨ (h = h ∧ q < q) then j + 1 else j) = _
          rw [z2]
      · rw [jp_g_nei (by omega)]
        refine (yI h q y hh hq hy).trans ?_
        show kt_tal Z Ds a d m l (h + 1) (a (2 + q)) (y : Int) (if h < n ∨ (h = n ∧ q < p) then j + 1 else j) = kt_tal Z Ds a d m l (h + 1) (a (2 + q)) (y : Int) (if h < n ∨ (h = n ∧ q < p + 1) then j + 1 else j)
        by_cases c2 : h < n ∨ (h = n ∧ q < p)
        · rw [if_pos c2, if_pos (by omega)]
        · rw [if_neg c2, if_neg (by omega)]
  · obtain ⟨fI, yI⟩ := hI
    have ea : jl_add ((n + 1 : Nat) : Int) 1 = ((n + 2 : Nat) : Int) := by rw [jp_add (by omega) (by omega)]; omega
    refine ⟨τ, ?_, fI, yI.cg (fun x q _ hq => ?_)⟩
    · show jf_X6_tallyAll_L93 R41 R72 (g + 1) (l : Int) (r : Int) ((ks_np Z : Nat) : Int) v4 ((n + 1 : Nat) : Int) ((ks_np Z : Nat) : Int) τ = _
      rw [jf_X6_tallyAll_L93, if_pos (Int.le_refl _), ea]
    · show (if x < n ∨ (x = n ∧ q < ks_np Z) then j + 1 else j) = if x < n + 1 then j + 1 else j
      by_cases c : x < n + 1
      · rw [if_pos c, if_pos (by omega)]
      · rw [if_neg c, if_neg (by omega)]
  · show (if x < n then j + 1 else j) = if x < n ∨ (x = n ∧ p < 0) then j + 1 else j
    by_cases c : x < n
    · rw [if_pos c, if_pos (Or.inl c)]
    · rw [if_neg c, if_neg (by omega)]
theorem kc_FA_Yt {s τ : jl_Mm} (f : jp_fr kc_FA s τ) : jp_fr kc_FYt s τ := f.w (by decide)
theorem kc_tal72 {H l j r m : Nat} {v4 : Int} {Z : jz_Z} {Ds : Nat → List Int} {a : Nat → Int} {d : kD} {s : jl_Mm} {R41 : Int → Int → Int → Int → jl_Mm → jl_O} (hN : kc_N H Z Ds a s) (hV : kz_N Z Ds a) (hl : l < ks_nl Z) (hr : r ≤ 30) (h9 : a 0 + (r : Int) ≤ 999) (hj : j < 99) (hf : kt_fit Z Ds a d m l (j + 1) = true)
    (hB : kc_A (ks_np Z) 196 (ks_u a (8 + l) ((j + 1 : Nat) : Int)) s) (hY : kt_Y Z Ds a d m l r (fun _ _ => j) s) :
    ∃ τ, jf_X6_tallyAll_L72 R41 jl_fu (l : Int) (r : Int) ((ks_np Z : Nat) : Int) v4 1 s = R41 (l : Int) (r : Int) ((ks_np Z : Nat) : Int) (jl_add v4 1) τ ∧ jp_fr kc_FYt s τ ∧ kc_A (ks_np Z) 196 (ks_hrs Z Ds (ks_u a (8 + l) ((j + 1 : Nat) : Int)) r) τ ∧ kt_Y Z Ds a d m l r (fun _ _ => j + 1) τ := by
  have e0 : ks_u a (8 + l) ((j + 1 : Nat) : Int) 0 = a 0 := ks_un (by omega)
  have n1 : ∀ {c i : Nat}, c ≠ 203 → jp_in [(203, 0, 0)] c i = false := by intro c i h; simp [jp_in]; omega
  refine ku_for (α := jl_Mm) (G := fun g n τ => jf_X6_tallyAll_L72 R41 g (l : Int) (r : Int) ((ks_np Z : Nat) : Int) v4 ((n + 1 : Nat) : Int) τ) (N := r) (P := fun o => ∃ τ, o = R41 (l : Int) (r : Int) ((ks_np Z : Nat) : Int) (jl_add v4 1) τ ∧ jp_fr kc_FYt s τ ∧ kc_A (ks_np Z) 196 (ks_hrs Z Ds (ks_u a (8 + l) ((j + 1 : Nat) : Int)) r) τ ∧ kt_Y Z Ds a d m l r (fun _ _ => j + 1) τ)
    (I := fun n τ => jp_fr kc_FYt s τ ∧ kc_A (ks_np Z) 196 (ks_hrs Z Ds (ks_u a (8 + l) ((j + 1 : Nat) : Int)) n) τ ∧ kt_Y Z Ds a d m l r (fun h _ => if h < n then j + 1 else j) τ) (fun g n τ hn hI => Or.inr ?_) (fun g τ hI => ?_) r 0 jl_fu s (Nat.zero_add _) (by show r < 4000; omega) ⟨jp_fr.rf, hB, hY.cg (fun x p _ _ => (if_neg (Nat.not_lt_zero x)).symm)⟩
  · obtain ⟨fI, B, yI⟩ := hI
    have N := hN.frY fI
    have hv := ks_hrs_V (Ds := Ds) N.1.1 (hV.1.u8 (l := l) (v := ((j + 1 : Nat) : Int)) N.1.1 hl (by omega)) n (by omega)
    obtain ⟨υ, u1, u2, u3⟩ := kc_passA N.1 N.2.1 hV.2.1 hv.1 B (by rw [hv.2.1]; omega)
    obtain ⟨φ, p1, p2, p3⟩ := kc_tal93 (v4 := v4) (R41 := R41) (R72 := jf_X6_tallyAll_L72 R41 g) (N.frA u2) hV hl hr hn hj hf u3 (yI.fr u2 (fun i => kc_FAn (by omega)))
    refine ⟨φ, ?_, (fI.tr (kc_FA_Yt u2)).tr (p2.w (by decide)), u3.fr p2 (n1 (by decide)) (n1 (by decide)) (fun c i _ _ => n1 (by omega)), p3⟩
    show jf_X6_tallyAll_L72 R41 (g + 1) (l : Int) (r : Int) ((ks_np Z : Nat) : Int) v4 ((n + 1 : Nat) : Int) τ = jf_X6_tallyAll_L72 R41 g (l : Int) (r : Int) ((ks_np Z : Nat) : Int) v4 ((n + 2 : Nat) : Int) φ
    rw [jf_X6_tallyAll_L72, if_neg (by omega), u1, jp_bd, p1]
  · obtain ⟨fI, B, yI⟩ := hI
    refine ⟨τ, ?_, fI, B, yI.cg (fun x p hx _ => if_pos hx)⟩
    show jf_X6_tallyAll_L72 R41 (g + 1) (l : Int) (r : Int) ((ks_np Z : Nat) : Int) v4 ((r + 1 : Nat) : Int) τ = _
    rw [jf_X6_tallyAll_L72, if_pos (by omega)]
def kt_H (Z : jz_Z) (a : Nat → Int) (s : jl_Mm) : Prop := ∀ p, p < ks_np Z → jl_g s 197 p = a (2 + p)
theorem kc_tal41 {H l r m c : Nat} {Z : jz_Z} {Ds : Nat → List Int} {a : Nat → Int} {d : kD} {s : jl_Mm} (hN : kc_N H Z Ds a s) (hV : kz_N Z Ds a) (hl : l < ks_nl Z) (hr : r ≤ 30) (h9 : a 0 + (r : Int) ≤ 999) (hc : kt_cnt Z Ds a d m l 99 = (c : Int)) (c0 : 0 < c)
    (hG : kt_G Z Ds a d m l 99 s) (hY : kt_Y Z Ds a d m l r (fun _ _ => 0) s) :
    jE (jf_X6_tallyAll_L41 jl_fu (l : Int) (r : Int) ((ks_np Z : Nat) : Int) 0 s) 0 kc_FYt s (fun τ => kt_Y Z Ds a d m l r (fun _ _ => 99) τ ∧ kt_H Z a τ) := by
  have h8 := hN.1.1.l
  have h6 := hN.1.1.p
  have cb : kt_cnt Z Ds a d m l 99 ≤ ((99 : Nat) : Int) := (ku_n_ge (fun j => kt_fit Z Ds a d m l (j + 1)) 99).2
  refine ku_for (α := jl_Mm) (G := fun g k τ => jf_X6_tallyAll_L41 g (l : Int) (r : Int) ((ks_np Z : Nat) : Int) ((k : Nat) : Int) τ) (N := c) (P := fun o => jE o 0 kc_FYt s (fun τ => kt_Y Z Ds a d m l r (fun _ _ => 99) τ ∧ kt_H Z a τ))
    (I := fun k τ => jp_fr kc_FYt s τ ∧ (∃ i, i ≤ 99 ∧ kt_cnt Z Ds a d m l i = (k : Int) ∧ kt_Y Z Ds a d m l r (fun _ _ => i) τ) ∧ (0 < k → kt_H Z a τ)) (fun g k τ hk hI => Or.inr ?_) (fun g τ hI => ?_) c 0 jl_fu s (Nat.zero_add _) (by show c < 4000; omega) ⟨jp_fr.rf, ⟨0, by omega, rfl, hY⟩, fun z => by omega⟩
  · obtain ⟨fI, ⟨i, i1, i2, yI⟩, -⟩ := hI
    have N := hN.frY fI
    obtain ⟨j, j1, j2, j3⟩ := kt_ex (Z := Z) (Ds := Ds) (a := a) (d := d) (m := m) (l := l) (k := (k : Int)) (by omega) 99 (by omega)
    have ij : i ≤ j := by
      by_cases q : i ≤ j
      · exact q
      · have := kt_cnt_lt j2 i (by omega); omega
    obtain ⟨q, rfl⟩ : ∃ q, j = i + q := ⟨j - i, by omega⟩
    have Yj : kt_Y Z Ds a d m l r (fun _ _ => i + q) τ := fun h p x h1 h2 h3 => (yI h p x h1 h2 h3).trans (kt_tal_eq q (by rw [i2, j3])).symm
    have el : jl_g τ 202 k = ((i + q + 1 : Nat) : Int) := by
      have e := hG.2 (i + q) j1 j2
      rw [j3, Int.toNat_natCast] at e
      exact (fI.g _ _ (kc_FYtn (by omega) (by decide))).trans e
    have e6 : jl_g τ 200 6 = (c : Int) := (fI.g _ _ (kc_FYtn (by omega) (by decide))).trans (hG.1.trans hc)
    obtain ⟨s1, t1, f1, A1⟩ := kc_restart N.2.2
    have A2 := A1.upc (l := l) (v := ((i + q + 1 : Nat) : Int)) (by omega) ⟨by omega, by omega⟩
    have f2 : jp_fr kc_FA τ (jl_up s1 198 l ((i + q + 1 : Nat) : Int)) := f1.up (by simp [jp_in, kc_FA])
    have el1 : jl_g s1 202 k = ((i + q + 1 : Nat) : Int) := (f1.g _ _ (kc_FAn (by omega))).trans el
    obtain ⟨υ, u1, u2, u3, u4⟩ := kc_tal72 (v4 := (k : Int)) (R41 := jf_X6_tallyAll_L41 g) (N.frA f2) hV hl hr h9 j1 j2 A2 (Yj.fr f2 (fun i => kc_FAn (by omega)))
    have ek : jl_add (k : Int) 1 = ((k + 1 : Nat) : Int) := by rw [jp_add (by omega) (by omega)]; omega
    rw [ek] at u1
    refine ⟨υ, ?_, (fI.tr (kc_FA_Yt f2)).tr u2, ⟨i + q + 1, by omega, by rw [kt_cnt_S, if_pos j2, j3]; omega, u4⟩, fun _ p hp => ?_⟩
    · show jf_X6_tallyAll_L41 (g + 1) (l : Int) (r : Int) ((ks_np Z : Nat) : Int) (k : Int) τ = _
      rw [jf_X6_tallyAll_L41, e6, if_neg (by omega), t1, jp_bd, if_pos kc_k196, if_pos (by omega), if_pos (by omega), Int.toNat_natCast, Int.toNat_natCast, el1, jp_lm]
      exact u1
    · have e0 : ks_u a (8 + l) ((i + q + 1 : Nat) : Int) 0 = a 0 := ks_un (by omega)
      have hv := (ks_hrs_V (Ds := Ds) N.1.1 (hV.1.u8 (l := l) (v := ((i + q + 1 : Nat) : Int)) N.1.1 hl (by omega)) r (by omega)).2.2.2
      rw [u3.2.2.1 p (by omega), hv p (by omega), ks_un (by omega)]
  · obtain ⟨fI, ⟨i, i1, i2, yI⟩, hH⟩ := hI
    have e6 : jl_g τ 200 6 = (c : Int) := (fI.g _ _ (kc_FYtn (by omega) (by decide))).trans (hG.1.trans hc)
    obtain ⟨q, eq⟩ : ∃ q, 99 = i + q := ⟨99 - i, by omega⟩
    show jE (jf_X6_tallyAll_L41 (g + 1) (l : Int) (r : Int) ((ks_np Z : Nat) : Int) (c : Int) τ) _ _ _ _
    rw [jf_X6_tallyAll_L41, e6, if_pos (Int.le_refl _)]
    refine ⟨τ, rfl, fI, fun h p x h1 h2 h3 => ?_, hH c0⟩
    rw [yI h p x h1 h2 h3]
    show kt_tal Z Ds a d m l (h + 1) (a (2 + p)) (x : Int) i = kt_tal Z Ds a d m l (h + 1) (a (2 + p)) (x : Int) 99
    rw [eq] at hc ⊢
    exact (kt_tal_eq q (by rw [hc, i2])).symm
theorem kc_tallyAll {H l r m c : Nat} {Z : jz_Z} {Ds : Nat → List Int} {a : Nat → Int} {d : kD} {s : jl_Mm} (hN : kc_N H Z Ds a s) (hV : kz_N Z Ds a) (hl : l < ks_nl Z) (hr : r ≤ 30) (h9 : a 0 + (r : Int) ≤ 999) (hc : kt_cnt Z Ds a d m l 99 = (c : Int)) (c0 : 0 < c) (hG : kt_G Z Ds a d m l 99 s) :
    jE (jf_X6_tallyAll (l : Int) (r : Int) s) 0 kc_FYt s (fun τ => kt_Y Z Ds a d m l r (fun _ _ => 99) τ ∧ kt_H Z a τ) := by
  have h6 := hN.1.1.p
  have n1 : ∀ {c i : Nat}, c ≠ 203 → jp_in [(203, 0, 0)] c i = false := by intro c i h; simp [jp_in]; omega
  rw [jf_X6_tallyAll, hN.1.g, hN.1.gr, hN.1.n2, jp_let]
  refine ku_for (α := jl_Mm) (G := fun g k τ => jf_X6_tallyAll_L14 g (l : Int) (r : Int) ((ks_np Z : Nat) : Int) ((k : Nat) : Int) τ) (N := 1620) (P := fun o => jE o 0 kc_FYt s (fun τ => kt_Y Z Ds a d m l r (fun _ _ => 99) τ ∧ kt_H Z a τ)) (I := fun k τ => jp_fr [(203, 0, 0)] s τ ∧ ∀ i, i < k → jl_g τ 203 i = 0) (fun g k τ hk hI => Or.inr ?_) (fun g τ hI => ?_) 1620 0 jl_fu s (by decide) (by decide) ⟨jp_fr.rf, fun x hx => by omega⟩
  · obtain ⟨hf, hI⟩ := hI
    have ea : jl_add (k : Int) 1 = ((k + 1 : Nat) : Int) := by rw [jp_add (by omega) (by omega)]; omega
    refine ⟨jl_up τ 203 k 0, ?_, hf.up (by simp [jp_in]), fun x hx => ?_⟩
    · show jf_X6_tallyAll_L14 (g + 1) (l : Int) (r : Int) ((ks_np Z : Nat) : Int) (k : Int) τ = jf_X6_tallyAll_L14 g (l : Int) (r : Int) ((ks_np Z : Nat) : Int) ((k + 1 : Nat) : Int) _
      rw [jf_X6_tallyAll_L14, if_neg (by omega), if_pos (by omega), jp_lm, Int.toNat_natCast, ea]
    · by_cases c : x = k
      · subst c; exact jp_g_eq (by decide) (by decide)
      · rw [jp_g_nei c]; exact hI x (by omega)
  · obtain ⟨hf, hI⟩ := hI
    have N := hN.frY (hf.w (by decide))
    have G : kt_G Z Ds a d m l 99 τ := ⟨(hf.g _ _ (n1 (by decide))).trans hG.1, fun j hj hff => (hf.g _ _ (n1 (by decide))).trans (hG.2 j hj hff)⟩
    obtain ⟨υ, u1, u2, u3⟩ := kc_tal41 N hV hl hr h9 hc c0 G (fun h p x h1 h2 h3 => hI _ (by omega))
    show jE (jf_X6_tallyAll_L14 (g + 1) (l : Int) (r : Int) ((ks_np Z : Nat) : Int) ((1620 : Nat) : Int) τ) _ _ _ _
    rw [jf_X6_tallyAll_L14, if_pos (Int.le_refl _), u1]
    exact ⟨υ, rfl, (hf.w (by decide)).tr u2, u3⟩
