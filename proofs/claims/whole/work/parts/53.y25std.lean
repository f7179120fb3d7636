/-! PURE, the reference: a street stands, whole -/
theorem jh_z211 : ∀ (m n l : Nat) (s : jl_Mm), m + l = 105 → m < n → ∃ τ, jf_X12_stands_L211 n (l : Int) s = jf_X12_stands_L244 jl_fu 0 (jl_up τ 249 1 (jl_g τ 241 4)) ∧ jp_fr [(249, 0, 0)] s τ ∧ ∀ i, i < 105 → (l ≤ i → jl_g τ 249 i = 0) ∧ (i < l → jl_g τ 249 i = jl_g s 249 i) := by
  intro m
  induction m with
  | zero =>
    intro n l s hm hn
    obtain ⟨n, rfl⟩ : ∃ j, n = j + 1 := ⟨n - 1, by omega⟩
    rw [jf_X12_stands_L211, if_pos (by omega), jp_lm]
    exact ⟨s, rfl, jp_fr.rf, fun i hi => ⟨fun z => by omega, fun _ => rfl⟩⟩
  | succ m ih =>
    intro n l s hm hn
    obtain ⟨n, rfl⟩ : ∃ j, n = j + 1 := ⟨n - 1, by omega⟩
    rw [jf_X12_stands_L211, if_neg (by omega), if_pos (by omega), Int.toNat_natCast, jp_lm, jp_add (by omega) (by omega)]
    obtain ⟨τ, t1, t2, t3⟩ := ih n (l + 1) (jl_up s 249 l 0) (by omega) (by omega)
    have f : jp_fr [(249, 0, 0)] s (jl_up s 249 l 0) := jp_fr.rf.up rfl
    refine ⟨τ, t1, f.tr t2, fun i hi => ⟨fun z => ?_, fun z => ?_⟩⟩
    · by_cases q : i = l
      · subst q
        rw [(t3 i hi).2 (by omega), jp_g_eq (by decide) (by decide)]
      · exact (t3 i hi).1 (by omega)
    · rw [(t3 i hi).2 (by omega), jp_g_nei (by omega)]
theorem jh_h244 {N : Nat} (hN : N ≤ 6) : ∀ (m n l : Nat) (s : jl_Mm), m + l = N → m < n → jl_g s 241 1 = (N : Int) → ∃ τ, jf_X12_stands_L244 n (l : Int) s = some (0, jl_up (jl_up τ 206 72 0) 206 65 0) ∧ jp_fr [(249, 2, 8)] s τ ∧ ∀ i, i < 6 → (l ≤ i → i < N → jl_g τ 249 (2 + i) = jl_g s 243 (2 * i)) ∧ (i < l ∨ N ≤ i → jl_g τ 249 (2 + i) = jl_g s 249 (2 + i)) := by
  intro m
  induction m with
  | zero =>
    intro n l s hm hn h1
    obtain ⟨n, rfl⟩ : ∃ j, n = j + 1 := ⟨n - 1, by omega⟩
    rw [jf_X12_stands_L244, show (1 : Int).toNat = 1 from rfl, h1, if_pos (by omega), jp_lm, jp_lm]
    exact ⟨s, rfl, jp_fr.rf, fun i hi => ⟨fun z y => by omega, fun _ => rfl⟩⟩
  | succ m ih =>
    intro n l s hm hn h1
    obtain ⟨n, rfl⟩ : ∃ j, n = j + 1 := ⟨n - 1, by omega⟩
    have ea : jl_mul 2 (l : Int) = ((2 * l : Nat) : Int) := by rw [jp_mul (by omega) (by omega)]; omega
    have eb : jl_add 2 (l : Int) = ((2 + l : Nat) : Int) := by rw [jp_add (by omega) (by omega)]; omega
    rw [jf_X12_stands_L244, show (1 : Int).toNat = 1 from rfl, h1, if_neg (by omega), ea, if_pos (by omega), eb, if_pos (by omega), Int.toNat_natCast, Int.toNat_natCast, jp_lm, jp_add (by omega) (by omega)]
    have f : jp_fr [(249, 2, 8)] s (jl_up s 249 (2 + l) (jl_g s 243 (2 * l))) := jp_fr.rf.up (by simp [jp_in]; omega)
    obtain ⟨τ, t1, t2, t3⟩ := ih n (l + 1) (jl_up s 249 (2 + l) (jl_g s 243 (2 * l))) (by omega) (by omega) (by rw [jp_g_ne (by decide)]; exact h1)
    refine ⟨τ, t1, f.tr t2, fun i hi => ⟨fun z y => ?_, fun z => ?_⟩⟩
    · by_cases q : i = l
      · subst q
        rw [(t3 i hi).2 (by omega), jp_g_eqg]
      · rw [(t3 i hi).1 (by omega) y, jp_g_ne (by decide)]
    · rw [(t3 i hi).2 (by omega), jp_g_nei (by omega)]
/-- the reference's street stands: codes and street of r -/
def jh_T (r : List Int × jz_Z) (τ : jl_Mm) : Prop :=
  jl_g τ 206 54 = 1 ∧ jl_g τ 206 53 = r.2.1 0 ∧ (∀ k, k < 6 → jl_g τ 241 (6 + k) = r.2.1 (k + 1)) ∧
  (∀ i : Nat, (i : Int) < r.2.1 2 → jl_gl τ 242 (16 + i) = jh_cn (r.2.2.2 1 i) ∧ jz_vn (r.2.2.2 1 i) ∧ jl_g τ 243 (12 + 2 * i) = r.2.2.1 2 i ∧ jl_g τ 243 (12 + (2 * i + 1)) = r.2.2.1 3 i) ∧
  (∀ i : Nat, (i : Int) < r.2.1 3 → jl_gl τ 242 (16 + (8 + i)) = jh_cn (r.2.2.2 4 i) ∧ jz_vn (r.2.2.2 4 i) ∧ jl_g τ 244 (16 + 2 * i) = r.2.2.1 5 i ∧ jl_g τ 244 (16 + (2 * i + 1)) = r.2.2.1 6 i) ∧
  (∀ i : Nat, (i : Int) < r.2.1 4 → jl_g τ 245 (48 + 3 * i) = r.2.2.1 7 i ∧ jl_g τ 245 (48 + (3 * i + 1)) = r.2.2.1 8 i ∧ jl_g τ 245 (48 + (3 * i + 2)) = r.2.2.1 9 i) ∧
  r.1.length ≤ 1600 ∧ (∀ i (h : i < r.1.length), jl_g τ 248 (1600 + i) = r.1[i]) ∧
  ∀ w, w < 3 → (r.2.1 (10 + w) < r.2.1 (20 + w) → jl_g τ 246 (3 + w) = r.2.1 (10 + w) ∧ jl_g τ 247 (3 + w) = r.2.1 (20 + w) ∧ 0 ≤ r.2.1 (10 + w) ∧ r.2.1 (20 + w) ≤ (r.1.length : Int)) ∧ (¬ r.2.1 (10 + w) < r.2.1 (20 + w) → jl_g τ 246 (3 + w) = -1)
/-- how things stand at HOUR 0 -/
def jh_0 (Z : jz_Z) (τ : jl_Mm) : Prop :=
  jl_g τ 206 72 = 0 ∧ jl_g τ 206 65 = 0 ∧ jl_g τ 249 0 = 0 ∧ jl_g τ 249 1 = Z.1 5 ∧ (∀ i : Nat, (i : Int) < Z.1 2 → jl_g τ 249 (2 + i) = Z.2.1 2 i) ∧ (∀ i : Nat, i < 6 → Z.1 2 ≤ (i : Int) → jl_g τ 249 (2 + i) = 0) ∧ ∀ i, 8 ≤ i → i < 105 → jl_g τ 249 i = 0
def jh_FZ : jp_F := [(206, 54, 55), (241, 6, 12), (246, 3, 6), (247, 3, 6), (242, 16, 32), (244, 16, 32), (243, 12, 24), (245, 48, 96), (248, 1600, 3200), (249, 0, 0), (206, 72, 73), (206, 65, 66)]
theorem jh_stands {T : Nat → Int} {e : Nat} {R : jq_S × jz_Z} {s : jl_Mm} (h : jh_J T e R s) (h0 : R.1.1 = 0) : jE (jf_X12_stands s) 0 jh_FZ s (fun τ => jh_T (R.1.2.2, R.2) τ ∧ jh_0 R.2 τ) := by
  obtain ⟨hB, hs, hok⟩ := h
  obtain ⟨⟨d0, d1, d2, d3⟩, -, hwin, g53, c0, c60⟩ := hok h0
  obtain ⟨r1, r2, r3, r4⟩ := hB.2.2 h0
  obtain ⟨m1, m2, m3⟩ := hB.2.1
  have q1 := r1 1 (by decide)
  have q2 := r1 2 (by decide)
  have q3 := r1 3 (by decide)
  have q4 := r1 4 (by decide)
  simp only [Nat.reduceAdd] at q1 q2 q3 q4
  have sub : ∀ F : jp_F, (F.all fun q => jh_FZ.contains q) = true → ∀ a b, jp_fr F a b → jp_fr jh_FZ a b := fun F w a b f => f.w w
  rw [jf_X12_stands, jp_lm]
  have fA : jp_fr [(206, 54, 55)] s (jl_up s 206 54 1) := jp_fr.rf.up rfl
  have g54 : jl_g (jl_up s 206 54 1) 206 54 = 1 := jp_g_eq (by decide) (by decide)
  generalize jl_up s 206 54 1 = sA at *
  have nA : ∀ c i, (c ≠ 206 ∨ i ≠ 54) → jp_in [(206, 54, 55)] c i = false := by intro c i hc; simp [jp_in]; omega
  obtain ⟨a, a1, a2, a3⟩ := jh_cp7 sA
  obtain ⟨b, b1, b2, b3⟩ := jh_cp36 3 jl_fu 0 a rfl (by decide)
  obtain ⟨c, c1, c2, c3⟩ := jh_cp77 16 jl_fu 0 b rfl (by decide)
  rw [show ((0 : Nat) : Int) = 0 from rfl] at b1 c1
  obtain ⟨d, e1, e2, e3⟩ := jh_cp121 c
  obtain ⟨f, f1, f2, f3⟩ := jh_cp150 d
  have na : ∀ c i, c ≠ 241 ∨ i < 6 → jp_in [(241, 6, 12)] c i = false := by intro c i hc; simp [jp_in]; omega
  have nb : ∀ c i, (c ≠ 246 ∧ c ≠ 247) ∨ i < 3 → jp_in [(246, 3, 6), (247, 3, 6)] c i = false := by intro c i hc; simp [jp_in]; omega
  have nc : ∀ c i, (c ≠ 242 ∧ c ≠ 244) ∨ i < 16 → jp_in [(242, 16, 32), (244, 16, 32)] c i = false := by intro c i hc; simp [jp_in]; omega
  have nd : ∀ c i, c ≠ 243 ∨ i < 12 → jp_in [(243, 12, 24)] c i = false := by intro c i hc; simp [jp_in]; omega
  have nf : ∀ c i, c ≠ 245 ∨ i < 48 → jp_in [(245, 48, 96)] c i = false := by intro c i hc; simp [jp_in]; omega
  have f52 : jl_g f 206 52 = (R.1.2.2.length : Int) := by
    rw [f2.g _ _ (nf _ _ (by omega)), e2.g _ _ (nd _ _ (by omega)), c2.g _ _ (nc _ _ (by omega)), b2.g _ _ (nb _ _ (by omega)), a2.g _ _ (na _ _ (by omega)), fA.g _ _ (nA _ _ (by omega))]
    exact d1
  obtain ⟨g, g1, g2, g3⟩ := jh_cp179 (N := R.1.2.2.length) f d0 f52
  obtain ⟨k, k1, k2, k3⟩ := jh_z211 105 jl_fu 0 g rfl (by decide)
  rw [show ((0 : Nat) : Int) = 0 from rfl] at k1
  have ng : ∀ c i, c ≠ 248 ∨ i < 1600 → jp_in [(248, 1600, 1600 + R.1.2.2.length)] c i = false := by intro c i hc; simp [jp_in]; omega
  have nk : ∀ c i, c ≠ 249 → jp_in [(249, 0, 0)] c i = false := by intro c i hc; simp [jp_in]; omega
  have f1' : jp_fr [(249, 1, 2)] k (jl_up k 249 1 (jl_g k 241 4)) := jp_fr.rf.up rfl
  have v1 : jl_g (jl_up k 249 1 (jl_g k 241 4)) 249 1 = jl_g k 241 4 := jp_g_eqg
  generalize jl_up k 249 1 (jl_g k 241 4) = k' at *
  have nk' : ∀ c i, c ≠ 249 ∨ i ≠ 1 → jp_in [(249, 1, 2)] c i = false := by intro c i hc; simp [jp_in]; omega
  -- what stood first stands still
  have lo : ∀ x i, x < 249 → (x = 206 → i ≠ 54) → (x = 241 → i < 6) → (x = 246 ∨ x = 247 → i < 3) → (x = 242 ∨ x = 244 → i < 16) → (x = 243 → i < 12) → (x = 245 → i < 48) → (x = 248 → i < 1600) → jl_g k' x i = jl_g s x i := by
    intro x i h9 h6 h41 h46 h42 h43 h45 h48
    rw [f1'.g _ _ (nk' _ _ (by omega)), k2.g _ _ (nk _ _ (by omega)), g2.g _ _ (ng _ _ (by omega)), f2.g _ _ (nf _ _ (by omega)), e2.g _ _ (nd _ _ (by omega)), c2.g _ _ (nc _ _ (by omega)), b2.g _ _ (nb _ _ (by omega)), a2.g _ _ (na _ _ (by omega)), fA.g _ _ (nA _ _ (by omega))]
  have hP : ∃ N : Nat, R.2.1 2 = (N : Int) ∧ N ≤ 6 := ⟨(R.2.1 2).toNat, by omega, by omega⟩
  obtain ⟨N, hN, hN6⟩ := hP
  obtain ⟨p, p1, p2, p3⟩ := jh_h244 hN6 N jl_fu 0 k' rfl (by show N < 4000; omega) (by rw [lo 241 1 (by omega) (by omega) (by omega) (by omega) (by omega) (by omega) (by omega) (by omega), q1, hN])
  rw [show ((0 : Nat) : Int) = 0 from rfl] at p1
  rw [a1, b1, c1, e1, f1, g1, k1, p1]
  have fz : jp_fr [(206, 72, 73), (206, 65, 66)] p (jl_up (jl_up p 206 72 0) 206 65 0) := (jp_fr.rf.up rfl).up rfl
  have z72 : jl_g (jl_up (jl_up p 206 72 0) 206 65 0) 206 72 = 0 := by rw [jp_g_nei (by decide), jp_g_eq (by decide) (by decide)]
  have z65 : jl_g (jl_up (jl_up p 206 72 0) 206 65 0) 206 65 = 0 := jp_g_eq (by decide) (by decide)
  generalize jl_up (jl_up p 206 72 0) 206 65 0 = τ at *
  have nz : ∀ x i, x ≠ 206 ∨ (i ≠ 72 ∧ i ≠ 65) → jp_in [(206, 72, 73), (206, 65, 66)] x i = false := by intro x i hx; simp [jp_in]; omega
  have np : ∀ x i, x ≠ 249 ∨ i < 2 ∨ 8 ≤ i → jp_in [(249, 2, 8)] x i = false := by intro x i hx; simp [jp_in]; omega
  have Tg : ∀ x i, x < 249 → (x = 206 → i ≠ 72 ∧ i ≠ 65) → jl_g τ x i = jl_g g x i := by
    intro x i h9 h6
    rw [fz.g _ _ (nz _ _ (by omega)), p2.g _ _ (np _ _ (by omega)), f1'.g _ _ (nk' _ _ (by omega)), k2.g _ _ (nk _ _ (by omega))]
  have Tl : ∀ i, jl_gl τ 242 i = jl_gl c 242 i := by
    intro i
    rw [fz.gl _ _ (nz _ _ (by omega)), p2.gl _ _ (np _ _ (by omega)), f1'.gl _ _ (nk' _ _ (by omega)), k2.gl _ _ (nk _ _ (by omega)), g2.gl _ _ (ng _ _ (by omega)), f2.gl _ _ (nf _ _ (by omega)), e2.gl _ _ (nd _ _ (by omega))]
  have Bl : ∀ i, i < 16 → jl_gl c 242 (16 + i) = jl_gl s 242 i := by
    intro i hi
    rw [((c3 i hi).1 (Nat.zero_le _)).1, b2.gl _ _ (nb _ _ (by omega)), a2.gl _ _ (na _ _ (by omega)), fA.gl _ _ (nA _ _ (by omega))]
  have V241 : ∀ i, i < 6 → jl_g τ 241 (6 + i) = jl_g s 241 i := by
    intro i hi
    rw [Tg _ _ (by omega) (by omega), g2.g _ _ (ng _ _ (by omega)), f2.g _ _ (nf _ _ (by omega)), e2.g _ _ (nd _ _ (by omega)), c2.g _ _ (nc _ _ (by omega)), b2.g _ _ (nb _ _ (by omega)), a3 i hi, fA.g _ _ (nA _ _ (by omega))]
  have V246 : ∀ i, i < 3 → jl_g τ 246 (3 + i) = jl_g s 246 i ∧ jl_g τ 247 (3 + i) = jl_g s 247 i := by
    intro i hi
    obtain ⟨x, y⟩ := (b3 i hi).1 (Nat.zero_le _)
    constructor
    · rw [Tg _ _ (by omega) (by omega), g2.g _ _ (ng _ _ (by omega)), f2.g _ _ (nf _ _ (by omega)), e2.g _ _ (nd _ _ (by omega)), c2.g _ _ (nc _ _ (by omega)), x, a2.g _ _ (na _ _ (by omega)), fA.g _ _ (nA _ _ (by omega))]
    · rw [Tg _ _ (by omega) (by omega), g2.g _ _ (ng _ _ (by omega)), f2.g _ _ (nf _ _ (by omega)), e2.g _ _ (nd _ _ (by omega)), c2.g _ _ (nc _ _ (by omega)), y, a2.g _ _ (na _ _ (by omega)), fA.g _ _ (nA _ _ (by omega))]
  have V244 : ∀ i, i < 16 → jl_g τ 244 (16 + i) = jl_g s 244 i := by
    intro i hi
    rw [Tg _ _ (by omega) (by omega), g2.g _ _ (ng _ _ (by omega)), f2.g _ _ (nf _ _ (by omega)), e2.g _ _ (nd _ _ (by omega)), ((c3 i hi).1 (Nat.zero_le _)).2, b2.g _ _ (nb _ _ (by omega)), a2.g _ _ (na _ _ (by omega)), fA.g _ _ (nA _ _ (by omega))]
  have V243 : ∀ i, i < 12 → jl_g τ 243 (12 + i) = jl_g s 243 i := by
    intro i hi
    rw [Tg _ _ (by omega) (by omega), g2.g _ _ (ng _ _ (by omega)), f2.g _ _ (nf _ _ (by omega)), e3 i hi, c2.g _ _ (nc _ _ (by omega)), b2.g _ _ (nb _ _ (by omega)), a2.g _ _ (na _ _ (by omega)), fA.g _ _ (nA _ _ (by omega))]
  have V245 : ∀ i, i < 48 → jl_g τ 245 (48 + i) = jl_g s 245 i := by
    intro i hi
    rw [Tg _ _ (by omega) (by omega), g2.g _ _ (ng _ _ (by omega)), f3 i hi, e2.g _ _ (nd _ _ (by omega)), c2.g _ _ (nc _ _ (by omega)), b2.g _ _ (nb _ _ (by omega)), a2.g _ _ (na _ _ (by omega)), fA.g _ _ (nA _ _ (by omega))]
  have V248 : ∀ i, i < R.1.2.2.length → jl_g τ 248 (1600 + i) = jl_g s 248 i := by
    intro i hi
    rw [Tg _ _ (by omega) (by omega), g3 i hi, f2.g _ _ (nf _ _ (by omega)), e2.g _ _ (nd _ _ (by omega)), c2.g _ _ (nc _ _ (by omega)), b2.g _ _ (nb _ _ (by omega)), a2.g _ _ (na _ _ (by omega)), fA.g _ _ (nA _ _ (by omega))]
  have V206 : ∀ i, i ≠ 72 → i ≠ 65 → jl_g τ 206 i = jl_g sA 206 i := by
    intro i h1 h2
    rw [Tg _ _ (by omega) (by omega), g2.g _ _ (ng _ _ (by omega)), f2.g _ _ (nf _ _ (by omega)), e2.g _ _ (nd _ _ (by omega)), c2.g _ _ (nc _ _ (by omega)), b2.g _ _ (nb _ _ (by omega)), a2.g _ _ (na _ _ (by omega))]
  have V249 : ∀ i, jl_g τ 249 i = jl_g p 249 i := fun i => fz.g _ _ (nz _ _ (by omega))
  have frs : jp_fr jh_FZ s τ := by
    refine (sub _ (by decide) _ _ fA).tr ((sub _ (by decide) _ _ a2).tr ((sub _ (by decide) _ _ b2).tr ((sub _ (by decide) _ _ c2).tr ((sub _ (by decide) _ _ e2).tr ((sub _ (by decide) _ _ f2).tr ?_)))))
    have g2' : jp_fr [(248, 1600, 3200)] f g := g2.ws (by intro x i hx; simp [jp_in] at hx ⊢; omega)
    refine (sub _ (by decide) _ _ g2').tr ((sub _ (by decide) _ _ k2).tr ?_)
    have f1z : jp_fr [(249, 0, 0)] k k' := f1'.ws (by intro x i hx; simp [jp_in] at hx ⊢; omega)
    have p2z : jp_fr [(249, 0, 0)] k' p := p2.ws (by intro x i hx; simp [jp_in] at hx ⊢; omega)
    exact (sub _ (by decide) _ _ f1z).tr ((sub _ (by decide) _ _ p2z).tr (sub _ (by decide) _ _ fz))
  refine ⟨τ, rfl, frs, ⟨?_, ?_, fun j hj => ?_, fun i hi => ?_, fun i hi => ?_, fun i hi => ?_, d0, fun i hi => ?_, fun w hw => ?_⟩, z72, z65, ?_, ?_, fun i hi => ?_, fun i hi hi2 => ?_, fun i h8 h105 => ?_⟩
  · rw [V206 54 (by decide) (by decide)]; exact g54
  · rw [V206 53 (by decide) (by decide), fA.g _ _ (nA _ _ (by omega))]; exact g53
  · rw [V241 j hj]; exact r1 j hj
  · simp only at hi
    obtain ⟨x1, x2, x3, x4⟩ := r2 i hi
    rw [Tl, Bl i (by omega), V243 _ (by omega), V243 _ (by omega)]
    exact ⟨x1, x2, x3, x4⟩
  · simp only at hi
    obtain ⟨x1, x2, x3, x4⟩ := r3 i hi
    rw [Tl, Bl (8 + i) (by omega), V244 _ (by omega), V244 _ (by omega)]
    exact ⟨x1, x2, x3, x4⟩
  · simp only at hi
    obtain ⟨x1, x2, x3⟩ := r4 i hi
    rw [V245 _ (by omega), V245 _ (by omega), V245 _ (by omega)]
    exact ⟨x1, x2, x3⟩
  · rw [V248 i hi]; exact d2 i hi
  · obtain ⟨x, y⟩ := V246 w hw
    rw [x, y]
    exact d3 w hw
  · rw [V249, p2.g _ _ (np _ _ (by omega)), f1'.g _ _ (nk' _ _ (by omega))]
    exact (k3 0 (by decide)).1 (Nat.zero_le _)
  · rw [V249, p2.g _ _ (np _ _ (by omega)), v1, k2.g _ _ (nk _ _ (by omega)), g2.g _ _ (ng _ _ (by omega)), f2.g _ _ (nf _ _ (by omega)), e2.g _ _ (nd _ _ (by omega)), c2.g _ _ (nc _ _ (by omega)), b2.g _ _ (nb _ _ (by omega)), a2.g _ _ (na _ _ (by omega)), fA.g _ _ (nA _ _ (by omega))]
    exact q4
  · have hiN : i < N := by omega
    rw [V249, (p3 i (by omega)).1 (Nat.zero_le _) hiN, lo 243 (2 * i) (by omega) (by omega) (by omega) (by omega) (by omega) (by omega) (by omega) (by omega)]
    exact (r2 i hi).2.2.1
  · rw [V249, (p3 i hi).2 (Or.inr (by omega)), f1'.g _ _ (nk' _ _ (by omega))]
    exact (k3 (2 + i) (by omega)).1 (Nat.zero_le _)
  · rw [V249, p2.g _ _ (np _ _ (by omega)), f1'.g _ _ (nk' _ _ (by omega))]
    exact (k3 i h105).1 (Nat.zero_le _)
