/-! PURE, the reference: what codes tell -/
def kr_S : List Int → jl_Mm → Prop
  | [], _ => True
  | v :: r, s => jl_gl s 284 r.length = v ∧ kr_S r s
def kr_P (vs : List Int) (s : jl_Mm) : Prop := jl_g s 206 106 = ((vs.length : Nat) : Int) ∧ kr_S vs s
def kr_FP : jp_F := [(284, 0, 0), (206, 106, 107)]
theorem kr_S.up : ∀ {r : List Int} {s : jl_Mm} {i : Nat} {v : Int}, kr_S r s → r.length ≤ i → kr_S r (jl_up s 284 i v)
  | [], _, _, _, _, _ => trivial
  | x :: r, s, i, v, h, hi => by
    rw [List.length_cons] at hi
    exact ⟨(jp_gl_nei (by omega)).trans h.1, h.2.up (by omega)⟩
theorem kr_S.fr : ∀ {r : List Int} {s τ : jl_Mm} {F : jp_F}, kr_S r s → jp_fr F s τ → (∀ i, jp_in F 284 i = false) → kr_S r τ
  | [], _, _, _, _, _, _ => trivial
  | _ :: r, _, _, _, h, f, w => ⟨(f.gl _ _ (w _)).trans h.1, h.2.fr f w⟩
theorem kr_puts {v : Int} {vs : List Int} {s : jl_Mm} (h : kr_P vs s) (hl : vs.length < 1000) (hv : kv_b v) : ∃ τ, jf_X12_qPuts v s = some (0, τ) ∧ jp_fr kr_FP s τ ∧ kr_P (v :: vs) τ := by
  obtain ⟨h1, h2⟩ := h
  have e : jl_g (jl_up s 284 vs.length v) 206 106 = ((vs.length : Nat) : Int) := by rw [jp_g_ne (by decide)]; exact h1
  rw [jf_X12_qPuts, h1, if_pos (by omega), Int.toNat_natCast, jp_lm, e, jp_add (by omega) (by omega), jp_lm]
  refine ⟨_, rfl, (jp_fr.rf.up rfl).up rfl, ?_, ?_, ?_⟩
  · rw [jp_g_eq (by omega) (by omega), List.length_cons]; rfl
  · rw [jp_gl_ne (by decide), jp_gl_eq (by have := hv.1; omega) (by have := hv.2; omega)]
  · have f : jp_fr [(206, 106, 107)] (jl_up s 284 vs.length v) (jl_up (jl_up s 284 vs.length v) 206 106 ((vs.length : Int) + 1)) := jp_fr.rf.up rfl
    exact (h2.up (Nat.le_refl _)).fr f (fun i => by simp [jp_in])
theorem kr_clip {v : Int} (h : jl_n6 v) (s : jl_Mm) : jf_X12_qClip v s = some (kv_cl v, s) := by
  have h1 : jl_n6 1000000 := ⟨by decide, by decide⟩
  have h2 : jl_n6 (-1000000) := ⟨by decide, by decide⟩
  rw [jf_X12_qClip]
  simp only [jf_X12_qClip_B29]
  by_cases a : 1000000 < v
  · rw [if_neg (fun q => (kr_lt h h1).2.1.mp q a), kv_cl, if_pos a]
  · rw [if_pos ((kr_lt h h1).2.1.mpr a), kv_cl, if_neg a]
    by_cases b : v < -1000000
    · rw [if_neg (fun q => (kr_lt h h2).1.mp q b), if_pos b]
    · rw [if_pos ((kr_lt h h2).1.mpr b), if_neg b]
theorem kr_floor {a b : Int} (ha : kv_b a) (hb : kv_b b) (s : jl_Mm) : jf_X12_qFloor a b s = some (kv_div a b, s) := by
  have n0 : jl_n6 0 := ⟨by decide, by decide⟩
  have lb := kr_lt hb.n6 n0
  have la := kr_lt ha.n6 n0
  rw [jf_X12_qFloor, kv_div]
  by_cases h0 : b = 0
  · rw [if_pos (lb.2.2.mpr h0), if_pos h0]
  · obtain ⟨t1, t2⟩ := kv_tdiv ha h0
    have hm' := kv_mulb t1 hb
    have ha1 := ha.1; have ha2 := ha.2
    have hr : jl_lrem a b = a - a.tdiv b * b := by
      have e : jl_i6 a / jl_i6 b = jl_i6 (a.tdiv b) := by
        apply Int64.toInt_inj.mp
        rw [jl_to_i6 t1.n6]
        exact ku_ldiv ha.n6 hb.n6 t1
      have e2 : jl_i6 (a.tdiv b) * jl_i6 b = jl_i6 (a.tdiv b * b) := (Int64.ofInt_mul _ _).symm
      rw [jl_lrem, e, e2, show jl_i6 a - jl_i6 (a.tdiv b * b) = jl_i6 (a - a.tdiv b * b) from (Int64.ofInt_sub _ _).symm]
      exact jl_to_i6 ⟨by omega, by omega⟩
    have lr := kr_lt (a := a - a.tdiv b * b) (b := 0) ⟨by omega, by omega⟩ n0
    rw [if_neg (fun q => h0 (lb.2.2.mp q)), if_pos h0, ku_ldiv ha.n6 hb.n6 t1, jp_let, if_pos h0, hr, if_neg h0]
    simp only [jf_X12_qFloor_B53, jf_X12_qFloor_B55, jf_X12_qFloor_B32, jf_X12_qFloor_B43]
    by_cases y : a.tdiv b * b = a
    · rw [if_pos (lr.2.2.mpr (by omega)), if_pos (Or.inr y)]
    · have t2 := t2 y
      have es : jl_lsub (a.tdiv b) 1 = a.tdiv b - 1 := jp_lsub (by omega) (by omega)
      rw [if_neg (fun q => y (by have := lr.2.2.mp q; omega)), es]
      by_cases xa : a < 0
      · rw [if_neg (fun q => la.1.mp q xa)]
        by_cases xb : b < 0
        · rw [if_neg (fun q => lb.1.mp q xb), if_pos trivial, if_pos (Or.inl ⟨fun _ => xb, fun _ => xa⟩)]
        · rw [if_pos (lb.1.mpr xb), if_neg (by decide), if_neg (fun q => q.elim (fun z => xb (z.mp xa)) y)]
      · rw [if_pos (la.1.mpr xa)]
        by_cases xb : b < 0
        · rw [if_neg (fun q => lb.1.mp q xb), if_neg (by decide), if_neg (fun q => q.elim (fun z => xa (z.mpr xb)) y)]
        · rw [if_pos (lb.1.mpr xb), if_pos trivial, if_pos (Or.inl ⟨fun z => absurd z xa, fun z => absurd z xb⟩)]
theorem kr_joins {c a b : Int} {r : List Int} {s : jl_Mm} (h : kr_P (b :: a :: r) s) (hl : r.length < 500) (hc : ((1 ≤ c ∧ c ≤ 9) ∧ kv_b a ∧ kv_b b) ∨ ((c = 10 ∨ c = 11) ∧ (a = 0 ∨ a = 1) ∧ (b = 0 ∨ b = 1))) : ∃ τ, jf_X12_qJoins c s = some (0, τ) ∧ jp_fr kr_FP s τ ∧ kr_P (kv_2 c a b :: r) τ := by
  obtain ⟨h1, hB, hA, hR⟩ := h
  have hb2 : kv_b (kv_2 c a b) := kv_2b hc
  have e0 : (((b :: a :: r).length : Nat) : Int) = ((r.length + 2 : Nat) : Int) := rfl
  rw [e0] at h1
  have f1 : jl_sub ((r.length + 2 : Nat) : Int) 1 = ((r.length + 1 : Nat) : Int) := by rw [jp_sub (by omega) (by omega)]; omega
  have f2 : jl_sub ((r.length + 2 : Nat) : Int) 2 = ((r.length : Nat) : Int) := by rw [jp_sub (by omega) (by omega)]; omega
  have hB' : jl_gl s 284 (r.length + 1) = b := hB
  have f5 : jp_fr kr_FP s (jl_up s 206 106 ((r.length : Nat) : Int)) := jp_fr.rf.up rfl
  have P5 : kr_P r (jl_up s 206 106 ((r.length : Nat) : Int)) := ⟨jp_g_eq (by omega) (by omega), hR.fr (jp_fr.rf.up (F := [(206, 106, 107)]) rfl) (fun i => by simp [jp_in])⟩
  rw [jf_X12_qJoins, h1, f1, f2, if_pos (by omega), Int.toNat_natCast, hB', jp_let, if_pos (by omega), Int.toNat_natCast, hA, jp_let, jp_lm]
  generalize jl_up s 206 106 ((r.length : Nat) : Int) = s5 at *
  obtain ⟨τ, t1, t2, t3⟩ := kr_puts P5 (by omega) hb2
  have fin : (jl_bd (jf_X12_qPuts (kv_2 c a b) s5) fun _ s => jf_X12_qJoins_B273 s) = some (0, τ) := by rw [t1, jp_bd]; rfl
  refine ⟨τ, ?_, f5.tr t2, t3⟩
  obtain ⟨e1, e2, e3, e4, e5, e6, e7, e8, e9, e10, e11⟩ := kv_2e a b
  rcases hc with ⟨hc, ha, hb⟩ | ⟨hc, ha, hb⟩
  · have hm := kv_mulb ha hb
    have ha1 := ha.1; have ha2 := ha.2; have hb1 := hb.1; have hb3 := hb.2
    obtain ⟨l1, l2, l3⟩ := kr_lt ha.n6 hb.n6
    obtain rfl | rfl | rfl | rfl | rfl | rfl | rfl | rfl | rfl : c = 1 ∨ c = 2 ∨ c = 3 ∨ c = 4 ∨ c = 5 ∨ c = 6 ∨ c = 7 ∨ c = 8 ∨ c = 9 := by omega
    · simp only [Int.reduceEq, if_false, if_true]
      rw [e1] at fin
      rw [jp_ladd (by omega) (by omega), kr_clip ⟨by omega, by omega⟩, jp_bd]
      exact fin
    · simp only [Int.reduceEq, if_false, if_true]
      rw [e2] at fin
      rw [jp_lsub (by omega) (by omega), kr_clip ⟨by omega, by omega⟩, jp_bd]
      exact fin
    · simp only [Int.reduceEq, if_false, if_true]
      rw [e3] at fin
      rw [jp_lmul (by omega) (by omega), kr_clip ⟨by omega, by omega⟩, jp_bd]
      exact fin
    · simp only [Int.reduceEq, if_false, if_true]
      rw [e4] at fin
      rw [kr_floor ha hb, jp_bd]
      exact fin
    · simp only [Int.reduceEq, if_false, if_true, jf_X12_qJoins_B161]
      rw [e5] at fin
      by_cases z : a < b
      · rw [if_pos z] at fin; rw [if_neg (fun q => l1.mp q z)]; exact fin
      · rw [if_neg z] at fin; rw [if_pos (l1.mpr z)]; exact fin
    · simp only [Int.reduceEq, if_false, if_true, jf_X12_qJoins_B181]
      rw [e6] at fin
      by_cases z : b < a
      · rw [if_pos z] at fin; rw [if_neg (fun q => l2.mp q z)]; exact fin
      · rw [if_neg z] at fin; rw [if_pos (l2.mpr z)]; exact fin
    · simp only [Int.reduceEq, if_false, if_true, jf_X12_qJoins_B200]
      rw [e7] at fin
      by_cases z : a < b
      · rw [if_pos z] at fin; rw [if_neg (fun q => l1.mp q z)]; exact fin
      · rw [if_neg z] at fin; rw [if_pos (l1.mpr z)]; exact fin
    · simp only [Int.reduceEq, if_false, if_true, jf_X12_qJoins_B219]
      rw [e8] at fin
      by_cases z : b < a
      · rw [if_pos z] at fin; rw [if_neg (fun q => l2.mp q z)]; exact fin
      · rw [if_neg z] at fin; rw [if_pos (l2.mpr z)]; exact fin
    · simp only [Int.reduceEq, if_false, if_true, jf_X12_qJoins_B238]
      rw [e9] at fin
      by_cases z : a = b
      · rw [if_pos z] at fin; rw [if_pos (l3.mpr z)]; exact fin
      · rw [if_neg z] at fin; rw [if_neg (fun q => z (l3.mp q))]; exact fin
  · rcases hc with rfl | rfl
    · simp only [Int.reduceEq, if_false, if_true]
      rw [e10] at fin
      have hm : jl_lmul a b = a * b := by rcases ha with rfl | rfl <;> rcases hb with rfl | rfl <;> decide +kernel
      rw [hm]
      exact fin
    · simp only [Int.reduceEq, if_false, jf_X12_qJoins_B270]
      rw [e11] at fin
      have hs : jl_ladd a b = a + b := jp_ladd (by omega) (by omega)
      obtain ⟨l1, l2, l3⟩ := kr_lt (a := a + b) (b := 0) ⟨by omega, by omega⟩ ⟨by decide, by decide⟩
      rw [hs]
      by_cases z : 0 < a + b
      · rw [if_pos z] at fin; rw [if_neg (fun q => l2.mp q z)]; exact fin
      · rw [if_neg z] at fin; rw [if_pos (l2.mpr z)]; exact fin
/-- a code, but parts: what the stack becomes -/
theorem kr_op {c : Int} {env : Int → Int} {of : Int → Int → Int} {ts us : List Bool} {vs : List Int} {s : jl_Mm} (h : kv_ok ts vs) (ht : jq_t1 c ts = some us) (hl : vs.length ≤ 128) (hP : kr_P vs s) :
    (1000 ≤ c → ∃ τ, jf_X12_qPuts (jl_sub c 1000) s = some (0, τ) ∧ jp_fr kr_FP s τ ∧ kr_P (kv_1 env of c vs) τ) ∧
    (c = 13 → ∃ τ, jf_X12_qPuts 1 s = some (0, τ) ∧ jp_fr kr_FP s τ ∧ kr_P (kv_1 env of c vs) τ) ∧
    (c = 12 → ∃ τ, (∀ k : jl_Mm → jl_O, (if 0 ≤ jl_sub (jl_g s 206 106) 1 ∧ jl_sub (jl_g s 206 106) 1 < ((1700 : Nat) : Int) then if 0 ≤ jl_sub (jl_g s 206 106) 1 ∧ jl_sub (jl_g s 206 106) 1 < ((1700 : Nat) : Int) then jl_lm (jl_up s 284 (jl_sub (jl_g s 206 106) 1).toNat (jl_lsub 1 (jl_gl s 284 (jl_sub (jl_g s 206 106) 1).toNat))) k else none else none) = k τ) ∧ jp_fr kr_FP s τ ∧ kr_P (kv_1 env of c vs) τ) ∧
    (1 ≤ c ∧ c ≤ 11 → ∃ τ, jf_X12_qJoins c s = some (0, τ) ∧ jp_fr kr_FP s τ ∧ kr_P (kv_1 env of c vs) τ) := by
  have hd := kv_shape h ht
  refine ⟨fun c0 => ?_, fun c0 => ?_, fun c0 => ?_, fun c0 => ?_⟩
  · have e1 : kv_1 env of c vs = (c - 1000) :: vs := kv_1n c0
    have hc : c ≤ 10999 := by
      rcases hd with ⟨_, q, _⟩ | ⟨q, _⟩ | ⟨_, q, _⟩ | ⟨q, _⟩ | ⟨q, _⟩ | ⟨q, _⟩ <;> omega
    rw [e1, jp_sub (by omega) (by omega)]
    exact kr_puts hP (by omega) ⟨by omega, by omega⟩
  · subst c0
    exact kr_puts hP (by omega) ⟨by decide, by decide⟩
  · subst c0
    obtain ⟨v, r, rfl, hv⟩ : ∃ v r, vs = v :: r ∧ (v = 0 ∨ v = 1) := by
      rcases hd with ⟨q, _⟩ | ⟨q, _⟩ | ⟨q, _⟩ | ⟨q, _⟩ | ⟨_, q⟩ | ⟨q, _⟩
      · omega
      · omega
      · omega
      · omega
      · exact q
      · omega
    obtain ⟨h1, h2, h3⟩ := hP
    have hlr : (v :: r).length = r.length + 1 := rfl
    have es : jl_sub (((v :: r).length : Nat) : Int) 1 = ((r.length : Nat) : Int) := by rw [jp_sub (by omega) (by omega)]; omega
    have e1v : jl_lsub 1 v = 1 - v := jp_lsub (by omega) (by omega)
    refine ⟨jl_up s 284 r.length (1 - v), fun k => ?_, jp_fr.rf.up rfl, ?_⟩
    · rw [h1, es, if_pos (by omega), if_pos (by omega), Int.toNat_natCast, h2, e1v, jp_lm]
    · refine ⟨?_, ?_, h3.up (Nat.le_refl _)⟩
      · rw [jp_g_ne (by decide), h1]; rfl
      · exact jp_gl_eq (by omega) (by omega)
  · obtain ⟨b, a, r, rfl, hab⟩ : ∃ b a r, vs = b :: a :: r ∧ (((1 ≤ c ∧ c ≤ 9) ∧ kv_b a ∧ kv_b b) ∨ ((c = 10 ∨ c = 11) ∧ (a = 0 ∨ a = 1) ∧ (b = 0 ∨ b = 1))) := by
      rcases hd with ⟨q, _⟩ | ⟨q, _⟩ | ⟨q, _⟩ | ⟨q, _⟩ | ⟨q, _⟩ | ⟨_, q⟩
      · omega
      · omega
      · omega
      · omega
      · omega
      · exact q
    have e1 : kv_1 env of c (b :: a :: r) = kv_2 c a b :: r := kv_1t c0
    have hlr : (b :: a :: r).length = r.length + 2 := rfl
    rw [e1]
    exact kr_joins hP (by omega) hab
theorem kr_P.fr {vs : List Int} {s τ : jl_Mm} {F : jp_F} (h : kr_P vs s) (f : jp_fr F s τ) (w0 : jp_in F 206 106 = false) (w : ∀ i, jp_in F 284 i = false) : kr_P vs τ := ⟨(f.g _ _ w0).trans h.1, h.2.fr f w⟩
/-- the street's codes cs, told to their end -/
theorem kr_tellL {w to : Nat} {env : Int → Int} {of : Int → Int → Int} {s0 : jl_Mm} (hw : w < 3) (hto : to ≤ 1600) (h3 : jl_g s0 247 (3 + w) = (to : Int)) :
    ∀ (cs : List Int) (n k : Nat) (ts us : List Bool) (vs : List Int) (s : jl_Mm) (v : Int), k + cs.length = to → cs.length < n → kv_ok ts vs → vs.length ≤ 128 → jq_ty cs ts = some us → kr_P vs s → jp_fr kr_FP s0 s → (∀ i (h : i < cs.length), jl_g s0 248 (1600 + (k + i)) = cs[i]) → (∀ c ∈ cs, c < 60 ∨ 1000 ≤ c) → (∀ c ∈ cs, 40 ≤ c → c < 50 → kv_b (env c) ∧ ∀ τ, jp_fr kr_FP s0 τ → jf_X12_qPartOf (c - 40) 0 τ = some (env c, τ)) → kv_run env of cs vs = [v] → jE (jf_X12_codesTell_L19 n (w : Int) (k : Int) s) v kr_FP s (fun _ => True) := by
  have nf : ∀ c i, c ≠ 284 → c ≠ 206 → jp_in kr_FP c i = false := by intro c i h1 h2; simp [jp_in, kr_FP]; omega
  have ew : jl_add 3 (w : Int) = ((3 + w : Nat) : Int) := by rw [jp_add (by omega) (by omega)]; omega
  intro cs
  induction cs with
  | nil =>
    intro n k ts us vs s v hk hn hok hvl hty hP hf hc h60 he hr
    obtain ⟨n, rfl⟩ : ∃ j, n = j + 1 := ⟨n - 1, by omega⟩
    rw [kv_run] at hr
    subst hr
    rw [List.length_nil] at hk
    rw [jf_X12_codesTell_L19, ew, if_pos (by omega), Int.toNat_natCast, hf.g _ _ (nf _ _ (by omega) (by omega)), h3, if_pos (by omega), show ((0 : Int) : Int).toNat = 0 from rfl]
    have : jl_gl s 284 0 = v := hP.2.1
    rw [this]
    exact jE.ret trivial
  | cons c cs ih =>
    intro n k ts us vs s v hk hn hok hvl hty hP hf hc h60 he hr
    obtain ⟨n, rfl⟩ : ∃ j, n = j + 1 := ⟨n - 1, by omega⟩
    rw [List.length_cons] at hk hn
    rw [jq_ty] at hty
    cases h1 : jq_t1 c ts with
    | none => rw [h1] at hty; cases hty
    | some q =>
      rw [h1, Option.bind_some] at hty
      by_cases hq : q.length ≤ 128
      · rw [if_pos hq] at hty
        have ek : jl_add (k : Int) 1 = ((k + 1 : Nat) : Int) := jp_add (by omega) (by omega)
        have ec : jl_add 1600 (k : Int) = ((1600 + k : Nat) : Int) := by rw [jp_add (by omega) (by omega)]; omega
        have hc0 : jl_g s 248 (1600 + k) = c := by
          rw [hf.g _ _ (nf _ _ (by omega) (by omega))]
          exact hc 0 (by rw [List.length_cons]; omega)
        have he0 := he c (List.mem_cons_self ..)
        have h600 := h60 c (List.mem_cons_self ..)
        have ok' := kv_ok1 (env := env) (of := of) hok h1 (fun x y => (he0 x y).1) (fun x _ _ => by omega)
        have hd := kv_shape hok h1
        obtain ⟨o1, o2, o3, o4⟩ := kr_op (env := env) (of := of) hok h1 hvl hP
        have go : ∀ s', jp_fr kr_FP s s' → kr_P (kv_1 env of c vs) s' → jE (jf_X12_codesTell_B136 (jf_X12_codesTell_L19 n) (w : Int) (k : Int) s') v kr_FP s (fun _ => True) := by
          intro s' e2 e3
          rw [jf_X12_codesTell_B136, ek]
          exact jE.fr e2 (ih n (k + 1) q us _ s' v (by omega) (by omega) ok' (by rw [← kv_ok_len ok']; exact hq) hty e3 (hf.tr e2) (fun i hi => by
            have := hc (i + 1) (by rw [List.length_cons]; omega)
            rw [show k + 1 + i = k + (i + 1) by omega]
            exact this) (fun c hc => h60 c (List.mem_cons_of_mem _ hc)) (fun c hc => he c (List.mem_cons_of_mem _ hc)) hr)
        rw [jf_X12_codesTell_L19, ew, if_pos (by omega), Int.toNat_natCast, hf.g 247 _ (nf _ _ (by omega) (by omega)), h3, if_neg (by omega), ec, if_pos (by omega), Int.toNat_natCast, hc0, jp_let]
        rcases hd with ⟨c1, c2, c3⟩ | ⟨c1, -⟩ | ⟨c1, c2, c3⟩ | ⟨c1, c3⟩ | ⟨c1, -⟩ | ⟨c1, -⟩
        · obtain ⟨τ, t1, t2, t3⟩ := o1 c1
          rw [if_neg (by omega), t1, jp_bd]
          exact go τ t2 t3
        · omega
        · obtain ⟨b1, b2⟩ := he0 c1 c2
          have e1 : kv_1 env of c vs = env c :: vs := kv_1p ⟨c1, c2⟩
          rw [if_pos (by omega), if_neg (by omega), jp_sub (by omega) (by omega), b2 s hf, jp_bd]
          obtain ⟨τ, t1, t2, t3⟩ := kr_puts hP (by omega) b1
          rw [t1, jp_bd]
          exact go τ t2 (by rw [e1]; exact t3)
        · obtain ⟨τ, t1, t2, t3⟩ := o2 c1
          rw [if_pos (by omega), if_pos (by omega), if_pos c1, t1, jp_bd]
          exact go τ t2 t3
        · obtain ⟨τ, t1, t2, t3⟩ := o3 c1
          rw [if_pos (by omega), if_pos (by omega), if_neg (by omega), if_pos c1, t1]
          exact go τ t2 t3
        · obtain ⟨τ, t1, t2, t3⟩ := o4 c1
          rw [if_pos (by omega), if_pos (by omega), if_neg (by omega), if_neg (by omega), t1, jp_bd]
          exact go τ t2 t3
      · rw [if_neg hq] at hty; cases hty
/-- the question's codes cs, told to their end -/
theorem kr_toldL {to : Nat} {w : Int} {env : Int → Int} {of : Int → Int → Int} {s0 : jl_Mm} (hto : to ≤ 1600) (h3 : jl_g s0 206 100 = (to : Int)) :
    ∀ (cs : List Int) (n k : Nat) (ts us : List Bool) (vs : List Int) (s : jl_Mm) (v : Int), k + cs.length = to → cs.length < n → kv_ok ts vs → vs.length ≤ 128 → jq_ty cs ts = some us → kr_P vs s → jp_fr kr_FP s0 s → (∀ i (h : i < cs.length), jl_g s0 282 (k + i) = cs[i]) → (∀ c ∈ cs, 40 ≤ c → c < 50 → kv_b (env c) ∧ ∀ τ, jp_fr kr_FP s0 τ → jf_X12_qPartOf (c - 40) w τ = some (env c, τ)) → (∀ c ∈ cs, c = 60 ∨ c = 61 → ∀ v, kv_b v → kv_b (of c v) ∧ ∀ τ, jp_fr kr_FP s0 τ → jf_X12_qOf (c - 60) v w τ = some (of c v, τ)) → kv_run env of cs vs = [v] → jE (jf_X12_qTold_L7 n w (k : Int) s) v kr_FP s (fun _ => True) := by
  have nf : ∀ c i, c ≠ 284 → (c = 206 → i ≠ 106) → jp_in kr_FP c i = false := by intro c i h1 h2; simp [jp_in, kr_FP]; omega
  intro cs
  induction cs with
  | nil =>
    intro n k ts us vs s v hk hn hok hvl hty hP hf hc he ho hr
    obtain ⟨n, rfl⟩ : ∃ j, n = j + 1 := ⟨n - 1, by omega⟩
    rw [kv_run] at hr
    subst hr
    rw [List.length_nil] at hk
    rw [jf_X12_qTold_L7, hf.g _ _ (nf _ _ (by omega) (by omega)), h3, if_pos (by omega), show ((0 : Int) : Int).toNat = 0 from rfl]
    have : jl_gl s 284 0 = v := hP.2.1
    rw [this]
    exact jE.ret trivial
  | cons c cs ih =>
    intro n k ts us vs s v hk hn hok hvl hty hP hf hc he ho hr
    obtain ⟨n, rfl⟩ : ∃ j, n = j + 1 := ⟨n - 1, by omega⟩
    rw [List.length_cons] at hk hn
    rw [jq_ty] at hty
    cases h1 : jq_t1 c ts with
    | none => rw [h1] at hty; cases hty
    | some q =>
      rw [h1, Option.bind_some] at hty
      by_cases hq : q.length ≤ 128
      · rw [if_pos hq] at hty
        have ek : jl_add (k : Int) 1 = ((k + 1 : Nat) : Int) := jp_add (by omega) (by omega)
        have hc0 : jl_g s 282 k = c := by
          rw [hf.g _ _ (nf _ _ (by omega) (by omega))]
          exact hc 0 (by rw [List.length_cons]; omega)
        have he0 := he c (List.mem_cons_self ..)
        have ho0 := ho c (List.mem_cons_self ..)
        have ok' := kv_ok1 (env := env) (of := of) hok h1 (fun x y => (he0 x y).1) (fun x v hv => (ho0 x v hv).1)
        have hd := kv_shape hok h1
        obtain ⟨o1, o2, o3, o4⟩ := kr_op (env := env) (of := of) hok h1 hvl hP
        have go : ∀ s', jp_fr kr_FP s s' → kr_P (kv_1 env of c vs) s' → jE (jf_X12_qTold_B162 (jf_X12_qTold_L7 n) w (k : Int) s') v kr_FP s (fun _ => True) := by
          intro s' e2 e3
          rw [jf_X12_qTold_B162, ek]
          exact jE.fr e2 (ih n (k + 1) q us _ s' v (by omega) (by omega) ok' (by rw [← kv_ok_len ok']; exact hq) hty e3 (hf.tr e2) (fun i hi => by
            have := hc (i + 1) (by rw [List.length_cons]; omega)
            rw [show k + 1 + i = k + (i + 1) by omega]
            exact this) (fun c hc => he c (List.mem_cons_of_mem _ hc)) (fun c hc => ho c (List.mem_cons_of_mem _ hc)) hr)
        rw [jf_X12_qTold_L7, hf.g 206 _ (nf _ _ (by omega) (by omega)), h3, if_neg (by omega), if_pos (by omega), Int.toNat_natCast, hc0, jp_let]
        rcases hd with ⟨c1, c2, c3⟩ | ⟨c1, x, r, rfl, hx⟩ | ⟨c1, c2, c3⟩ | ⟨c1, c3⟩ | ⟨c1, -⟩ | ⟨c1, -⟩
        · obtain ⟨τ, t1, t2, t3⟩ := o1 c1
          rw [if_neg (by omega), t1, jp_bd]
          exact go τ t2 t3
        · have hlr : (x :: r).length = r.length + 1 := rfl
          have es : jl_sub (((x :: r).length : Nat) : Int) 1 = ((r.length : Nat) : Int) := by rw [jp_sub (by omega) (by omega)]; omega
          have e1 : kv_1 env of c (x :: r) = of c x :: r := kv_1o c1
          obtain ⟨b1, b2⟩ := ho0 c1 x hx
          have hx0 : jl_gl s 284 r.length = x := hP.2.1
          rw [if_pos (by omega), if_neg (by omega), hP.1, es, if_pos (by omega), Int.toNat_natCast, hx0, jp_sub (by omega) (by omega), b2 s hf, jp_bd, kr_clip b1.n6, jp_bd, if_pos (by omega), kv_cl_id b1, jp_lm]
          refine go _ (jp_fr.rf.up rfl) ?_
          rw [e1]
          refine ⟨?_, ?_, hP.2.2.up (Nat.le_refl _)⟩
          · rw [jp_g_ne (by decide), hP.1]; rfl
          · exact jp_gl_eq (by have := b1.1; omega) (by have := b1.2; omega)
        · obtain ⟨b1, b2⟩ := he0 c1 c2
          have e1 : kv_1 env of c vs = env c :: vs := kv_1p ⟨c1, c2⟩
          rw [if_pos (by omega), if_pos (by omega), if_neg (by omega), jp_sub (by omega) (by omega), b2 s hf, jp_bd, kr_clip b1.n6, jp_bd, kv_cl_id b1]
          obtain ⟨τ, t1, t2, t3⟩ := kr_puts hP (by omega) b1
          rw [t1, jp_bd]
          exact go τ t2 (by rw [e1]; exact t3)
        · obtain ⟨τ, t1, t2, t3⟩ := o2 c1
          rw [if_pos (by omega), if_pos (by omega), if_pos (by omega), if_pos c1, t1, jp_bd]
          exact go τ t2 t3
        · obtain ⟨τ, t1, t2, t3⟩ := o3 c1
          rw [if_pos (by omega), if_pos (by omega), if_pos (by omega), if_neg (by omega), if_pos c1, t1]
          exact go τ t2 t3
        · obtain ⟨τ, t1, t2, t3⟩ := o4 c1
          rw [if_pos (by omega), if_pos (by omega), if_pos (by omega), if_neg (by omega), if_neg (by omega), t1, jp_bd]
          exact go τ t2 t3
      · rw [if_neg hq] at hty; cases hty
