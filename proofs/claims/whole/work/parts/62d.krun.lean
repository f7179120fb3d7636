/-! PURE, the class: the codes -/
theorem kc_run1 {q1 q2 w k to n : Nat} {env : Int → Int} {of : Int → Int → Int} {c : Int} {ts us : List Bool} {vs : List Int} {s : jl_Mm} (hw : w < 3) (hk : k < to) (hto : to ≤ 1608) (h : kv_ok ts vs) (ht : jq_t1 c ts = some us) (hv128 : vs.length ≤ 128) (hu : us.length ≤ 128) (hS : kc_S vs s) (h3 : jl_g s (q2 + 3) w = (to : Int)) (hc : jl_g s (q2 + 1) k = jq_U c) (he : 40 ≤ c → c < 50 → kv_b (env c) ∧ jl_g s 192 (kv_wi c) = env c) (ho : c = 60 ∨ c = 61 → ∀ v, kv_b v → kv_b (of c v) ∧ jf_X5_ofOne q1 (c - 36) v s = some (of c v, s)) (hq1 : (jl_kd q1).1 = 7) :
    ∃ s', jf_X5_run_L11 (n + 1) q1 q2 (w : Int) ((vs.length : Nat) : Int) (k : Int) s = jf_X5_run_L11 n q1 q2 (w : Int) (((kv_1 env of c vs).length : Nat) : Int) ((k + 1 : Nat) : Int) s' ∧ jp_fr [(191, 0, 0)] s s' ∧ kc_S (kv_1 env of c vs) s' := by
  have hd := kv_shape h ht
  rcases hd with ⟨c1, c2, c3⟩ | ⟨c1, v, r, rfl, hv⟩ | ⟨c1, c2, c3⟩ | ⟨rfl, c3⟩ | ⟨rfl, v, r, rfl, hv⟩ | ⟨c1, b, a, r, rfl, hab⟩
  · have eU : jq_U c = c - 1000 := by rw [jq_U, if_pos c1]
    rw [kv_1n c1]
    rw [eU] at hc
    exact ⟨_, kc_stP hw hk hto (by rw [c3] at hu; exact Nat.lt_of_succ_le hu) h3 hc (ku_xorN ⟨by omega, by omega⟩) (by omega) (Or.inl ⟨by omega, rfl⟩), jp_fr.rf.up rfl, kc_push hS ⟨by omega, by omega⟩⟩
  · obtain ⟨o1, o2⟩ := ho c1 v hv
    have hx : jl_xor (jq_U c) (-1) = c - 36 := by rcases c1 with rfl | rfl <;> decide +kernel
    rw [kv_1o c1]
    exact ⟨_, kc_stO hw hk hto (Nat.lt_of_succ_le hv128) h3 hc hx (by omega) (by rw [hS.1]; exact o2), jp_fr.rf.up rfl, kc_push hS.2 o1⟩
  · obtain ⟨w1, w2, w3⟩ := kv_wi_t ⟨c1, c2⟩
    obtain ⟨b1, b2⟩ := he c1 c2
    rw [kv_1p ⟨c1, c2⟩]
    exact ⟨_, kc_stP hw hk hto (by rw [c3] at hu; exact Nat.lt_of_succ_le hu) h3 hc w2 (by omega) (Or.inr ⟨w1, Int.natCast_nonneg _, by rw [Int.toNat_natCast]; exact b2⟩), jp_fr.rf.up rfl, kc_push hS b1⟩
  · have eU : jq_U 13 = 1 := rfl
    rw [kv_1a]
    rw [eU] at hc
    exact ⟨_, kc_stP hw hk hto (by rw [c3] at hu; exact Nat.lt_of_succ_le hu) h3 hc (ku_xorN ⟨by decide, by decide⟩) (by decide) (Or.inl ⟨by decide, rfl⟩), jp_fr.rf.up rfl, kc_push hS ⟨by decide, by decide⟩⟩
  · have hx : jl_xor (jq_U 12) (-1) = 28 := by decide +kernel
    have e1v : jl_sub 1 v = 1 - v := jp_sub (by omega) (by omega)
    rw [kv_1x]
    exact ⟨_, kc_stO hw hk hto (Nat.lt_of_succ_le hv128) h3 hc hx (by decide) (by rw [hS.1, jf_X5_ofOne, if_pos hq1, if_neg (by decide), if_neg (by decide), e1v]), jp_fr.rf.up rfl, kc_push hS.2 ⟨by omega, by omega⟩⟩
  · obtain ⟨w1, w2, w3, w4, w5⟩ := kv_w2_t c1
    have hB : jl_g s 191 (r.length + 1) = b := hS.1
    have hA : jl_g s 191 r.length = a := hS.2.1
    rw [kv_1t c1]
    exact ⟨_, kc_stT (N := r.length + 1) hw hk hto rfl rfl hv128 h3 hc w1 ⟨w2, w3, w4, w5⟩ (by rw [hA, hB]; exact kc_two s hab), jp_fr.rf.up rfl, kc_push hS.2.2 (kv_2b hab)⟩
/-- the codes cs, told to their end -/
theorem kc_runL {q1 q2 w to : Nat} {env : Int → Int} {of : Int → Int → Int} {s0 : jl_Mm} (hw : w < 3) (hto : to ≤ 1608) (hq1 : (jl_kd q1).1 = 7) (hq2 : q2 + 3 < 191) (h3 : jl_g s0 (q2 + 3) w = (to : Int)) :
    ∀ (cs : List Int) (n k : Nat) (ts us : List Bool) (vs : List Int) (s : jl_Mm) (v : Int), k + cs.length = to → cs.length < n → kv_ok ts vs → vs.length ≤ 128 → jq_ty cs ts = some us → kc_S vs s → jp_fr [(191, 0, 0)] s0 s → (∀ i (h : i < cs.length), jl_g s0 (q2 + 1) (k + i) = jq_U cs[i]) → (∀ c ∈ cs, 40 ≤ c → c < 50 → kv_b (env c) ∧ jl_g s0 192 (kv_wi c) = env c) → (∀ c ∈ cs, c = 60 ∨ c = 61 → ∀ v, kv_b v → kv_b (of c v) ∧ ∀ τ, jp_fr [(191, 0, 0)] s0 τ → jf_X5_ofOne q1 (c - 36) v τ = some (of c v, τ)) → kv_run env of cs vs = [v] → jE (jf_X5_run_L11 n q1 q2 (w : Int) ((vs.length : Nat) : Int) (k : Int) s) v [(191, 0, 0)] s (fun _ => True) := by
  have nf : ∀ c i, c ≠ 191 → jp_in [(191, 0, 0)] c i = false := by intro c i hc; simp [jp_in]; omega
  intro cs
  induction cs with
  | nil =>
    intro n k ts us vs s v hk hn hok hvl hty hS hf hc he ho hr
    obtain ⟨n, rfl⟩ : ∃ j, n = j + 1 := ⟨n - 1, by omega⟩
    rw [kv_run] at hr
    subst hr
    rw [List.length_nil] at hk
    rw [jf_X5_run_L11, if_pos (by omega), Int.toNat_natCast, hf.g _ _ (nf _ _ (by omega)), h3, if_pos (by omega), if_neg (by rw [List.length_cons]; omega), jf_X5_run_B196]
    have : jl_g s 191 0 = v := hS.1
    rw [show ((0 : Int) : Int).toNat = 0 from rfl, this]
    exact jE.ret trivial
  | cons c cs ih =>
    intro n k ts us vs s v hk hn hok hvl hty hS hf hc he ho hr
    obtain ⟨n, rfl⟩ : ∃ j, n = j + 1 := ⟨n - 1, by omega⟩
    rw [List.length_cons] at hk hn
    rw [jq_ty] at hty
    cases h1 : jq_t1 c ts with
    | none => rw [h1] at hty; cases hty
    | some q =>
      rw [h1, Option.bind_some] at hty
      by_cases hq : q.length ≤ 128
      · rw [if_pos hq] at hty
        have hc0 : jl_g s (q2 + 1) k = jq_U c := by
          rw [hf.g _ _ (nf _ _ (by omega))]
          exact hc 0 (by rw [List.length_cons]; omega)
        have he0 := he c (List.mem_cons_self ..)
        have ho0 := ho c (List.mem_cons_self ..)
        obtain ⟨s', e1, e2, e3⟩ := kc_run1 (env := env) (of := of) (n := n) hw (by omega : k < to) hto hok h1 hvl hq hS (by rw [hf.g _ _ (nf _ _ (by omega))]; exact h3) hc0 (fun x y => ⟨(he0 x y).1, by rw [hf.g _ _ (nf _ _ (by omega))]; exact (he0 x y).2⟩) (fun x v hv => ⟨(ho0 x v hv).1, (ho0 x v hv).2 s hf⟩) hq1
        have ok' := kv_ok1 (env := env) (of := of) hok h1 (fun x y => (he0 x y).1) (fun x v hv => (ho0 x v hv).1)
        rw [e1]
        exact jE.fr e2 (ih n (k + 1) q us _ s' v (by omega) (by omega) ok' (by rw [← kv_ok_len ok']; exact hq) hty e3 (hf.tr e2) (fun i hi => by
          have := hc (i + 1) (by rw [List.length_cons]; omega)
          rw [show k + 1 + i = k + (i + 1) by omega]
          exact this) (fun c hc => he c (List.mem_cons_of_mem _ hc)) (fun c hc => ho c (List.mem_cons_of_mem _ hc)) hr)
      · rw [if_neg hq] at hty; cases hty
