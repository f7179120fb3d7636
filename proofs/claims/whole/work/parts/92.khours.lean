/-! PURE, both: the log, hours -/
theorem kc_add {q : Nat} {a : Nat → Int} {h l : Int} {s : jl_Mm} (hq : (jl_kd q).1 = 2) (hG : kc_G q a s) (hk : 0 ≤ a 24 ∧ a 24 ≤ 40) (hh : jl_n3 h) (hl : jl_n3 l) : jE (jf_X2_add q h l s) 0 [(q, 2, 4), (q + 1, 0, 0), (q + 2, 0, 0)] s (kc_G q (ks_push a h l)) := by
  obtain ⟨g3, f, hf, g2, g⟩ := hG
  obtain ⟨k, ek⟩ : ∃ k : Nat, a 24 = (k : Int) := ⟨(a 24).toNat, by omega⟩
  have er : jl_rem (jl_add (f : Int) (a 24)) 40 = (((f + k) % 40 : Nat) : Int) := by
    rw [ek, jp_add (by omega) (by omega), show (f : Int) + (k : Int) = ((f + k : Nat) : Int) from rfl, ku_rem40 _ (by omega)]
  have hx : (f + k) % 40 < 40 := Nat.mod_lt _ (by decide)
  rw [jf_X2_add, if_pos hq, g2, g3, er, jp_let, if_pos (by omega), Int.toNat_natCast, jp_lm, if_pos (by omega), jp_lm]
  have F1 : jp_fr [(q, 2, 4), (q + 1, 0, 0), (q + 2, 0, 0)] s (jl_up (jl_up s (q + 1) ((f + k) % 40) h) (q + 2) ((f + k) % 40) l) := (jp_fr.rf.up (by simp [jp_in])).up (by simp [jp_in])
  have v1 : ∀ i, jl_g (jl_up (jl_up s (q + 1) ((f + k) % 40) h) (q + 2) ((f + k) % 40) l) (q + 1) i = if i = (f + k) % 40 then h else jl_g s (q + 1) i := fun i => by
    rw [jp_g_ne (by omega)]
    by_cases c : i = (f + k) % 40
    · rw [if_pos c, c, jp_g_eq hh.1 hh.2]
    · rw [if_neg c, jp_g_nei c]
  have v2 : ∀ i, jl_g (jl_up (jl_up s (q + 1) ((f + k) % 40) h) (q + 2) ((f + k) % 40) l) (q + 2) i = if i = (f + k) % 40 then l else jl_g s (q + 2) i := fun i => by
    by_cases c : i = (f + k) % 40
    · rw [if_pos c, c, jp_g_eq hl.1 hl.2]
    · rw [if_neg c, jp_g_nei c, jp_g_ne (by omega)]
  have w2 : jl_g (jl_up (jl_up s (q + 1) ((f + k) % 40) h) (q + 2) ((f + k) % 40) l) q 2 = (f : Int) := by rw [jp_g_ne (by omega), jp_g_ne (by omega)]; exact g2
  have w3 : jl_g (jl_up (jl_up s (q + 1) ((f + k) % 40) h) (q + 2) ((f + k) % 40) l) q 3 = (k : Int) := by rw [jp_g_ne (by omega), jp_g_ne (by omega), g3, ek]
  generalize jl_up (jl_up s (q + 1) ((f + k) % 40) h) (q + 2) ((f + k) % 40) l = s1 at *
  rw [w3]
  by_cases c : k = 40
  · have er2 : jl_rem (jl_add (f : Int) 1) 40 = (((f + 1) % 40 : Nat) : Int) := by rw [jp_add (by omega) (by omega), ku_s, ku_rem40 _ (by omega)]
    have ea : a 24 = 40 := by omega
    rw [if_pos (by omega), w2, er2, jp_lm, jf_X2_add_B62]
    refine ⟨_, rfl, F1.up (by simp [jp_in]), ?_, (f + 1) % 40, Nat.mod_lt _ (by decide), jp_g_eq (by omega) (by omega), fun j hj => ?_⟩
    · rw [jp_g_nei (by decide), w3, ks_push_24 hk, if_pos ea]; omega
    · rw [ks_push_24 hk, if_pos ea] at hj
      rw [jp_g_ne (by omega), jp_g_ne (by omega), v1, v2, ks_push, if_pos ea]
      show _ = (if 25 + 2 * j = 104 then l else if 25 + 2 * j = 103 then h else if 25 ≤ 25 + 2 * j ∧ 25 + 2 * j < 103 then a (25 + 2 * j + 2) else a (25 + 2 * j)) ∧ _ = (if 26 + 2 * j = 104 then l else if 26 + 2 * j = 103 then h else if 25 ≤ 26 + 2 * j ∧ 26 + 2 * j < 103 then a (26 + 2 * j + 2) else a (26 + 2 * j))
      subst c
      by_cases c9 : j = 39
      · subst c9
        have q : ((f + 1) % 40 + 39) % 40 = (f + 40) % 40 := by omega
        refine ⟨?_, ?_⟩
        · rw [if_pos q, if_neg (by decide), if_pos (by decide)]
        · rw [if_pos q, if_pos (by decide)]
      · have := g (j + 1) (by omega)
        have q : ¬ ((f + 1) % 40 + j) % 40 = (f + 40) % 40 := by omega
        have qe : ((f + 1) % 40 + j) % 40 = (f + (j + 1)) % 40 := by omega
        refine ⟨?_, ?_⟩
        · rw [if_neg q, if_neg (by omega), if_neg (by omega), if_pos (by omega), qe, this.1, show 25 + 2 * (j + 1) = 25 + 2 * j + 2 by omega]
        · rw [if_neg q, if_neg (by omega), if_neg (by omega), if_pos (by omega), qe, this.2, show 26 + 2 * (j + 1) = 26 + 2 * j + 2 by omega]
  · have ea : ¬ a 24 = 40 := by omega
    rw [if_neg (by omega), jp_add (by omega) (by omega), jp_lm, jf_X2_add_B62]
    refine ⟨_, rfl, F1.up (by simp [jp_in]), ?_, f, hf, ?_, fun j hj => ?_⟩
    · rw [jp_g_eq (by omega) (by omega), ks_push_24 hk, if_neg ea]; omega
    · rw [jp_g_nei (by decide)]; exact w2
    · rw [ks_push_24 hk, if_neg ea] at hj
      rw [jp_g_ne (by omega), jp_g_ne (by omega), v1, v2, ks_push, if_neg ea]
      show _ = (if ((25 + 2 * j : Nat) : Int) = 26 + 2 * a 24 then l else if ((25 + 2 * j : Nat) : Int) = 25 + 2 * a 24 then h else if 25 + 2 * j = 24 then a 24 + 1 else a (25 + 2 * j)) ∧ _ = (if ((26 + 2 * j : Nat) : Int) = 26 + 2 * a 24 then l else if ((26 + 2 * j : Nat) : Int) = 25 + 2 * a 24 then h else if 26 + 2 * j = 24 then a 24 + 1 else a (26 + 2 * j))
      by_cases cj : j = k
      · subst cj
        refine ⟨?_, ?_⟩
        · rw [if_pos rfl, if_neg (by omega), if_pos (by omega)]
        · rw [if_pos rfl, if_pos (by omega)]
      · have := g j (by omega)
        have q : ¬ (f + j) % 40 = (f + k) % 40 := by omega
        refine ⟨?_, ?_⟩
        · rw [if_neg q, if_neg (by omega), if_neg (by omega), if_neg (by omega)]; exact this.1
        · rw [if_neg q, if_neg (by omega), if_neg (by omega), if_neg (by omega)]; exact this.2
theorem kc_addAll {q n : Nat} {a : Nat → Int} {h : Int} {p : Nat → Bool} {s : jl_Mm} (hq : (jl_kd q).1 = 2) (hG : kc_G q a s) (hk : 0 ≤ a 24 ∧ a 24 ≤ 40) (hh : jl_n3 h) (hn : n ≤ 8) : jE (jf_X2_addAll q h (ku_b p n) s) 0 [(q, 2, 4), (q + 1, 0, 0), (q + 2, 0, 0)] s (kc_G q (ks_log false a h p n)) := by
  rw [jf_X2_addAll, if_pos hq]
  have emin : ∀ l, n ≤ l → (if l < n then l else n) = n := fun l h => if_neg (by omega)
  refine ku_for (α := jl_Mm) (G := fun k l τ => jf_X2_addAll_L2 k q h (ku_b p n) ((l : Nat) : Int) τ) (N := 8) (P := fun o => jE o 0 [(q, 2, 4), (q + 1, 0, 0), (q + 2, 0, 0)] s (kc_G q (ks_log false a h p n))) (I := fun l τ => jp_fr [(q, 2, 4), (q + 1, 0, 0), (q + 2, 0, 0)] s τ ∧ kc_G q (ks_log false a h p (if l < n then l else n)) τ) (fun k l τ hl hI => Or.inr ?_) (fun k τ hI => ?_) 8 0 jl_fu s (by decide) (by decide) ⟨jp_fr.rf, ?_⟩
  · obtain ⟨hf, hI⟩ := hI
    have ea : jl_add (l : Int) 1 = ((l + 1 : Nat) : Int) := by rw [jp_add (by omega) (by omega)]; omega
    have hb : jl_and (jl_shr (ku_b p n) (l : Int)) 1 = if (decide (l < n) && p l) = true then 1 else 0 := by rw [jp_bit (by omega), ku_b_tb p (by omega) n (by omega)]
    show ∃ x, jf_X2_addAll_L2 (k + 1) q h (ku_b p n) (l : Int) τ = jf_X2_addAll_L2 k q h (ku_b p n) ((l + 1 : Nat) : Int) x ∧ _
    rw [jf_X2_addAll_L2, if_neg (by omega), hb]
    by_cases c : (decide (l < n) && p l) = true
    · have c' : l < n ∧ p l = true := by simpa using c
      rw [if_pos c'.1] at hI
      obtain ⟨υ, u1, u2, u3⟩ := kc_add (l := (l : Int)) hq hI (ks_log_24 hk l) hh ⟨by omega, by omega⟩
      have e : ks_log false a h p (l + 1) = ks_push (ks_log false a h p l) h ((l : Nat) : Int) := by rw [ks_log, if_pos ⟨c'.2, rfl⟩]
      rw [if_pos c, if_pos rfl, u1, jp_bd, jf_X2_addAll_B23, ea]
      refine ⟨υ, rfl, hf.tr u2, ?_⟩
      by_cases d : l + 1 < n
      · rw [if_pos d, e]; exact u3
      · rw [if_neg d, show n = l + 1 by omega, e]; exact u3
    · rw [if_neg c, if_neg (by decide), jf_X2_addAll_B23, ea]
      refine ⟨τ, rfl, hf, ?_⟩
      by_cases d : l < n
      · have np : ¬ p l = true := fun z => c (by simp [d, z])
        have e : ks_log false a h p (l + 1) = ks_log false a h p l := by rw [ks_log, if_neg (fun q => np q.1)]
        rw [if_pos d] at hI
        by_cases d2 : l + 1 < n
        · rw [if_pos d2, e]; exact hI
        · rw [if_neg d2, show n = l + 1 by omega, e]; exact hI
      · rw [if_neg d] at hI
        rw [if_neg (by omega)]; exact hI
  · show jE (jf_X2_addAll_L2 (k + 1) q h (ku_b p n) ((8 : Nat) : Int) τ) _ _ _ _
    rw [jf_X2_addAll_L2, if_pos (by decide)]
    obtain ⟨hf, hI⟩ := hI
    rw [if_neg (by omega)] at hI
    exact ⟨τ, rfl, hf, hI⟩
  · by_cases d : 0 < n
    · rw [if_pos d]; exact hG
    · rw [if_neg d, show n = 0 by omega]; exact hG
