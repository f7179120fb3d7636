/-! PURE, both: shorts, together, keystone -/
theorem ku_shr {v : Int} {n : Nat} (hv : jl_n3 v) (hn : n < 32) : jl_shr v (n : Int) = v / 2 ^ n := by
  have e : (BitVec.ofNat 32 n).toNat = n := by rw [BitVec.toNat_ofNat]; omega
  have h : (jl_i3 v).toBitVec.toInt = v := jl_to_i3 hv
  rw [jl_shr, Int32.toInt, Int32.toBitVec_shiftRight, jp_sh n hn, BitVec.sshiftRight', e, BitVec.toInt_sshiftRight, h, Int.shiftRight_eq_div_pow]
  rfl
theorem ku_p2 {n : Nat} (hn : n ≤ 8) : (1 : Int) ≤ 2 ^ n ∧ (2 : Int) ^ n ≤ 256 := by
  have h : n = 0 ∨ n = 1 ∨ n = 2 ∨ n = 3 ∨ n = 4 ∨ n = 5 ∨ n = 6 ∨ n = 7 ∨ n = 8 := by omega
  rcases h with rfl | rfl | rfl | rfl | rfl | rfl | rfl | rfl | rfl <;> decide
theorem ku_shl1 : ∀ n, n ≤ 8 → jl_shl 1 ((n : Nat) : Int) = 2 ^ n := by decide +kernel
theorem ku_shr0 {v : Int} {n : Nat} (hv : jl_n3 v) (h0 : 0 ≤ v) (hn : n ≤ 8) : jl_shr v (n : Int) = 0 ↔ v < 2 ^ n := by
  have hp := ku_p2 hn
  rw [ku_shr hv (by omega)]
  constructor
  · intro h
    rcases Int.lt_or_le v (2 ^ n) with q | q
    · exact q
    · have := Int.le_ediv_of_mul_le (a := 1) (b := v) (c := 2 ^ n) (by omega) (by omega)
      omega
  · intro h
    exact Int.ediv_eq_zero_of_lt h0 h
theorem ku_tb0 {v : Int} {n b : Nat} (hv : 0 ≤ v ∧ v < 2 ^ n) (hn : n ≤ 8) (hb : n ≤ b) (hb32 : b < 32) : jp_tb v b = false := by
  have hp := ku_p2 hn
  have h3 : jl_n3 v := ⟨by omega, by omega⟩
  have hlt : v < 2 ^ b := by
    have h2 : (2 : Int) ^ n ≤ 2 ^ b := by
      have := Nat.pow_le_pow_right (n := 2) (by decide) hb
      exact_mod_cast this
    omega
  have e := jp_bit (x := v) hb32
  rw [ku_shr h3 hb32, Int.ediv_eq_zero_of_lt hv.1 hlt] at e
  cases h : jp_tb v b with
  | false => rfl
  | true =>
    rw [h, if_pos rfl] at e
    have : jl_and 0 1 = 0 := by decide +kernel
    rw [this] at e
    cases e
def kp_shorts (Z : jz_Z) (Ds : Nat → List Int) (a : Nat → Int) (v n : Int) : Int := if (0 ≤ v ∧ v < ((ks_nl Z : Nat) : Int)) ∧ ¬ 0 < a (8 + v.toNat) ∧ (1 ≤ n ∧ n ≤ 40 ∧ a 0 + n ≤ 999) then kp_short Z Ds a (jl_shl 1 v) n.toNat else -1
theorem ku_s1b {l n : Nat} (hl : l < n) (hn : n ≤ 8) : ∀ b, n ≤ b → b < 32 → jp_tb (jl_shl 1 (l : Int)) b = false := by
  intro b hb hb32
  rw [jp_tb_s1 l (by omega) b hb32]
  exact decide_eq_false (by omega)
theorem kc_shorts {H : Nat} {Z : jz_Z} {Ds : Nat → List Int} {a : Nat → Int} {s : jl_Mm} (hz : kz_N Z Ds a) (hN : kc_N H Z Ds a s) (v n : Int) : jE (jf_X11_shorts v n s) (kp_shorts Z Ds a v n) kc_FA s (fun _ => True) := by
  have hl := hN.1.1.l
  have hV0 := hz.1.1
  rw [jf_X11_shorts, hN.1.isL, jp_bd, kp_shorts]
  by_cases c : 0 ≤ v ∧ v < ((ks_nl Z : Nat) : Int)
  · rw [if_pos c, if_neg (by decide), kc_isLit hN.1 hN.2.2, jp_bd]
    by_cases d : 0 < a (8 + v.toNat)
    · have e1 : (if (0 ≤ v ∧ v < ((ks_nl Z : Nat) : Int)) ∧ 0 < a (8 + v.toNat) then (1 : Int) else 0) = 1 := if_pos ⟨c, d⟩
      rw [e1, if_neg (by decide), if_neg (fun q => q.2.1 d)]
      exact jE.ret trivial
    · have e1 : (if (0 ≤ v ∧ v < ((ks_nl Z : Nat) : Int)) ∧ 0 < a (8 + v.toNat) then (1 : Int) else 0) = 0 := if_neg (fun q => d q.2)
      rw [e1, if_pos rfl, kc_comes hN.2.2 hV0, jp_bd]
      by_cases f : 1 ≤ n ∧ n ≤ 40 ∧ a 0 + n ≤ 999
      · rw [if_pos f, if_neg (by decide), if_pos ⟨c, d, f⟩]
        obtain ⟨k, rfl⟩ : ∃ k : Nat, n = (k : Int) := ⟨n.toNat, by omega⟩
        obtain ⟨l, rfl⟩ : ∃ l : Nat, v = (l : Int) := ⟨v.toNat, by omega⟩
        obtain ⟨τ, t1, t2, -⟩ := kc_short (set := jl_shl 1 (l : Int)) (n := k) hz hN (jp_shl_n _ _) (ku_s1b (by omega) hl.2) f.2.2
        rw [t1, jp_bd, Int.toNat_natCast]
        exact ⟨τ, rfl, t2, trivial⟩
      · rw [if_neg f, if_pos rfl, if_neg (fun q => f q.2.2)]
        exact jE.ret trivial
  · rw [if_neg c, if_pos rfl, if_neg (fun q => c q.1)]
    exact jE.ret trivial
theorem kr_shorts {Z : jz_Z} {Ds : Nat → List Int} {a : Nat → Int} {s : jl_Mm} (hz : kz_N Z Ds a) (hN : kr_N Z Ds a s) {v n : Int} (hv : jl_n3 v) (hn : jl_n3 n) : jE (jf_X12_shorts v n s) (kp_shorts Z Ds a v n) kr_FA s (kr_N Z Ds a) := by
  have hl := hN.1.1.l
  have hV0 := hz.1.1
  rw [jf_X12_shorts, hN.1.isL hv, jp_bd, kp_shorts]
  by_cases c : 0 ≤ v ∧ v < ((ks_nl Z : Nat) : Int)
  · obtain ⟨l, rfl⟩ : ∃ l : Nat, v = (l : Int) := ⟨v.toNat, by omega⟩
    have hnw := kz_nw (l := l) hN.1.1 hz.1 (by omega)
    rw [if_pos c, if_neg (by decide), hN.2.2.1.lit (by omega), jp_bd, Int.toNat_natCast]
    by_cases d : 0 < a (8 + l)
    · rw [if_pos d, if_neg (by decide), if_neg (fun q => q.2.1 d)]
      exact jE.ret hN
    · rw [if_neg d, if_pos rfl, kr_ahead hN.2.2.2.2 hN.2.2.1 ⟨hV0.1, hz.2.2.1⟩ hn (by decide) (by decide), jp_bd]
      by_cases f : 1 ≤ n ∧ n ≤ 40 ∧ a 0 + n ≤ 999
      · have e : (if 0 < ks_nw Z ∧ 1 ≤ n ∧ n ≤ 40 ∧ a 0 + n ≤ 999 then (1 : Int) else 0) = 1 := if_pos ⟨hnw, f⟩
        rw [e, if_neg (by decide), if_pos ⟨c, d, f⟩]
        obtain ⟨k, rfl⟩ : ∃ k : Nat, n = (k : Int) := ⟨n.toNat, by omega⟩
        obtain ⟨τ, t1, t2, t3⟩ := kr_short (set := jl_shl 1 (l : Int)) (n := k) hz hN (jp_shl_n _ _) f.2.2
        rw [t1, jp_bd, Int.toNat_natCast]
        exact ⟨τ, rfl, t2, t3⟩
      · have e : (if 0 < ks_nw Z ∧ 1 ≤ n ∧ n ≤ 40 ∧ a 0 + n ≤ 999 then (1 : Int) else 0) = 0 := if_neg (fun q => f q.2)
        rw [e, if_pos rfl, if_neg (fun q => f q.2.2)]
        exact jE.ret hN
  · rw [if_neg c, if_pos rfl, if_neg (fun q => c q.1)]
    exact jE.ret hN
def kp_together (Z : jz_Z) (Ds : Nat → List Int) (a : Nat → Int) (v n : Int) : Int := if (0 < v ∧ v < 2 ^ ks_nl Z) ∧ (1 ≤ n ∧ n ≤ 40 ∧ a 0 + n ≤ 999) then kp_short Z Ds a v n.toNat else -1
theorem kc_together {H : Nat} {Z : jz_Z} {Ds : Nat → List Int} {a : Nat → Int} {s : jl_Mm} (hz : kz_N Z Ds a) (hN : kc_N H Z Ds a s) {v : Int} (hv : jl_n3 v) (n : Int) : jE (jf_X11_together v n s) (kp_together Z Ds a v n) kc_FA s (fun _ => True) := by
  have hl := hN.1.1.l
  have hV0 := hz.1.1
  rw [jf_X11_together, hN.1.g0, hN.1.gr0, hN.1.n3, kp_together]
  by_cases c : v ≤ 0
  · rw [if_pos c, if_neg (fun q => by omega)]
    exact jE.ret trivial
  · rw [if_neg c]
    by_cases d : v < 2 ^ ks_nl Z
    · rw [if_pos ((ku_shr0 hv (by omega) hl.2).mpr d), kc_comes hN.2.2 hV0, jp_bd]
      by_cases f : 1 ≤ n ∧ n ≤ 40 ∧ a 0 + n ≤ 999
      · rw [if_pos f, if_neg (by decide), if_pos ⟨⟨by omega, d⟩, f⟩]
        obtain ⟨k, rfl⟩ : ∃ k : Nat, n = (k : Int) := ⟨n.toNat, by omega⟩
        obtain ⟨τ, t1, t2, -⟩ := kc_short (set := v) (n := k) hz hN hv (fun b h1 h2 => ku_tb0 ⟨by omega, d⟩ hl.2 h1 h2) f.2.2
        rw [t1, jp_bd, Int.toNat_natCast]
        exact ⟨τ, rfl, t2, trivial⟩
      · rw [if_neg f, if_pos rfl, if_neg (fun q => f q.2)]
        exact jE.ret trivial
    · rw [if_neg (fun q => d ((ku_shr0 hv (by omega) hl.2).mp q)), if_neg (fun q => d q.1.2)]
      exact jE.ret trivial
theorem kr_together {Z : jz_Z} {Ds : Nat → List Int} {a : Nat → Int} {s : jl_Mm} (hz : kz_N Z Ds a) (hN : kr_N Z Ds a s) {v n : Int} (hv : jl_n3 v) (hn : jl_n3 n) : jE (jf_X12_together v n s) (kp_together Z Ds a v n) kr_FA s (kr_N Z Ds a) := by
  have hl := hN.1.1.l
  have hV0 := hz.1.1
  rw [jf_X12_together, hN.1.nl, jp_bd, ku_shl1 _ hl.2, kp_together]
  by_cases c : v ≤ 0
  · rw [if_pos c, if_neg (fun q => by omega)]
    exact jE.ret hN
  · rw [if_neg c]
    by_cases d : v < 2 ^ ks_nl Z
    · have h0 : 0 < ks_nl Z := by
        rcases Nat.eq_zero_or_pos (ks_nl Z) with q | q
        · rw [q] at d; omega
        · exact q
      have hnw := kz_nw (l := 0) hN.1.1 hz.1 h0
      rw [if_neg (by omega), kr_ahead hN.2.2.2.2 hN.2.2.1 ⟨hV0.1, hz.2.2.1⟩ hn (by decide) (by decide), jp_bd]
      by_cases f : 1 ≤ n ∧ n ≤ 40 ∧ a 0 + n ≤ 999
      · have e : (if 0 < ks_nw Z ∧ 1 ≤ n ∧ n ≤ 40 ∧ a 0 + n ≤ 999 then (1 : Int) else 0) = 1 := if_pos ⟨hnw, f⟩
        rw [e, if_neg (by decide), if_pos ⟨⟨by omega, d⟩, f⟩]
        obtain ⟨k, rfl⟩ : ∃ k : Nat, n = (k : Int) := ⟨n.toNat, by omega⟩
        obtain ⟨τ, t1, t2, t3⟩ := kr_short (set := v) (n := k) hz hN hv f.2.2
        rw [t1, jp_bd, Int.toNat_natCast]
        exact ⟨τ, rfl, t2, t3⟩
      · have e : (if 0 < ks_nw Z ∧ 1 ≤ n ∧ n ≤ 40 ∧ a 0 + n ≤ 999 then (1 : Int) else 0) = 0 := if_neg (fun q => f q.2)
        rw [e, if_pos rfl, if_neg (fun q => f q.2)]
        exact jE.ret hN
    · rw [if_pos (by omega), if_neg (fun q => d q.1.2)]
      exact jE.ret hN
