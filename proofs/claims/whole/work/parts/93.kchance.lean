/-! PURE, both: draws, chance -/
theorem ku_divG {a b : Int} (ha : 0 ≤ a ∧ a < 2147483648) (hb : 0 < b ∧ b < 2147483648) : jl_div a b = a / b ∧ jl_rem a b = a % b := by
  have n1 : jl_n3 a := ⟨by omega, by omega⟩
  have n2 : jl_n3 b := ⟨by omega, by omega⟩
  have et : a.tdiv b = a / b := Int.tdiv_eq_ediv_of_nonneg ha.1
  have q0 : 0 ≤ a / b := Int.ediv_nonneg ha.1 (by omega)
  have q1 : a / b ≤ a := Int.ediv_le_self _ ha.1
  have r0 : 0 ≤ a % b := Int.emod_nonneg _ (by omega)
  have r1 : a % b < b := Int.emod_lt_of_pos _ hb.1
  have dm : a - a / b * b = a % b := by have := Int.emod_add_mul_ediv a b; rw [Int.mul_comm b] at this; omega
  have e1 : jl_div a b = a / b := by
    rw [jl_div, Int32.toInt_div, jl_to_i3 n1, jl_to_i3 n2, et]
    exact Int.bmod_eq_of_le (by omega) (by omega)
  have e : jl_i3 a / jl_i3 b = jl_i3 (a / b) := by
    apply Int32.toInt_inj.mp
    rw [jl_to_i3 (⟨by omega, by omega⟩ : jl_n3 (a / b))]
    exact e1
  have e2 : jl_i3 (a / b) * jl_i3 b = jl_i3 (a / b * b) := (Int32.ofInt_mul _ _).symm
  refine ⟨e1, ?_⟩
  rw [jl_rem, e, e2, show jl_i3 a - jl_i3 (a / b * b) = jl_i3 (a - a / b * b) from (Int32.ofInt_sub _ _).symm, dm, show (jl_i3 (a % b)).toInt = a % b from jl_to_i3 ⟨by omega, by omega⟩]
theorem ku_ldivG {a b : Int} (ha : 0 ≤ a ∧ a < 4611686018427387904) (hb : 0 < b ∧ b < 4611686018427387904) : jl_ldiv a b = a / b ∧ jl_lrem a b = a % b := by
  have n1 : jl_n6 a := ⟨by omega, by omega⟩
  have n2 : jl_n6 b := ⟨by omega, by omega⟩
  have et : a.tdiv b = a / b := Int.tdiv_eq_ediv_of_nonneg ha.1
  have q0 : 0 ≤ a / b := Int.ediv_nonneg ha.1 (by omega)
  have q1 : a / b ≤ a := Int.ediv_le_self _ ha.1
  have r0 : 0 ≤ a % b := Int.emod_nonneg _ (by omega)
  have r1 : a % b < b := Int.emod_lt_of_pos _ hb.1
  have dm : a - a / b * b = a % b := by have := Int.emod_add_mul_ediv a b; rw [Int.mul_comm b] at this; omega
  have e1 : jl_ldiv a b = a / b := by
    rw [jl_ldiv, Int64.toInt_div, jl_to_i6 n1, jl_to_i6 n2, et]
    exact Int.bmod_eq_of_le (by omega) (by omega)
  have e : jl_i6 a / jl_i6 b = jl_i6 (a / b) := by
    apply Int64.toInt_inj.mp
    rw [jl_to_i6 (⟨by omega, by omega⟩ : jl_n6 (a / b))]
    exact e1
  have e2 : jl_i6 (a / b) * jl_i6 b = jl_i6 (a / b * b) := (Int64.ofInt_mul _ _).symm
  refine ⟨e1, ?_⟩
  rw [jl_lrem, e, e2, show jl_i6 a - jl_i6 (a / b * b) = jl_i6 (a - a / b * b) from (Int64.ofInt_sub _ _).symm, dm, show (jl_i6 (a % b)).toInt = a % b from jl_to_i6 ⟨by omega, by omega⟩]
theorem ku_land31 {v : Int} (h0 : 0 ≤ v) (h1 : v < 9223372036854775808) : jl_land v 2147483647 = v % 2147483648 := by
  obtain ⟨n, rfl⟩ : ∃ n : Nat, v = (n : Int) := ⟨v.toNat, by omega⟩
  have e1 : (jl_i6 (n : Int)).toBitVec.toNat = n := by
    have : (jl_i6 (n : Int)).toBitVec.toInt = (n : Int) := jl_to_i6 ⟨by omega, h1⟩
    have h2 := BitVec.toInt_eq_toNat_bmod (jl_i6 (n : Int)).toBitVec
    have h3 : (jl_i6 (n : Int)).toBitVec.toNat < 2 ^ 64 := (jl_i6 (n : Int)).toBitVec.isLt
    rw [this] at h2
    rw [Int.bmod_def] at h2
    split at h2 <;> omega
  have e2 : (jl_i6 2147483647).toBitVec.toNat = 2 ^ 31 - 1 := by decide +kernel
  have e3 : (jl_i6 (n : Int) &&& jl_i6 2147483647).toBitVec.toNat = n % 2 ^ 31 := by
    rw [Int64.toBitVec_and, BitVec.toNat_and, e1, e2, Nat.and_two_pow_sub_one_eq_mod]
  rw [jl_land]
  have e4 : (jl_i6 (n : Int) &&& jl_i6 2147483647).toInt = ((jl_i6 (n : Int) &&& jl_i6 2147483647).toBitVec.toNat : Int) := BitVec.toInt_eq_toNat_of_lt (by omega)
  rw [e4, e3]; omega
def ks_next (sd : Int) : Int := (1103515245 * sd + 12345) % 2147483648
theorem ks_next_b (sd : Int) : 0 ≤ ks_next sd ∧ ks_next sd < 2147483648 := ⟨Int.emod_nonneg _ (by decide), Int.emod_lt_of_pos _ (by decide)⟩
def ks_draw (sd m : Int) : Int := ks_next sd / 64 % m
theorem ks_draw_b {sd m : Int} (h : 0 < m) : 0 ≤ ks_draw sd m ∧ ks_draw sd m < m := ⟨Int.emod_nonneg _ (by omega), Int.emod_lt_of_pos _ h⟩
theorem kc_draw {sd m : Int} {s : jl_Mm} (h : jl_g s 0 17 = sd) (hs : 0 ≤ sd ∧ sd < 2147483648) (hm : 0 < m ∧ m ≤ 100) : jf_X11_draw m s = some (ks_draw sd m, jl_up s 0 17 (ks_next sd)) := by
  have b := ks_next_b sd
  have e : jl_l2i (jl_land (jl_ladd (jl_lmul 1103515245 sd) 12345) 2147483647) = ks_next sd := by
    rw [jp_lmul (by omega) (by omega), jp_ladd (by omega) (by omega), ku_land31 (by omega) (by omega)]
    exact ku_l2i ⟨by have := b.1; show -2147483648 ≤ ks_next sd; omega, b.2⟩
  have q0 : 0 ≤ ks_next sd / 64 ∧ ks_next sd / 64 < 2147483648 := by omega
  rw [jf_X11_draw, h, e, jp_lm, if_neg (by omega), if_pos (by omega), jp_g_eq (by omega) b.2, (ku_divG b ⟨by decide, by decide⟩).1, (ku_divG q0 (by omega)).2, jf_X11_draw_B39]
  rfl
theorem kr_draw {sd m : Int} {s : jl_Mm} (h : jl_gl s 206 74 = sd) (hs : 0 ≤ sd ∧ sd < 2147483648) (hm : 0 < m ∧ m ≤ 100) : jf_X12_drawOf m s = some (ks_draw sd m, jl_up s 206 74 (ks_next sd)) := by
  have b := ks_next_b sd
  have e : jl_lrem (jl_ladd (jl_lmul 1103515245 sd) 12345) 2147483648 = ks_next sd := by
    rw [jp_lmul (by omega) (by omega), jp_ladd (by omega) (by omega), (ku_ldivG (by omega) (by omega)).2]; rfl
  have q := ks_draw_b (sd := sd) hm.1
  have e2 : jl_lrem (ks_next sd / 64) m = ks_draw sd m := (ku_ldivG (by omega) (by omega)).2
  rw [jf_X12_drawOf, h, e, jp_lm, if_pos (by omega), jp_gl_eq (by omega) (by omega), (ku_ldivG (by omega) (by omega)).1, e2, ku_l2i ⟨by omega, by omega⟩]
theorem kd_uu {d : kD} {k i : Nat} {v w : Int} : kd_u (kd_u d k i v) k i w = kd_u d k i w := by
  funext k' i'
  by_cases c : k' = k
  · subst c
    by_cases e : i' = i
    · subst e; rw [kd_e, kd_e]
    · rw [kd_ni e, kd_ni e, kd_ni e]
  · rw [kd_n c, kd_n c, kd_n c]
theorem kc_M.seed {d : kD} {s : jl_Mm} {v : Int} (M : kc_M d s) (hv : 0 ≤ v ∧ v < 2147483648) : kc_M (kd_u d 8 0 v) (jl_up s 0 17 v) := by
  have e : ∀ k, k ≠ 8 → kd_u d 8 0 v k = d k := fun k h => kd_n h
  have e3 : kd_u d 8 0 v 8 0 = v := kd_e
  have f : jp_fr [(0, 17, 18)] s (jl_up s 0 17 v) := jp_fr.rf.up (by decide)
  have nf : ∀ {c i : Nat}, (c = 0 → i ≠ 17) → jp_in [(0, 17, 18)] c i = false := by intro c i h; simp [jp_in]; omega
  obtain ⟨h1, h2, h3, h4, h5, h6⟩ := M
  refine ⟨?_, ?_, ?_, ?_, ?_, ?_⟩
  · rw [e 0 (by decide)]; intro i hi; rw [f.g _ _ (nf (by intro z; omega))]; exact h1 i hi
  · rw [e 1 (by decide), f.g _ _ (nf (by decide)), f.g _ _ (nf (by decide))]; exact h2
  · rw [e 3 (by decide), e 2 (by decide), f.g _ _ (nf (by decide))]; exact ⟨h3.1, fun i hi => (f.g _ _ (nf (by intro z; omega))).trans (h3.2 i hi)⟩
  · rw [e 5 (by decide), e 4 (by decide), f.g _ _ (nf (by decide))]; exact ⟨h4.1, fun i hi => (f.g _ _ (nf (by intro z; omega))).trans (h4.2 i hi)⟩
  · rw [e 7 (by decide), e 6 (by decide), f.g _ _ (nf (by decide))]; exact ⟨h5.1, fun i hi => (f.g _ _ (nf (by intro z; omega))).trans (h5.2 i hi)⟩
  · rw [e3]; exact jp_g_eq (by omega) (by omega)
theorem kr_M.seed {d : kD} {s : jl_Mm} {v : Int} (M : kr_M d s) (hv : 0 ≤ v ∧ v < 2147483648) : kr_M (kd_u d 8 0 v) (jl_up s 206 74 v) := by
  have e : ∀ k, k ≠ 8 → kd_u d 8 0 v k = d k := fun k h => kd_n h
  have e3 : kd_u d 8 0 v 8 0 = v := kd_e
  have f : jp_fr [(206, 74, 75)] s (jl_up s 206 74 v) := jp_fr.rf.up (by decide)
  have nf : ∀ {c i : Nat}, (c = 206 → i ≠ 74) → jp_in [(206, 74, 75)] c i = false := by intro c i h; simp [jp_in]; omega
  obtain ⟨h1, h2, h3, h4, h5, h6⟩ := M
  refine ⟨?_, ?_, ?_, ?_, ?_, ?_⟩
  · rw [e 0 (by decide)]; intro i hi; rw [f.g _ _ (nf (by intro z; omega))]; exact h1 i hi
  · rw [e 1 (by decide), f.g _ _ (nf (by decide)), f.g _ _ (nf (by decide))]; exact h2
  · rw [e 3 (by decide), e 2 (by decide), f.g _ _ (nf (by decide))]; exact ⟨h3.1, fun i hi => (f.g _ _ (nf (by intro z; omega))).trans (h3.2 i hi)⟩
  · rw [e 5 (by decide), e 4 (by decide), f.g _ _ (nf (by decide))]; exact ⟨h4.1, fun i hi => (f.g _ _ (nf (by intro z; omega))).trans (h4.2 i hi)⟩
  · rw [e 7 (by decide), e 6 (by decide), f.g _ _ (nf (by decide))]; exact ⟨h5.1, fun i hi => (f.g _ _ (nf (by intro z; omega))).trans (h5.2 i hi)⟩
  · rw [e3]; exact jp_gl_eq (by omega) (by omega)
theorem kIc.seed {Z : jz_Z} {Ds : Nat → List Int} {a : Nat → Int} {d : kD} {nx n : Nat} {s : jl_Mm} {v : Int} (h : kIc Z Ds a d nx n s) (hv : 0 ≤ v ∧ v < 2147483648) : kIc Z Ds a (kd_u d 8 0 v) nx n (jl_up s 0 17 v) :=
  h.m (F := [(0, 17, 18)]) (jp_fr.rf.up (by decide)) (by intro c i h1 h2; simp [jp_in]; omega) ⟨by decide, by decide⟩ (fun k hk => kd_n (by omega)) (h.M.seed hv)
theorem kIr.seed {Z : jz_Z} {Ds : Nat → List Int} {a : Nat → Int} {d : kD} {nx n : Nat} {s : jl_Mm} {v : Int} (h : kIr Z Ds a d nx n s) (hv : 0 ≤ v ∧ v < 2147483648) : kIr Z Ds a (kd_u d 8 0 v) nx n (jl_up s 206 74 v) :=
  h.m (F := [(206, 74, 75)]) (jp_fr.rf.up (by decide)) (by intro c i h1 h2; simp [jp_in]; omega) (by intro c i h1 h2; simp [jp_in]; omega) ⟨by decide, by decide, by decide, by decide⟩ (fun k hk => kd_n (by omega)) (h.2.1.seed hv)
theorem ks_blowL_N {Z : jz_Z} {Ds : Nat → List Int} {a : Nat → Int} {w : Int} (hZ : kz_V Z) (h : kz_N Z Ds a) : kz_N Z Ds (ks_blowL false Z a w) ∧ ks_blowL false Z a w 0 = a 0 := by
  have h8 := hZ.l
  have v := ks_blow_V (w := w) hZ h.1 (ks_nl Z) (Nat.le_refl _)
  have m0 : ks_blowL false Z a w 0 = a 0 := by rw [ks_blowL, ks_mixL (by decide), ks_blow, ks_blow_o _ h8.2 (by omega)]
  have l24 := ks_log_24 (th := false) (h := a 0) (p := ks_hitP Z a w) h.2.2.2 (ks_nl Z)
  refine ⟨⟨v.cg hZ (fun j hj => (ks_mixL hj).symm), h.2.1, by rw [m0]; exact h.2.2.1, ?_⟩, m0⟩
  rw [ks_blowL, ks_mixH (by decide)]; exact l24
theorem kc_gust {Z : jz_Z} {Ds : Nat → List Int} {a : Nat → Int} {d : kD} {nx n : Nat} {s : jl_Mm} (h : kIc Z Ds a d nx n s) (hN : kz_N Z Ds a) (w : Int) : ∃ s1 s2, jf_X5_blow 40 w s = some (ku_b (ks_hitP Z a w) (ks_nl Z), s1) ∧ jf_X2_addAll 44 (a 0) (ku_b (ks_hitP Z a w) (ks_nl Z)) s1 = some (0, s2) ∧ jp_fr kc_FX s s2 ∧ kIc Z Ds (ks_blowL false Z a w) d nx n s2 := by
  obtain ⟨H, ⟨hW, hK, hA⟩, hG⟩ := h.nA
  have h8 := hW.1.l
  have h0 := hN.1.1
  obtain ⟨s1, t1, f1, A1⟩ := kc_blow (q := 40) (Or.inl rfl) hW hA w
  have G1 : kc_G 44 a s1 := hG.fr f1 (fun c i _ _ => kc_FQn (by omega) (by omega) (by omega))
  obtain ⟨s2, t2, f2, G2⟩ := kc_addAll (q := 44) (n := ks_nl Z) (h := a 0) (p := ks_hitP Z a w) (by decide +kernel) G1 hN.2.2.2 ⟨by omega, by omega⟩ h8.2
  have F : jp_fr kc_FX s s2 := (kc_FQX f1).tr (f2.ws (by intro c i h; simp [jp_in, kc_FX] at h ⊢; omega))
  have nl : ∀ {c i : Nat}, c < 44 → jp_in [(44, 2, 4), (44 + 1, 0, 0), (44 + 2, 0, 0)] c i = false := by intro c i h; simp [jp_in]; omega
  refine ⟨s1, s2, t1, t2, F, h.X F ?_ ?_⟩
  · exact (A1.fr f2 (nl (by decide)) (nl (by decide)) (fun c i _ _ => nl (by omega))).cg (fun j hj => by rw [ks_blowL, ks_mixL hj])
  · have l24 := ks_log_24 (th := false) (h := a 0) (p := ks_hitP Z a w) hN.2.2.2 (ks_nl Z)
    exact G2.cg (fun j hj _ => by rw [ks_blowL, ks_mixH hj]) l24.2
theorem kr_gust {Z : jz_Z} {Ds : Nat → List Int} {a : Nat → Int} {d : kD} {nx n : Nat} {s : jl_Mm} (h : kIr Z Ds a d nx n s) (hN : kz_N Z Ds a) (w : Int) : jE (jf_X12_blows w s) 0 kr_FX s (kIr Z Ds (ks_blowL false Z a w) d nx n) := by
  obtain ⟨hW, hK, hA, h63, h54⟩ := h.1
  obtain ⟨τ, t1, t2, t3⟩ := kr_blows (th := false) hW hA (by rw [h63]; rfl) hN.2.2.2 w
  have t2' : jp_fr kr_FX s τ := t2.w (by decide)
  exact ⟨τ, t1, t2', h.X t2' t3⟩
/-- an hour with its chance of a gust: an hour's places, the seed, how many gusts -/
abbrev ks_guS : Type := (Nat → Int) × Int × Int
def ks_gu1 (Z : jz_Z) (Ds : Nat → List Int) (x : ks_guS) : ks_guS :=
  if Z.1 6 ≤ ks_draw x.2.1 100 then (ks_hourL false Z Ds x.1, ks_next x.2.1, x.2.2)
  else (ks_hourL false Z Ds (ks_blowL false Z x.1 (ks_draw (ks_next x.2.1) ((ks_nw Z : Nat) : Int))), ks_next (ks_next x.2.1), x.2.2 + 1)
theorem ks_gu1_t {Z : jz_Z} {Ds : Nat → List Int} {x : ks_guS} (c : Z.1 6 ≤ ks_draw x.2.1 100) : ks_gu1 Z Ds x = (ks_hourL false Z Ds x.1, ks_next x.2.1, x.2.2) := if_pos c
theorem ks_gu1_f {Z : jz_Z} {Ds : Nat → List Int} {x : ks_guS} (c : ¬ Z.1 6 ≤ ks_draw x.2.1 100) : ks_gu1 Z Ds x = (ks_hourL false Z Ds (ks_blowL false Z x.1 (ks_draw (ks_next x.2.1) ((ks_nw Z : Nat) : Int))), ks_next (ks_next x.2.1), x.2.2 + 1) := if_neg c
def ks_gu (Z : jz_Z) (Ds : Nat → List Int) (a : Nat → Int) (sd : Int) : Nat → ks_guS
  | 0 => (a, sd, 0)
  | n + 1 => ks_gu1 Z Ds (ks_gu Z Ds a sd n)
theorem ks_gu_N {Z : jz_Z} {Ds : Nat → List Int} {a : Nat → Int} {sd : Int} (hZ : kz_V Z) (h : kz_N Z Ds a) (hs : 0 ≤ sd ∧ sd < 2147483648) : ∀ n : Nat, a 0 + (n : Int) ≤ 999 → kz_N Z Ds (ks_gu Z Ds a sd n).1 ∧ (ks_gu Z Ds a sd n).1 0 = a 0 + (n : Int) ∧ (0 ≤ (ks_gu Z Ds a sd n).2.1 ∧ (ks_gu Z Ds a sd n).2.1 < 2147483648) ∧ (0 ≤ (ks_gu Z Ds a sd n).2.2 ∧ (ks_gu Z Ds a sd n).2.2 ≤ (n : Int))
  | 0, _ => ⟨h, by show a 0 = _; omega, hs, by show (0 : Int) ≤ 0 ∧ (0 : Int) ≤ _; omega⟩
  | n + 1, h9 => by
    obtain ⟨x, y, z, w⟩ := ks_gu_N hZ h hs n (by omega)
    rw [ks_gu]
    by_cases c : Z.1 6 ≤ ks_draw (ks_gu Z Ds a sd n).2.1 100
    · rw [ks_gu1_t c]
      obtain ⟨p, q⟩ := ks_hourL_N hZ x (by omega)
      exact ⟨p, by show ks_hourL false Z Ds _ 0 = _; rw [q, y]; omega, ks_next_b _, by show 0 ≤ (ks_gu Z Ds a sd n).2.2 ∧ (ks_gu Z Ds a sd n).2.2 ≤ _; omega⟩
    · rw [ks_gu1_f c]
      obtain ⟨b1, b2⟩ := ks_blowL_N (w := ks_draw (ks_next (ks_gu Z Ds a sd n).2.1) ((ks_nw Z : Nat) : Int)) hZ x
      obtain ⟨p, q⟩ := ks_hourL_N hZ b1 (by omega)
      exact ⟨p, by show ks_hourL false Z Ds _ 0 = _; rw [q, b2, y]; omega, ks_next_b _, by show 0 ≤ (ks_gu Z Ds a sd n).2.2 + 1 ∧ (ks_gu Z Ds a sd n).2.2 + 1 ≤ _; omega⟩
def kc_FY : jp_F := [(0, 17, 18), (40, 0, 0), (41, 0, 0), (42, 0, 0), (43, 0, 0), (44, 0, 0), (45, 0, 0), (46, 0, 0), (191, 0, 0), (192, 0, 0), (193, 0, 0)]
def kr_FY : jp_F := [(206, 74, 75), (249, 0, 0), (251, 0, 0), (206, 61, 62), (206, 57, 58), (250, 0, 0), (206, 58, 59), (284, 0, 0), (206, 106, 107), (206, 55, 56)]
theorem kc_gu1 {Z : jz_Z} {Ds : Nat → List Int} {x : ks_guS} {d : kD} {nx n k l m : Nat} {s : jl_Mm} (h : kIc Z Ds x.1 (kd_u d 8 0 x.2.1) nx n s) (hN : kz_N Z Ds x.1) (h9 : x.1 0 < 999) (hs : 0 ≤ x.2.1 ∧ x.2.1 < 2147483648) (hw : 0 < ks_nw Z) (hl : l < m) (hm : m ≤ 100) (hg : 0 ≤ x.2.2 ∧ x.2.2 ≤ 100) :
    ∃ τ, jf_X11_chance_L46 (k + 1) (m : Int) x.2.2 (l : Int) s = jf_X11_chance_L46 k (m : Int) (ks_gu1 Z Ds x).2.2 ((l + 1 : Nat) : Int) τ ∧ jp_fr kc_FY s τ ∧ kIc Z Ds (ks_gu1 Z Ds x).1 (kd_u d 8 0 (ks_gu1 Z Ds x).2.1) nx n τ := by
  have hZ := h.N
  have h30 := hZ.w
  have e17 : jl_g s 0 17 = x.2.1 := by rw [h.M.2.2.2.2.2]; exact kd_e
  have b1 := ks_next_b x.2.1
  have I1 := h.seed b1
  rw [kd_uu] at I1
  have f1 : jp_fr kc_FY s (jl_up s 0 17 (ks_next x.2.1)) := jp_fr.rf.up (by decide)
  have g1 : jl_g (jl_up s 0 17 (ks_next x.2.1)) 0 17 = ks_next x.2.1 := jp_g_eq (by omega) b1.2
  have ea : jl_add (l : Int) 1 = ((l + 1 : Nat) : Int) := by rw [jp_add (by omega) (by omega)]; omega
  rw [jf_X11_chance_L46, if_neg (by omega), kc_draw e17 hs ⟨by decide, by decide⟩, jp_bd]
  generalize jl_up s 0 17 (ks_next x.2.1) = s1 at *
  obtain ⟨H, ⟨hW, hK, hA⟩, hG⟩ := I1.nA
  have e6 : jl_g s1 H 6 = Z.1 6 := hW.2.2.2.2.1 6 (by decide)
  rw [hW.g0, hW.gr0, e6]
  by_cases c : Z.1 6 ≤ ks_draw x.2.1 100
  · obtain ⟨τ, t1, t2, t3⟩ := kc_passNow I1 hN h9
    rw [if_pos c, ks_gu1_t c, jf_X11_chance_B106, t1, jp_bd, ea]
    exact ⟨τ, rfl, f1.tr (t2.w (by decide)), t3⟩
  · have b2 := ks_next_b (ks_next x.2.1)
    have I2 := I1.seed b2
    rw [kd_uu] at I2
    have f2 : jp_fr kc_FY s (jl_up s1 0 17 (ks_next (ks_next x.2.1))) := f1.up (by decide)
    have ek : (0 ≤ s1 0 2 ∧ (jl_kd H).1 = 8) := ⟨by rw [hW.2.2.2.1]; omega, jz_kd hW.2.1⟩
    rw [if_neg c, ks_gu1_f c, if_pos ek, hW.n1, kc_draw g1 b1 ⟨by omega, by omega⟩, jp_bd]
    generalize jl_up s1 0 17 (ks_next (ks_next x.2.1)) = s2 at *
    obtain ⟨s3, s4, t3, t4, f4, I4⟩ := kc_gust I2 hN (ks_draw (ks_next x.2.1) ((ks_nw Z : Nat) : Int))
    obtain ⟨N4, z4⟩ := ks_blowL_N (w := ks_draw (ks_next x.2.1) ((ks_nw Z : Nat) : Int)) hZ hN
    obtain ⟨τ, t5, f5, I5⟩ := kc_passNow I4 N4 (by omega)
    rw [t3, jp_bd, hA.1, t4, jp_bd, jf_X11_chance_B106, t5, jp_bd, ea, jp_add (a := x.2.2) (by omega) (by omega)]
    exact ⟨τ, rfl, f2.tr ((f4.w (by decide)).tr (f5.w (by decide))), I5⟩
theorem kr_gu1 {Z : jz_Z} {Ds : Nat → List Int} {x : ks_guS} {d : kD} {nx n k l m : Nat} {s : jl_Mm} (h : kIr Z Ds x.1 (kd_u d 8 0 x.2.1) nx n s) (hN : kz_N Z Ds x.1) (hs : 0 ≤ x.2.1 ∧ x.2.1 < 2147483648) (hw : 0 < ks_nw Z) (hl : l < m) (hm : m ≤ 100) (hg : 0 ≤ x.2.2 ∧ x.2.2 ≤ 100) :
    ∃ τ, jf_X12_chance_L25 (k + 1) (m : Int) x.2.2 (l : Int) s = jf_X12_chance_L25 k (m : Int) (ks_gu1 Z Ds x).2.2 ((l + 1 : Nat) : Int) τ ∧ jp_fr kr_FY s τ ∧ kIr Z Ds (ks_gu1 Z Ds x).1 (kd_u d 8 0 (ks_gu1 Z Ds x).2.1) nx n τ := by
  have hZ := h.1.1.1
  have h30 := hZ.w
  have e17 : jl_gl s 206 74 = x.2.1 := by rw [h.2.1.2.2.2.2.2]; exact kd_e
  have b1 := ks_next_b x.2.1
  have I1 := h.seed b1
  rw [kd_uu] at I1
  have f1 : jp_fr kr_FY s (jl_up s 206 74 (ks_next x.2.1)) := jp_fr.rf.up (by decide)
  have g1 : jl_gl (jl_up s 206 74 (ks_next x.2.1)) 206 74 = ks_next x.2.1 := jp_gl_eq (by omega) (by omega)
  have ea : jl_add (l : Int) 1 = ((l + 1 : Nat) : Int) := by rw [jp_add (by omega) (by omega)]; omega
  rw [jf_X12_chance_L25, if_neg (by omega), kr_draw e17 hs ⟨by decide, by decide⟩, jp_bd]
  generalize jl_up s 206 74 (ks_next x.2.1) = s1 at *
  have hW := I1.1.1
  have e6 : jl_g s1 241 11 = Z.1 6 := hW.2.1 5 (by decide)
  rw [show ((11 : Int) : Int).toNat = 11 from rfl, e6]
  by_cases c : Z.1 6 ≤ ks_draw x.2.1 100
  · obtain ⟨τ, t1, t2, t3, -⟩ := kr_hourNow I1 hN
    rw [if_pos c, ks_gu1_t c, jf_X12_chance_B61, t1, jp_bd, ea]
    exact ⟨τ, rfl, f1.tr (t2.w (by decide)), t3⟩
  · have b2 := ks_next_b (ks_next x.2.1)
    have I2 := I1.seed b2
    rw [kd_uu] at I2
    have f2 : jp_fr kr_FY s (jl_up s1 206 74 (ks_next (ks_next x.2.1))) := f1.up (by decide)
    rw [if_neg c, ks_gu1_f c, hW.nw, jp_bd, kr_draw g1 b1 ⟨by omega, by omega⟩, jp_bd]
    generalize jl_up s1 206 74 (ks_next (ks_next x.2.1)) = s2 at *
    obtain ⟨s4, t4, f4, I4⟩ := kr_gust I2 hN (ks_draw (ks_next x.2.1) ((ks_nw Z : Nat) : Int))
    obtain ⟨N4, z4⟩ := ks_blowL_N (w := ks_draw (ks_next x.2.1) ((ks_nw Z : Nat) : Int)) hZ hN
    obtain ⟨τ, t5, f5, I5, -⟩ := kr_hourNow I4 N4
    rw [t4, jp_bd, jf_X12_chance_B61, t5, jp_bd, ea, jp_add (a := x.2.2) (by omega) (by omega)]
    exact ⟨τ, rfl, f2.tr ((f4.w (by decide)).tr (f5.w (by decide))), I5⟩
