/-! PURE, both: on -/
theorem ku_orN {x y : Nat} (hx : x < 2147483648) (hy : y < 2147483648) : jl_or (x : Int) (y : Int) = ((x ||| y : Nat) : Int) := by
  have t : ∀ z : Nat, z < 2147483648 → (jl_i3 (z : Int)).toBitVec.toNat = z := by
    intro z hz
    show (BitVec.ofInt 32 (z : Int)).toNat = z
    rw [BitVec.toNat_ofInt]
    omega
  have lt : x ||| y < 2 ^ 31 := Nat.or_lt_two_pow (by omega) (by omega)
  have e : (jl_i3 (x : Int) ||| jl_i3 (y : Int)).toBitVec.toNat = x ||| y := by rw [Int32.toBitVec_or, BitVec.toNat_or, t x hx, t y hy]
  have e2 : (jl_i3 (x : Int) ||| jl_i3 (y : Int)).toInt = ((jl_i3 (x : Int) ||| jl_i3 (y : Int)).toBitVec.toNat : Int) := BitVec.toInt_eq_toNat_of_lt (by omega)
  rw [jl_or, e2, e]
theorem ku_shl8 : ∀ h, h < 256 → jl_shl ((h : Nat) : Int) 8 = ((256 * h : Nat) : Int) := by decide +kernel
theorem ku_pair {u v : Int} (hu : 0 ≤ u ∧ u ≤ 255) (hv : 0 ≤ v ∧ v ≤ 255) : jl_or (jl_shl u 8) v = 256 * u + v := by
  obtain ⟨h, rfl⟩ : ∃ h : Nat, u = (h : Int) := ⟨u.toNat, by omega⟩
  obtain ⟨l, rfl⟩ : ∃ l : Nat, v = (l : Int) := ⟨v.toNat, by omega⟩
  have e : h <<< 8 + l = h <<< 8 ||| l := Nat.shiftLeft_add_eq_or_of_lt (show l < 2 ^ 8 by omega) h
  have e8 : h <<< 8 = 256 * h := by rw [Nat.shiftLeft_eq, Nat.mul_comm, show (2 : Nat) ^ 8 = 256 by decide]
  rw [e8] at e
  rw [ku_shl8 h (by omega), ku_orN (by omega) (by omega), ← e]
  omega
noncomputable def kz_ib (P : Prop) : Int := @ite Int P (Classical.propDecidable P) 1 0
theorem kz_ibT {P : Prop} (h : P) : kz_ib P = 1 := @if_pos P (Classical.propDecidable P) h Int 1 0
theorem kz_ibF {P : Prop} (h : ¬ P) : kz_ib P = 0 := @if_neg P (Classical.propDecidable P) h Int 1 0
def kz_pw (Z : jz_Z) (b : Nat → Int) : Prop := ∀ p, p < ks_np Z → b (4 + p) < ((ks_nw Z : Nat) : Int)
def kz_pl (Z : jz_Z) (b : Nat → Int) : Prop := ∀ l, l < ks_nl Z → b (4 + ks_np Z + 2 * l) ≤ 99 ∧ b (4 + ks_np Z + (2 * l + 1)) ≤ 99 ∧ (b (4 + ks_np Z + 2 * l) = 0 → b (4 + ks_np Z + (2 * l + 1)) = 0)
/-- the tape is an image -/
def kz_pic (Z : jz_Z) (b : Nat → Int) (x : Nat) : Prop := 0 < ks_nw Z ∧ x = kt_pn Z + 1 ∧ 256 * b 0 + b 1 ≤ 999 ∧ 256 * b 2 + b 3 ≤ 999 ∧ kz_pw Z b ∧ kz_pl Z b ∧ b (kt_pn Z) = kt_ck b (kt_pn Z)
/-- the class reads it -/
def kc_Tp (b : Nat → Int) (x : Nat) (s : jl_Mm) : Prop := jl_g s 1 1 = (x : Int) ∧ ∀ i, i < x → jl_g s 2 i = b i
theorem kc_Tp.at {b : Nat → Int} {x i : Nat} {s : jl_Mm} (h : kc_Tp b x s) (hx : x ≤ 1600) (hi : i < x) : jf_X10_byteAt (i : Int) s = some (b i, s) := by
  rw [jf_X10_byteAt, if_neg (by omega), h.1, if_neg (by omega), if_pos (by omega), Int.toNat_natCast, h.2 i hi, jf_X10_byteAt_B22]
theorem kc_Tp.pair {b : Nat → Int} {x i : Nat} {s : jl_Mm} (h : kc_Tp b x s) (hx : x ≤ 1600) (hi : i + 1 < x) (hb : ∀ i, i < x → 0 ≤ b i ∧ b i ≤ 255) : jf_X10_pairAt (i : Int) s = some (256 * b i + b (i + 1), s) := by
  have ea : jl_add (i : Int) 1 = ((i + 1 : Nat) : Int) := by rw [jp_add (by omega) (by omega)]; omega
  rw [jf_X10_pairAt, h.at hx (by omega), jp_bd, ea, h.at hx hi, jp_bd, ku_pair (hb i (by omega)) (hb (i + 1) hi)]
theorem kc_pic148 {Z : jz_Z} {b : Nat → Int} {x : Nat} {c : Int} {s : jl_Mm} (hZ : kz_V Z) (hT : kc_Tp b x s) (hx : x = kt_pn Z + 1) (hb : ∀ i, i < x → 0 ≤ b i ∧ b i ≤ 255) :
    jf_X11_isPicture_L148 jl_fu ((kt_pn Z : Nat) : Int) c ((4 + ks_np Z : Nat) : Int) s = some (kz_ib (kz_pl Z b ∧ b (kt_pn Z) = c), s) := by
  have h6 := hZ.p
  have h8 := hZ.l
  have ep : kt_pn Z = 4 + ks_np Z + 2 * ks_nl Z := rfl
  have z0 : ∀ t, jf_X11_isPicture_B199 t = some (0, t) := fun t => by rw [jf_X11_isPicture_B199, jp_zb0]
  refine ku_for (α := Unit) (G := fun g l _ => jf_X11_isPicture_L148 g ((kt_pn Z : Nat) : Int) c ((4 + ks_np Z + 2 * l : Nat) : Int) s) (N := ks_nl Z) (P := fun o => o = some (kz_ib (kz_pl Z b ∧ b (kt_pn Z) = c), s)) (I := fun l _ => ∀ k, k < l → b (4 + ks_np Z + 2 * k) ≤ 99 ∧ b (4 + ks_np Z + (2 * k + 1)) ≤ 99 ∧ (b (4 + ks_np Z + 2 * k) = 0 → b (4 + ks_np Z + (2 * k + 1)) = 0)) (fun g l u hl hI => ?_) (fun g u hI => ?_) (ks_nl Z) 0 jl_fu () (Nat.zero_add _) (by show ks_nl Z < 4000; omega) (fun k hk => by omega)
  · have ea : jl_add ((4 + ks_np Z + 2 * l : Nat) : Int) 1 = ((4 + ks_np Z + (2 * l + 1) : Nat) : Int) := by rw [jp_add (by omega) (by omega)]; omega
    have ea2 : jl_add ((4 + ks_np Z + 2 * l : Nat) : Int) 2 = ((4 + ks_np Z + 2 * (l + 1) : Nat) : Int) := by rw [jp_add (by omega) (by omega)]; omega
    have b2 := hb (4 + ks_np Z + (2 * l + 1)) (by omega)
    show jf_X11_isPicture_L148 (g + 1) ((kt_pn Z : Nat) : Int) c ((4 + ks_np Z + 2 * l : Nat) : Int) s = _ ∨ ∃ _ : Unit, jf_X11_isPicture_L148 (g + 1) ((kt_pn Z : Nat) : Int) c ((4 + ks_np Z + 2 * l : Nat) : Int) s = jf_X11_isPicture_L148 g ((kt_pn Z : Nat) : Int) c ((4 + ks_np Z + 2 * (l + 1) : Nat) : Int) s ∧ _
    rw [jf_X11_isPicture_L148, if_neg (by omega), hT.at (by omega) (by omega), jp_bd, ea, hT.at (by omega) (by omega), jp_bd, jf_X11_isPicture_B201, z0, ea2]
    by_cases ok : b (4 + ks_np Z + 2 * l) ≤ 99 ∧ b (4 + ks_np Z + (2 * l + 1)) ≤ 99 ∧ (b (4 + ks_np Z + 2 * l) = 0 → b (4 + ks_np Z + (2 * l + 1)) = 0)
    · right
      refine ⟨(), ?_, fun k hk => ?_⟩
      · rw [if_neg (by omega), if_neg (by omega)]
        by_cases e0 : b (4 + ks_np Z + 2 * l) = 0
        · rw [if_pos e0, if_pos (by have := ok.2.2 e0; omega)]
        · rw [if_neg e0]
      · by_cases e : k = l
        · subst e; exact ok
        · exact hI k (by omega)
    · left
      rw [kz_ibF (show ¬ (kz_pl Z b ∧ b (kt_pn Z) = c) from fun q => ok (q.1 l hl))]
      by_cases c1 : 99 < b (4 + ks_np Z + 2 * l)
      · rw [if_pos c1]
      rw [if_neg c1]
      by_cases c2 : 99 < b (4 + ks_np Z + (2 * l + 1))
      · rw [if_pos c2]
      rw [if_neg c2]
      by_cases e0 : b (4 + ks_np Z + 2 * l) = 0
      · rw [if_pos e0, if_neg (fun q => ok ⟨by omega, by omega, fun _ => by omega⟩)]
      · exact absurd ⟨by omega, by omega, fun q => absurd q e0⟩ ok
  · have z1 : ∀ k t, k = 0 ∨ k = 1 → jf_X11_isPicture_B224 k t = some (k, t) := fun k t h => by rw [jf_X11_isPicture_B224, jp_zb t h]
    show jf_X11_isPicture_L148 (g + 1) ((kt_pn Z : Nat) : Int) c ((kt_pn Z : Nat) : Int) s = _
    rw [jf_X11_isPicture_L148, if_pos (Int.le_refl _), hT.at (by omega) (by omega), jp_bd, z1 _ _ (Or.inl rfl), z1 _ _ (Or.inr rfl)]
    by_cases e : b (kt_pn Z) = c
    · rw [if_pos e, kz_ibT (show kz_pl Z b ∧ b (kt_pn Z) = c from ⟨hI, e⟩)]
    · rw [if_neg e, kz_ibF (show ¬ (kz_pl Z b ∧ b (kt_pn Z) = c) from fun q => e q.2)]
theorem kc_pic99 {H : Nat} {Z : jz_Z} {b : Nat → Int} {x : Nat} {c : Int} {s : jl_Mm} (hW : kc_W H Z s) (hT : kc_Tp b x s) (hx : x = kt_pn Z + 1) (hb : ∀ i, i < x → 0 ≤ b i ∧ b i ≤ 255) :
    jf_X11_isPicture_L99 jl_fu ((kt_pn Z : Nat) : Int) c 0 s = some (kz_ib (kz_pw Z b ∧ kz_pl Z b ∧ b (kt_pn Z) = c), s) := by
  have h6 := hW.1.p
  have h8 := hW.1.l
  have ep : kt_pn Z = 4 + ks_np Z + 2 * ks_nl Z := rfl
  refine ku_for (α := Unit) (G := fun g p _ => jf_X11_isPicture_L99 g ((kt_pn Z : Nat) : Int) c ((p : Nat) : Int) s) (N := ks_np Z) (P := fun o => o = some (kz_ib (kz_pw Z b ∧ kz_pl Z b ∧ b (kt_pn Z) = c), s)) (I := fun p _ => ∀ k, k < p → b (4 + k) < ((ks_nw Z : Nat) : Int)) (fun g p u hp hI => ?_) (fun g u hI => ?_) (ks_np Z) 0 jl_fu () (Nat.zero_add _) (by show ks_np Z < 4000; omega) (fun k hk => by omega)
  · have ea : jl_add 4 (p : Int) = ((4 + p : Nat) : Int) := by rw [jp_add (by omega) (by omega)]; omega
    have eb : jl_add (p : Int) 1 = ((p + 1 : Nat) : Int) := by rw [jp_add (by omega) (by omega)]; omega
    show jf_X11_isPicture_L99 (g + 1) ((kt_pn Z : Nat) : Int) c (p : Int) s = _ ∨ ∃ _ : Unit, jf_X11_isPicture_L99 (g + 1) ((kt_pn Z : Nat) : Int) c (p : Int) s = jf_X11_isPicture_L99 g ((kt_pn Z : Nat) : Int) c ((p + 1 : Nat) : Int) s ∧ _
    rw [jf_X11_isPicture_L99, hW.g0, hW.gr0, hW.n2, if_neg (by omega), ea, hT.at (by omega) (by omega), jp_bd, hW.g0, hW.gr0, hW.n1, jp_zb0, eb]
    by_cases ok : b (4 + p) < ((ks_nw Z : Nat) : Int)
    · right
      refine ⟨(), if_pos ok, fun k hk => ?_⟩
      by_cases e : k = p
      · subst e; exact ok
      · exact hI k (by omega)
    · left
      rw [if_neg ok, kz_ibF (show ¬ (kz_pw Z b ∧ kz_pl Z b ∧ b (kt_pn Z) = c) from fun q => ok (q.1 p hp))]
  · have ea : jl_add 4 ((ks_np Z : Nat) : Int) = ((4 + ks_np Z : Nat) : Int) := by rw [jp_add (by omega) (by omega)]; omega
    show jf_X11_isPicture_L99 (g + 1) ((kt_pn Z : Nat) : Int) c ((ks_np Z : Nat) : Int) s = _
    rw [jf_X11_isPicture_L99, hW.g0, hW.g0, hW.gr0, hW.n2, if_pos (Int.le_refl _), jp_let, ea, kc_pic148 hW.1 hT hx hb]
    by_cases q : kz_pl Z b ∧ b (kt_pn Z) = c
    · rw [kz_ibT q, kz_ibT (show kz_pw Z b ∧ kz_pl Z b ∧ b (kt_pn Z) = c from ⟨hI, q⟩)]
    · rw [kz_ibF q, kz_ibF (show ¬ (kz_pw Z b ∧ kz_pl Z b ∧ b (kt_pn Z) = c) from fun z => q z.2)]
theorem kc_pic {H : Nat} {Z : jz_Z} {b : Nat → Int} {x : Nat} {s : jl_Mm} (hW : kc_W H Z s) (hT : kc_Tp b x s) (hx : x ≤ 1600) (hb : ∀ i, i < x → 0 ≤ b i ∧ b i ≤ 255) (hw : 0 < ks_nw Z) :
    (kz_pic Z b x → jf_X11_isPicture s = some (1, s)) ∧ (¬ kz_pic Z b x → jf_X11_isPicture s = some (0, s)) := by
  have h6 := hW.1.p
  have h8 := hW.1.l
  have ep : kt_pn Z = 4 + ks_np Z + 2 * ks_nl Z := rfl
  have z0 : ∀ t, jf_X11_isPicture_B61 t = some (0, t) := fun t => by rw [jf_X11_isPicture_B61, jp_zb0]
  have e1 : jl_add (jl_add 4 ((ks_np Z : Nat) : Int)) (jl_mul 2 ((ks_nl Z : Nat) : Int)) = ((kt_pn Z : Nat) : Int) := by rw [jp_mul (by omega) (by omega), jp_add (a := 4) (by omega) (by omega), jp_add (by omega) (by omega)]; omega
  have e2 : jl_add ((kt_pn Z : Nat) : Int) 1 = ((kt_pn Z + 1 : Nat) : Int) := by rw [jp_add (by omega) (by omega)]; omega
  rw [jf_X11_isPicture, hW.g0, hW.g0, hW.gr0, hW.n2, hW.n3, e1, jp_let, hT.1, e2, z0]
  by_cases c1 : x = kt_pn Z + 1
  · have p0 : jf_X10_pairAt 0 s = some (256 * b 0 + b 1, s) := hT.pair (i := 0) hx (by omega) hb
    have p2 : jf_X10_pairAt 2 s = some (256 * b 2 + b 3, s) := hT.pair (i := 2) hx (by omega) hb
    rw [if_pos (by omega), p0, jp_bd, z0]
    by_cases c2 : 256 * b 0 + b 1 ≤ 999
    · rw [if_neg (by omega), p2, jp_bd, z0]
      by_cases c3 : 256 * b 2 + b 3 ≤ 999
      · have hc : jf_X11_isPicture_L69 jl_fu ((kt_pn Z : Nat) : Int) 167 0 s = jf_X11_isPicture_L99 jl_fu ((kt_pn Z : Nat) : Int) (kt_ck b (kt_pn Z)) 0 s := by
          refine ku_forU (G := fun g i => jf_X11_isPicture_L69 g ((kt_pn Z : Nat) : Int) (kt_ck b i) ((i : Nat) : Int) s) (N := kt_pn Z) (fun g i hi => ?_) (fun g => ?_) (kt_pn Z) 0 jl_fu (Nat.zero_add _) (by show kt_pn Z < 4000; omega)
          · have eb : jl_add (i : Int) 1 = ((i + 1 : Nat) : Int) := by rw [jp_add (by omega) (by omega)]; omega
            show jf_X11_isPicture_L69 (g + 1) ((kt_pn Z : Nat) : Int) (kt_ck b i) (i : Int) s = jf_X11_isPicture_L69 g ((kt_pn Z : Nat) : Int) (kt_ck b (i + 1)) ((i + 1 : Nat) : Int) s
            rw [jf_X11_isPicture_L69, if_neg (by omega), hT.at hx (by omega), jp_bd, ku_ck (kt_ck_b i) (hb i (by omega)), jp_let, eb, kt_ck]
          · show jf_X11_isPicture_L69 (g + 1) ((kt_pn Z : Nat) : Int) (kt_ck b (kt_pn Z)) ((kt_pn Z : Nat) : Int) s = _
            rw [jf_X11_isPicture_L69, if_pos (Int.le_refl _)]
        rw [if_pos c3, hc, kc_pic99 hW hT c1 hb]
        refine ⟨fun h => by rw [kz_ibT (show kz_pw Z b ∧ kz_pl Z b ∧ b (kt_pn Z) = kt_ck b (kt_pn Z) from ⟨h.2.2.2.2.1, h.2.2.2.2.2.1, h.2.2.2.2.2.2⟩)], fun h => by rw [kz_ibF (show ¬ (kz_pw Z b ∧ kz_pl Z b ∧ b (kt_pn Z) = kt_ck b (kt_pn Z)) from fun q => h ⟨hw, c1, c2, c3, q.1, q.2.1, q.2.2⟩)]⟩
      · rw [if_neg c3]
        exact ⟨fun h => absurd h.2.2.2.1 c3, fun _ => rfl⟩
    · rw [if_pos (by omega)]
      exact ⟨fun h => absurd h.2.2.1 c2, fun _ => rfl⟩
  · rw [if_neg (by omega)]
    exact ⟨fun h => absurd h.2.1 c1, fun _ => rfl⟩
/-- the reference reads it -/
theorem kr_pic104 {Z : jz_Z} {b : Nat → Int} {x : Nat} {s : jl_Mm} (hW : kr_W Z s) (hT : kt_PI b 207 x s) (hx : x = kt_pn Z + 1) (hb : ∀ i, i < x → 0 ≤ b i ∧ b i ≤ 255) :
    jf_X12_isImage_L104 jl_fu (x : Int) ((4 + ks_np Z : Nat) : Int) s = some (kz_ib (kz_pl Z b), s) := by
  have h6 := hW.1.p
  have h8 := hW.1.l
  have ep : kt_pn Z = 4 + ks_np Z + 2 * ks_nl Z := rfl
  have z0 : ∀ t, jf_X12_isImage_B148 t = some (0, t) := fun t => by rw [jf_X12_isImage_B148, jp_zb0]
  have ex : jl_sub (x : Int) 1 = ((kt_pn Z : Nat) : Int) := by rw [jp_sub (by omega) (by omega)]; omega
  refine ku_for (α := Unit) (G := fun g l _ => jf_X12_isImage_L104 g (x : Int) ((4 + ks_np Z + 2 * l : Nat) : Int) s) (N := ks_nl Z) (P := fun o => o = some (kz_ib (kz_pl Z b), s)) (I := fun l _ => ∀ k, k < l → b (4 + ks_np Z + 2 * k) ≤ 99 ∧ b (4 + ks_np Z + (2 * k + 1)) ≤ 99 ∧ (b (4 + ks_np Z + 2 * k) = 0 → b (4 + ks_np Z + (2 * k + 1)) = 0)) (fun g l u hl hI => ?_) (fun g u hI => ?_) (ks_nl Z) 0 jl_fu () (Nat.zero_add _) (by show ks_nl Z < 4000; omega) (fun k hk => by omega)
  · have ea : jl_add ((4 + ks_np Z + 2 * l : Nat) : Int) 1 = ((4 + ks_np Z + (2 * l + 1) : Nat) : Int) := by rw [jp_add (by omega) (by omega)]; omega
    have ea2 : jl_add ((4 + ks_np Z + 2 * l : Nat) : Int) 2 = ((4 + ks_np Z + 2 * (l + 1) : Nat) : Int) := by rw [jp_add (by omega) (by omega)]; omega
    have b1 := hb (4 + ks_np Z + 2 * l) (by omega)
    have b2 := hb (4 + ks_np Z + (2 * l + 1)) (by omega)
    show jf_X12_isImage_L104 (g + 1) (x : Int) ((4 + ks_np Z + 2 * l : Nat) : Int) s = _ ∨ ∃ _ : Unit, jf_X12_isImage_L104 (g + 1) (x : Int) ((4 + ks_np Z + 2 * l : Nat) : Int) s = jf_X12_isImage_L104 g (x : Int) ((4 + ks_np Z + 2 * (l + 1) : Nat) : Int) s ∧ _
    rw [jf_X12_isImage_L104, ex, if_neg (by omega), if_pos (by omega), Int.toNat_natCast, hT _ (by omega), z0]
    by_cases c1 : 99 < b (4 + ks_np Z + 2 * l)
    · left
      rw [if_pos c1, kz_ibF (show ¬ kz_pl Z b from fun q => by have := (q l hl).1; omega)]
    rw [if_neg c1, ea, if_pos (by omega), if_pos (by omega), Int.toNat_natCast, hT _ (by omega), jf_X12_isImage_B145, jf_X12_isImage_B145, z0, ea2]
    by_cases ok : b (4 + ks_np Z + 2 * l) ≤ 99 ∧ b (4 + ks_np Z + (2 * l + 1)) ≤ 99 ∧ (b (4 + ks_np Z + 2 * l) = 0 → b (4 + ks_np Z + (2 * l + 1)) = 0)
    · right
      refine ⟨(), ?_, fun k hk => ?_⟩
      · by_cases e0 : b (4 + ks_np Z + 2 * l) ≤ 0
        · rw [if_pos e0, if_pos (by have := ok.2.2 (by omega); omega)]
        · rw [if_neg e0, if_pos ok.2.1]
      · by_cases e : k = l
        · subst e; exact ok
        · exact hI k (by omega)
    · left
      rw [kz_ibF (show ¬ kz_pl Z b from fun q => ok (q l hl))]
      by_cases e0 : b (4 + ks_np Z + 2 * l) ≤ 0
      · rw [if_pos e0, if_neg (fun q => ok ⟨by omega, by omega, fun _ => by omega⟩)]
      · rw [if_neg e0, if_neg (fun q => ok ⟨by omega, by omega, fun z => absurd z (by omega)⟩)]
  · show jf_X12_isImage_L104 (g + 1) (x : Int) ((kt_pn Z : Nat) : Int) s = _
    rw [jf_X12_isImage_L104, ex, if_pos (Int.le_refl _), jp_zb1, kz_ibT (show kz_pl Z b from hI)]
theorem kr_pic75 {Z : jz_Z} {b : Nat → Int} {x : Nat} {s : jl_Mm} (hW : kr_W Z s) (hT : kt_PI b 207 x s) (hx : x = kt_pn Z + 1) (hb : ∀ i, i < x → 0 ≤ b i ∧ b i ≤ 255) :
    jf_X12_isImage_L75 jl_fu (x : Int) ((4 + ks_np Z : Nat) : Int) 4 s = some (kz_ib (kz_pw Z b ∧ kz_pl Z b), s) := by
  have h6 := hW.1.p
  have h8 := hW.1.l
  have ep : kt_pn Z = 4 + ks_np Z + 2 * ks_nl Z := rfl
  refine ku_for (α := Unit) (G := fun g p _ => jf_X12_isImage_L75 g (x : Int) ((4 + ks_np Z : Nat) : Int) ((4 + p : Nat) : Int) s) (N := ks_np Z) (P := fun o => o = some (kz_ib (kz_pw Z b ∧ kz_pl Z b), s)) (I := fun p _ => ∀ k, k < p → b (4 + k) < ((ks_nw Z : Nat) : Int)) (fun g p u hp hI => ?_) (fun g u hI => ?_) (ks_np Z) 0 jl_fu () (Nat.zero_add _) (by show ks_np Z < 4000; omega) (fun k hk => by omega)
  · have eb : jl_add ((4 + p : Nat) : Int) 1 = ((4 + (p + 1) : Nat) : Int) := by rw [jp_add (by omega) (by omega)]; omega
    have b1 := hb (4 + p) (by omega)
    show jf_X12_isImage_L75 (g + 1) (x : Int) ((4 + ks_np Z : Nat) : Int) ((4 + p : Nat) : Int) s = _ ∨ ∃ _ : Unit, jf_X12_isImage_L75 (g + 1) (x : Int) ((4 + ks_np Z : Nat) : Int) ((4 + p : Nat) : Int) s = jf_X12_isImage_L75 g (x : Int) ((4 + ks_np Z : Nat) : Int) ((4 + (p + 1) : Nat) : Int) s ∧ _
    rw [jf_X12_isImage_L75, if_neg (by omega), if_pos (by omega), Int.toNat_natCast, hT _ (by omega), hW.isW ⟨by omega, by omega⟩, jp_bd, jp_zb0, eb]
    by_cases ok : b (4 + p) < ((ks_nw Z : Nat) : Int)
    · right
      refine ⟨(), by rw [if_pos (show 0 ≤ b (4 + p) ∧ b (4 + p) < ((ks_nw Z : Nat) : Int) from ⟨b1.1, ok⟩), if_neg (by decide)], fun k hk => ?_⟩
      by_cases e : k = p
      · subst e; exact ok
      · exact hI k (by omega)
    · left
      rw [if_neg (show ¬ (0 ≤ b (4 + p) ∧ b (4 + p) < ((ks_nw Z : Nat) : Int)) from fun q => ok q.2), if_pos rfl, kz_ibF (show ¬ (kz_pw Z b ∧ kz_pl Z b) from fun q => ok (q.1 p hp))]
  · show jf_X12_isImage_L75 (g + 1) (x : Int) ((4 + ks_np Z : Nat) : Int) ((4 + ks_np Z : Nat) : Int) s = _
    rw [jf_X12_isImage_L75, if_pos (Int.le_refl _), kr_pic104 hW hT hx hb]
    by_cases q : kz_pl Z b
    · rw [kz_ibT q, kz_ibT (show kz_pw Z b ∧ kz_pl Z b from ⟨hI, q⟩)]
    · rw [kz_ibF q, kz_ibF (show ¬ (kz_pw Z b ∧ kz_pl Z b) from fun z => q z.2)]
theorem kr_two {b : Nat → Int} {x i : Nat} {s : jl_Mm} (hT : kt_PI b 207 x s) (hx : x ≤ 1600) (hi : i + 1 < x) (hb : ∀ i, i < x → 0 ≤ b i ∧ b i ≤ 255) : jf_X12_twoAt (i : Int) s = some (256 * b i + b (i + 1), s) := by
  have ea : jl_add (i : Int) 1 = ((i + 1 : Nat) : Int) := by rw [jp_add (by omega) (by omega)]; omega
  have b1 := hb i (by omega)
  have b2 := hb (i + 1) hi
  rw [jf_X12_twoAt, if_pos (by omega), ea, if_pos (by omega), Int.toNat_natCast, Int.toNat_natCast, hT _ (by omega), hT _ hi, jp_mul (by omega) (by omega), jp_add (by omega) (by omega)]
theorem kr_pic {Z : jz_Z} {b : Nat → Int} {x : Nat} {s : jl_Mm} (hW : kr_W Z s) (h54 : jl_g s 206 54 = if 0 < ks_nw Z then 1 else 0) (hT : kt_PI b 207 x s) (hx : x ≤ 1600) (hb : ∀ i, i < x → 0 ≤ b i ∧ b i ≤ 255) :
    (kz_pic Z b x → jf_X12_isImage (x : Int) s = some (1, s)) ∧ (¬ kz_pic Z b x → jf_X12_isImage (x : Int) s = some (0, s)) := by
  have h6 := hW.1.p
  have h8 := hW.1.l
  have ep : kt_pn Z = 4 + ks_np Z + 2 * ks_nl Z := rfl
  have z0 : ∀ t, jf_X12_isImage_B71 t = some (0, t) := fun t => by rw [jf_X12_isImage_B71, jp_zb0]
  have e1 : jl_add 4 ((ks_np Z : Nat) : Int) = ((4 + ks_np Z : Nat) : Int) := by rw [jp_add (by omega) (by omega)]; omega
  have e2 : jl_add (jl_add ((4 + ks_np Z : Nat) : Int) (jl_mul 2 ((ks_nl Z : Nat) : Int))) 1 = ((kt_pn Z + 1 : Nat) : Int) := by rw [jp_mul (by omega) (by omega), jp_add (b := 2 * ((ks_nl Z : Nat) : Int)) (by omega) (by omega), jp_add (by omega) (by omega)]; omega
  rw [jf_X12_isImage, hW.np, jp_bd, e1, jp_let, h54, z0]
  by_cases c0 : 0 < ks_nw Z
  · rw [if_pos c0, if_neg (by decide), hW.nl, jp_bd, e2, z0]
    by_cases c1 : x = kt_pn Z + 1
    · have ex : jl_sub (x : Int) 1 = ((kt_pn Z : Nat) : Int) := by rw [jp_sub (by omega) (by omega)]; omega
      have p0 : jf_X12_twoAt 0 s = some (256 * b 0 + b 1, s) := kr_two (i := 0) hT hx (by omega) hb
      have p2 : jf_X12_twoAt 2 s = some (256 * b 2 + b 3, s) := kr_two (i := 2) hT hx (by omega) hb
      have k2 : (jl_kd 207).2 = 1600 := by decide +kernel
      rw [if_pos (by omega), ex, if_pos (by omega), kr_checked (b := b) (q := 207) (n := kt_pn Z) (by decide +kernel) (by omega) (by omega) (fun i hi => hT i (by omega)) (fun i hi => hb i (by omega)), jp_bd, Int.toNat_natCast, hT (kt_pn Z) (by omega), z0]
      by_cases c2 : b (kt_pn Z) = kt_ck b (kt_pn Z)
      · rw [if_pos c2, p0, jp_bd, z0]
        by_cases c3 : 256 * b 0 + b 1 ≤ 999
        · rw [if_neg (by omega), p2, jp_bd, z0]
          by_cases c4 : 256 * b 2 + b 3 ≤ 999
          · rw [if_pos c4, kr_pic75 hW hT c1 hb]
            exact ⟨fun h => by rw [kz_ibT (show kz_pw Z b ∧ kz_pl Z b from ⟨h.2.2.2.2.1, h.2.2.2.2.2.1⟩)], fun h => by rw [kz_ibF (show ¬ (kz_pw Z b ∧ kz_pl Z b) from fun q => h ⟨c0, c1, c3, c4, q.1, q.2, c2⟩)]⟩
          · rw [if_neg c4]; exact ⟨fun h => absurd h.2.2.2.1 c4, fun _ => rfl⟩
        · rw [if_pos (by omega)]; exact ⟨fun h => absurd h.2.2.1 c3, fun _ => rfl⟩
      · rw [if_neg c2]; exact ⟨fun h => absurd h.2.2.2.2.2.2 c2, fun _ => rfl⟩
    · rw [if_neg (by omega)]; exact ⟨fun h => absurd h.2.1 c1, fun _ => rfl⟩
  · rw [if_neg c0, if_pos rfl]; exact ⟨fun h => absurd h.1 c0, fun _ => rfl⟩
