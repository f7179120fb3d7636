/-! PURE, both: how a street and an hour stand. a: hour, tallow, windows of people from 2, candles from 8, told hours from 16, how many are kept 24, kept from 25 on -/
def ks_nw (Z : jz_Z) : Nat := (Z.1 1).toNat
def ks_np (Z : jz_Z) : Nat := (Z.1 2).toNat
def ks_nl (Z : jz_Z) : Nat := (Z.1 3).toNat
def ks_nr (Z : jz_Z) : Nat := (Z.1 4).toNat
def ks_ow (Z : jz_Z) (l : Nat) : Nat := (Z.2.1 5 l).toNat
/-- a street that can be, or none -/
def kz_V (Z : jz_Z) : Prop :=
  (0 ≤ Z.1 1 ∧ Z.1 1 ≤ 30) ∧ (0 ≤ Z.1 2 ∧ Z.1 2 ≤ 6) ∧ (0 ≤ Z.1 3 ∧ Z.1 3 ≤ 8) ∧ (0 ≤ Z.1 4 ∧ Z.1 4 ≤ 16) ∧ (0 ≤ Z.1 5 ∧ Z.1 5 ≤ 999) ∧ (0 ≤ Z.1 6 ∧ Z.1 6 ≤ 100) ∧
  (∀ i : Nat, (i : Int) < Z.1 2 → (0 ≤ Z.2.1 2 i ∧ Z.2.1 2 i < Z.1 1) ∧ (0 ≤ Z.2.1 3 i ∧ Z.2.1 3 i ≤ 9)) ∧
  (∀ i : Nat, (i : Int) < Z.1 3 → (0 ≤ Z.2.1 5 i ∧ Z.2.1 5 i < Z.1 2) ∧ (-1 ≤ Z.2.1 6 i ∧ Z.2.1 6 i < (i : Int))) ∧
  (∀ i : Nat, (i : Int) < Z.1 4 → (0 ≤ Z.2.1 7 i ∧ Z.2.1 7 i < Z.1 3) ∧ (0 ≤ Z.2.1 8 i ∧ Z.2.1 8 i ≤ 999) ∧ (1 ≤ Z.2.1 9 i ∧ Z.2.1 9 i ≤ 99))
theorem kz_V.w {Z : jz_Z} (h : kz_V Z) : Z.1 1 = ((ks_nw Z : Nat) : Int) ∧ ks_nw Z ≤ 30 := by have := h.1; simp only [ks_nw]; omega
theorem kz_V.p {Z : jz_Z} (h : kz_V Z) : Z.1 2 = ((ks_np Z : Nat) : Int) ∧ ks_np Z ≤ 6 := by have := h.2.1; simp only [ks_np]; omega
theorem kz_V.l {Z : jz_Z} (h : kz_V Z) : Z.1 3 = ((ks_nl Z : Nat) : Int) ∧ ks_nl Z ≤ 8 := by have := h.2.2.1; simp only [ks_nl]; omega
theorem kz_V.r {Z : jz_Z} (h : kz_V Z) : Z.1 4 = ((ks_nr Z : Nat) : Int) ∧ ks_nr Z ≤ 16 := by have := h.2.2.2.1; simp only [ks_nr]; omega
theorem kz_V.o {Z : jz_Z} (h : kz_V Z) {l : Nat} (hl : l < ks_nl Z) : Z.2.1 5 l = ((ks_ow Z l : Nat) : Int) ∧ ks_ow Z l < ks_np Z ∧ ks_ow Z l < 6 := by
  have a := h.l.1
  have b := h.p
  have c := (h.2.2.2.2.2.2.2.1 l (by omega)).1
  simp only [ks_ow]
  omega
/-- what stands in an hour -/
def ks_V (Z : jz_Z) (a : Nat → Int) : Prop :=
  (0 ≤ a 0 ∧ a 0 ≤ 2000) ∧ (0 ≤ a 1 ∧ a 1 ≤ 999) ∧ (∀ p, p < ks_np Z → 0 ≤ a (2 + p) ∧ a (2 + p) < Z.1 1) ∧
  ∀ l, l < 8 → (0 ≤ a (8 + l) ∧ a (8 + l) ≤ 99) ∧ (0 ≤ a (16 + l) ∧ a (16 + l) ≤ 99) ∧ (a (8 + l) = 0 → a (16 + l) = 0) ∧ (ks_nl Z ≤ l → a (8 + l) = 0)
/-- the class: its street, an hour in the State q -/
def kc_W (H : Nat) (Z : jz_Z) (s : jl_Mm) : Prop := kz_V Z ∧ jz_Hq H ∧ s 190 0 = (H : Int) ∧ s 0 2 = (H : Int) ∧ jz_R H Z s
def kc_A (P9 q : Nat) (a : Nat → Int) (s : jl_Mm) : Prop :=
  jl_g s q 0 = a 0 ∧ jl_g s q 1 = a 1 ∧ (∀ i, i < 6 ∧ i < P9 → jl_g s (q + 1) i = a (2 + i)) ∧ (∀ i, i < 8 → jl_g s (q + 2) i = a (8 + i)) ∧ ∀ i, i < 8 → jl_g s (q + 3) i = a (16 + i)
def kc_q (q : Nat) : Prop := q = 40 ∨ q = 196
theorem kc_q7 {q : Nat} (h : kc_q q) : (jl_kd q).1 = 7 := by rcases h with rfl | rfl <;> decide +kernel
theorem kc_W.H38 {H : Nat} {Z : jz_Z} {s : jl_Mm} (h : kc_W H Z s) : H + 14 < 38 ∧ 2 < H := by rcases h.2.1 with rfl | rfl <;> decide
theorem kc_W.g {H : Nat} {Z : jz_Z} {s : jl_Mm} (h : kc_W H Z s) (x y : jl_O) : (if 0 ≤ s 190 0 ∧ (jl_kd (jl_gr s 190 0)).1 = 8 then x else y) = x := by
  obtain ⟨-, h1, h2, -⟩ := h
  have e : jl_gr s 190 0 = H := by rw [jl_gr, h2]; exact Int.toNat_natCast _
  rw [e, if_pos ⟨by omega, jz_kd h1⟩]
theorem kc_W.gH {H : Nat} {Z : jz_Z} {s : jl_Mm} (h : kc_W H Z s) (x y : jl_O) : (if 0 ≤ s 190 0 ∧ (jl_kd H).1 = 8 then x else y) = x := by
  obtain ⟨-, h1, h2, -⟩ := h
  rw [if_pos ⟨by omega, jz_kd h1⟩]
theorem kc_W.gr {H : Nat} {Z : jz_Z} {s : jl_Mm} (h : kc_W H Z s) : jl_gr s 190 0 = H := by rw [jl_gr, h.2.2.1]; exact Int.toNat_natCast _
theorem kc_W.g0 {H : Nat} {Z : jz_Z} {s : jl_Mm} (h : kc_W H Z s) (x y : jl_O) : (if 0 ≤ s 0 2 ∧ (jl_kd (jl_gr s 0 2)).1 = 8 then x else y) = x := by
  obtain ⟨-, h1, -, h2, -⟩ := h
  have e : jl_gr s 0 2 = H := by rw [jl_gr, h2]; exact Int.toNat_natCast _
  rw [e, if_pos ⟨by omega, jz_kd h1⟩]
theorem kc_W.gr0 {H : Nat} {Z : jz_Z} {s : jl_Mm} (h : kc_W H Z s) : jl_gr s 0 2 = H := by rw [jl_gr, h.2.2.2.1]; exact Int.toNat_natCast _
theorem kc_W.n1 {H : Nat} {Z : jz_Z} {s : jl_Mm} (h : kc_W H Z s) : jl_g s H 1 = ((ks_nw Z : Nat) : Int) := (h.2.2.2.2.1 1 (by decide)).trans h.1.w.1
theorem kc_W.n2 {H : Nat} {Z : jz_Z} {s : jl_Mm} (h : kc_W H Z s) : jl_g s H 2 = ((ks_np Z : Nat) : Int) := (h.2.2.2.2.1 2 (by decide)).trans h.1.p.1
theorem kc_W.n3 {H : Nat} {Z : jz_Z} {s : jl_Mm} (h : kc_W H Z s) : jl_g s H 3 = ((ks_nl Z : Nat) : Int) := (h.2.2.2.2.1 3 (by decide)).trans h.1.l.1
theorem kc_W.n4 {H : Nat} {Z : jz_Z} {s : jl_Mm} (h : kc_W H Z s) : jl_g s H 4 = ((ks_nr Z : Nat) : Int) := (h.2.2.2.2.1 4 (by decide)).trans h.1.r.1
theorem kc_W.o {H : Nat} {Z : jz_Z} {s : jl_Mm} (h : kc_W H Z s) {l : Nat} (hl : l < ks_nl Z) : jl_g s (H + 5) l = ((ks_ow Z l : Nat) : Int) := by
  have e := h.1.l.1
  rw [(h.2.2.2.2.2.2.1 l (by omega)).2.2.1, (h.1.o hl).1]
theorem kc_W.b {H : Nat} {Z : jz_Z} {s : jl_Mm} (h : kc_W H Z s) {l : Nat} (hl : l < ks_nl Z) : jl_g s (H + 6) l = Z.2.1 6 l := by
  have e := h.1.l.1
  rw [(h.2.2.2.2.2.2.1 l (by omega)).2.2.2]
theorem kc_W.fr {H : Nat} {Z : jz_Z} {s τ : jl_Mm} {F : jp_F} (h : kc_W H Z s) (f : jp_fr F s τ) (w0 : jp_in F 0 2 = false) (w1 : jp_in F 190 0 = false) (w : ∀ c i, 8 ≤ c → c < 38 → jp_in F c i = false) : kc_W H Z τ := by
  have h38 := h.H38
  obtain ⟨h0, h1, h2, h3, h4⟩ := h
  have h8 : 8 ≤ H := by rcases h1 with rfl | rfl <;> decide
  exact ⟨h0, h1, (f _ _ w1).trans h2, (f _ _ w0).trans h3, h4.fr f (fun c i a b => w c i (by omega) (by omega))⟩
theorem kc_A.fr {P9 : Nat} {q : Nat} {a : Nat → Int} {s τ : jl_Mm} {F : jp_F} (h : kc_A P9 q a s) (f : jp_fr F s τ) (w0 : jp_in F q 0 = false) (w1 : jp_in F q 1 = false) (w : ∀ c i, q < c → c < q + 4 → jp_in F c i = false) : kc_A P9 q a τ := by
  obtain ⟨h0, h1, h2, h3, h4⟩ := h
  exact ⟨(f.g _ _ w0).trans h0, (f.g _ _ w1).trans h1, fun i hi => (f.g _ _ (w _ _ (by omega) (by omega))).trans (h2 i hi), fun i hi => (f.g _ _ (w _ _ (by omega) (by omega))).trans (h3 i hi), fun i hi => (f.g _ _ (w _ _ (by omega) (by omega))).trans (h4 i hi)⟩
/-- the reference: its street, an hour -/
def kr_W (Z : jz_Z) (s : jl_Mm) : Prop :=
  kz_V Z ∧ (∀ k, k < 6 → jl_g s 241 (6 + k) = Z.1 (k + 1)) ∧ (∀ i : Nat, (i : Int) < Z.1 2 → jl_g s 243 (12 + (2 * i + 1)) = Z.2.1 3 i) ∧
  (∀ i : Nat, (i : Int) < Z.1 3 → jl_g s 244 (16 + 2 * i) = Z.2.1 5 i ∧ jl_g s 244 (16 + (2 * i + 1)) = Z.2.1 6 i) ∧
  (∀ i : Nat, (i : Int) < Z.1 4 → jl_g s 245 (48 + 3 * i) = Z.2.1 7 i ∧ jl_g s 245 (48 + (3 * i + 1)) = Z.2.1 8 i ∧ jl_g s 245 (48 + (3 * i + 2)) = Z.2.1 9 i)
def kr_A (a : Nat → Int) (s : jl_Mm) : Prop := ∀ i, i < 105 → jl_g s 249 i = a i
theorem kr_W.fr {Z : jz_Z} {s τ : jl_Mm} {F : jp_F} (h : kr_W Z s) (f : jp_fr F s τ) (w : ∀ c i, 241 ≤ c → c < 246 → jp_in F c i = false) : kr_W Z τ := by
  obtain ⟨h0, h1, h2, h3, h4⟩ := h
  exact ⟨h0, fun k hk => (f.g _ _ (w _ _ (by omega) (by omega))).trans (h1 k hk), fun k hk => (f.g _ _ (w _ _ (by omega) (by omega))).trans (h2 k hk), fun k hk => ⟨(f.g _ _ (w _ _ (by omega) (by omega))).trans (h3 k hk).1, (f.g _ _ (w _ _ (by omega) (by omega))).trans (h3 k hk).2⟩, fun k hk => ⟨(f.g _ _ (w _ _ (by omega) (by omega))).trans (h4 k hk).1, (f.g _ _ (w _ _ (by omega) (by omega))).trans (h4 k hk).2.1, (f.g _ _ (w _ _ (by omega) (by omega))).trans (h4 k hk).2.2⟩⟩
theorem kr_A.fr {a : Nat → Int} {s τ : jl_Mm} {F : jp_F} (h : kr_A a s) (f : jp_fr F s τ) (w : ∀ i, jp_in F 249 i = false) : kr_A a τ := fun i hi => (f.g _ _ (w i)).trans (h i hi)
theorem kr_W.nw {Z : jz_Z} {s : jl_Mm} (h : kr_W Z s) : jf_X12_windowMany s = some (((ks_nw Z : Nat) : Int), s) := by
  have := (h.2.1 0 (by decide)).trans h.1.w.1
  rw [jf_X12_windowMany, ← this]; rfl
theorem kr_W.np {Z : jz_Z} {s : jl_Mm} (h : kr_W Z s) : jf_X12_personMany s = some (((ks_np Z : Nat) : Int), s) := by
  have := (h.2.1 1 (by decide)).trans h.1.p.1
  rw [jf_X12_personMany, ← this]; rfl
theorem kr_W.nl {Z : jz_Z} {s : jl_Mm} (h : kr_W Z s) : jf_X12_lieMany s = some (((ks_nl Z : Nat) : Int), s) := by
  have := (h.2.1 2 (by decide)).trans h.1.l.1
  rw [jf_X12_lieMany, ← this]; rfl
theorem kr_W.nr {Z : jz_Z} {s : jl_Mm} (h : kr_W Z s) : jf_X12_planMany s = some (((ks_nr Z : Nat) : Int), s) := by
  have := (h.2.1 3 (by decide)).trans h.1.r.1
  rw [jf_X12_planMany, ← this]; rfl
theorem kr_in {N : Nat} {v : Int} (s : jl_Mm) (hN : N ≤ 1000) (hv : jl_n3 v) : (jl_bd (jf_X12_isIn v 0 (jl_sub ((N : Nat) : Int) 1) s) fun r s => jl_zb r s) = some (if 0 ≤ v ∧ v < ((N : Nat) : Int) then 1 else 0, s) := by
  have e := jp_sub (a := ((N : Nat) : Int)) (b := 1) (by omega) (by omega)
  rw [e, jx12_isIn s (jl_n36 hv) ⟨by decide, by decide⟩ ⟨by omega, by omega⟩, jp_bd]
  by_cases h : 0 ≤ v ∧ v < ((N : Nat) : Int)
  · rw [if_pos h, if_pos (by omega), jp_zb1]
  · rw [if_neg h, if_neg (by omega), jp_zb0]
theorem kr_W.isW {Z : jz_Z} {s : jl_Mm} (h : kr_W Z s) {v : Int} (hv : jl_n3 v) : jf_X12_isWindow v s = some (if 0 ≤ v ∧ v < ((ks_nw Z : Nat) : Int) then 1 else 0, s) := by
  have := h.1.w
  rw [jf_X12_isWindow, h.nw, jp_bd, kr_in s (by omega) hv]
theorem kr_W.isP {Z : jz_Z} {s : jl_Mm} (h : kr_W Z s) {v : Int} (hv : jl_n3 v) : jf_X12_isPerson v s = some (if 0 ≤ v ∧ v < ((ks_np Z : Nat) : Int) then 1 else 0, s) := by
  have := h.1.p
  rw [jf_X12_isPerson, h.np, jp_bd, kr_in s (by omega) hv]
theorem kr_W.isL {Z : jz_Z} {s : jl_Mm} (h : kr_W Z s) {v : Int} (hv : jl_n3 v) : jf_X12_isLie v s = some (if 0 ≤ v ∧ v < ((ks_nl Z : Nat) : Int) then 1 else 0, s) := by
  have := h.1.l
  rw [jf_X12_isLie, h.nl, jp_bd, kr_in s (by omega) hv]
theorem kr_A.lit {a : Nat → Int} {s : jl_Mm} (h : kr_A a s) {l : Nat} (hl : l < 8) : jf_X12_isLit (l : Int) s = some (if 0 < a (8 + l) then 1 else 0, s) := by
  have e : jl_add 8 (l : Int) = ((8 + l : Nat) : Int) := by rw [jp_add (by omega) (by omega)]; omega
  rw [jf_X12_isLit, e, if_pos (by omega), Int.toNat_natCast, h (8 + l) (by omega)]
  simp only [jf_X12_isLit_B17]
  by_cases z : 0 < a (8 + l)
  · rw [if_pos z, if_neg (by omega), jp_zb1]
  · rw [if_neg z, if_pos (by omega), jp_zb0]
theorem kr_W.o {Z : jz_Z} {s : jl_Mm} (h : kr_W Z s) {l : Nat} (hl : l < ks_nl Z) : jf_X12_personOf (l : Int) s = some (((ks_ow Z l : Nat) : Int), s) := by
  have hn := h.1.l
  have e : jl_add 16 (jl_mul 2 (l : Int)) = ((16 + 2 * l : Nat) : Int) := by rw [jp_mul (by omega) (by omega), jp_add (by omega) (by omega)]; omega
  rw [jf_X12_personOf, e, if_pos (by omega), Int.toNat_natCast, (h.2.2.2.1 l (by omega)).1, (h.1.o hl).1]
theorem kr_W.b {Z : jz_Z} {s : jl_Mm} (h : kr_W Z s) {l : Nat} (hl : l < ks_nl Z) : jf_X12_hangsOn (l : Int) s = some (Z.2.1 6 l, s) := by
  have hn := h.1.l
  have e : jl_add 17 (jl_mul 2 (l : Int)) = ((16 + (2 * l + 1) : Nat) : Int) := by rw [jp_mul (by omega) (by omega), jp_add (by omega) (by omega)]; omega
  rw [jf_X12_hangsOn, e, if_pos (by omega), Int.toNat_natCast, (h.2.2.2.1 l (by omega)).2]
theorem kr_win {Z : jz_Z} {a : Nat → Int} {s : jl_Mm} (h : kr_W Z s) (hA : kr_A a s) {l : Nat} (hl : l < ks_nl Z) : jf_X12_windowOf (l : Int) s = some (a (2 + ks_ow Z l), s) := by
  have ho := h.1.o hl
  have e : jl_add 2 ((ks_ow Z l : Nat) : Int) = ((2 + ks_ow Z l : Nat) : Int) := by rw [jp_add (by omega) (by omega)]; omega
  rw [jf_X12_windowOf, h.o hl, jp_bd, e, if_pos (by omega), Int.toNat_natCast, hA _ (by omega)]
theorem kc_W.isL {H : Nat} {Z : jz_Z} {s : jl_Mm} (h : kc_W H Z s) (v : Int) : jf_X11_isLie v s = some (if 0 ≤ v ∧ v < ((ks_nl Z : Nat) : Int) then 1 else 0, s) := by
  rw [jf_X11_isLie, h.g0, h.gr0, h.n3]
  simp only [jf_X11_isLie_B19, jf_X11_isLie_B20, jp_zb0, jp_zb1]
  by_cases a : v < 0
  · rw [if_pos a, if_neg (by omega)]
  · by_cases b : ((ks_nl Z : Nat) : Int) ≤ v
    · rw [if_neg a, if_pos b, if_neg (by omega)]
    · rw [if_neg a, if_neg b, if_pos (by omega)]
theorem kc_W.isP {H : Nat} {Z : jz_Z} {s : jl_Mm} (h : kc_W H Z s) (v : Int) : jf_X11_isPerson v s = some (if 0 ≤ v ∧ v < ((ks_np Z : Nat) : Int) then 1 else 0, s) := by
  rw [jf_X11_isPerson, h.g0, h.gr0, h.n2]
  simp only [jf_X11_isPerson_B19, jf_X11_isPerson_B20, jp_zb0, jp_zb1]
  by_cases a : v < 0
  · rw [if_pos a, if_neg (by omega)]
  · by_cases b : ((ks_np Z : Nat) : Int) ≤ v
    · rw [if_neg a, if_pos b, if_neg (by omega)]
    · rw [if_neg a, if_neg b, if_pos (by omega)]
theorem kc_W.isW {H : Nat} {Z : jz_Z} {s : jl_Mm} (h : kc_W H Z s) (v : Int) : jf_X11_isWindow v s = some (if 0 ≤ v ∧ v < ((ks_nw Z : Nat) : Int) then 1 else 0, s) := by
  rw [jf_X11_isWindow, h.g0, h.gr0, h.n1]
  simp only [jf_X11_isWindow_B19, jf_X11_isWindow_B20, jp_zb0, jp_zb1]
  by_cases a : v < 0
  · rw [if_pos a, if_neg (by omega)]
  · by_cases b : ((ks_nw Z : Nat) : Int) ≤ v
    · rw [if_neg a, if_pos b, if_neg (by omega)]
    · rw [if_neg a, if_neg b, if_pos (by omega)]
theorem kc_isLit {H : Nat} {Z : jz_Z} {a : Nat → Int} {s : jl_Mm} (h : kc_W H Z s) (hA : kc_A (ks_np Z) 40 a s) (v : Int) : jf_X11_isLit v s = some (if (0 ≤ v ∧ v < ((ks_nl Z : Nat) : Int)) ∧ 0 < a (8 + v.toNat) then 1 else 0, s) := by
  have hn := h.1.l
  rw [jf_X11_isLit, h.isL, jp_bd]
  simp only [jf_X11_isLit_B24, jf_X11_isLit_B25, jp_zb0, jp_zb1]
  by_cases z : 0 ≤ v ∧ v < ((ks_nl Z : Nat) : Int)
  · rw [if_pos z, if_neg (by decide), if_pos (by omega), show jl_g s 42 v.toNat = a (8 + v.toNat) from hA.2.2.2.1 v.toNat (by omega)]
    by_cases y : 0 < a (8 + v.toNat)
    · rw [if_neg (by omega), if_pos ⟨z, y⟩]
    · rw [if_pos (by omega), if_neg (by omega)]
  · rw [if_neg z, if_pos rfl, if_neg (by omega)]
