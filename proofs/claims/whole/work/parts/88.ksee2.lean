/-! PURE, both: see -/
theorem ku_div3 : ∀ x, x < 1601 → jl_div ((x : Nat) : Int) 3 = ((x / 3 : Nat) : Int) ∧ jl_rem ((x : Nat) : Int) 3 = ((x % 3 : Nat) : Int) := by decide +kernel
/-- a row of the tape -/
def kz_row (d : kD) (w : Int) (k : Nat) : Prop := d 2 (3 * k) ≤ 30 ∧ d 2 (3 * k + 1) < w ∧ d 2 (3 * k + 2) ≤ 8
def kz_see (d : kD) (w : Int) (x : Nat) : Prop := (0 < x ∧ x % 3 = 0 ∧ x / 3 ≤ 16) ∧ ∀ k, k < x / 3 → kz_row d w k
def kd_see (d : kD) (m : Nat) : kD := fun k => if k = 5 then ks_u (d 5) 0 (m : Int) else if k = 4 then d 2 else if k = 3 then ks_u (d 3) 0 0 else d k
def kd_len (d : kD) : kD := kd_u d 3 0 0
theorem kc_byteAt {d : kD} {x i : Nat} {s : jl_Mm} (hM : kc_M d s) (hx : d 3 0 = (x : Int)) (hx2 : x ≤ 1600) (hi : i < x) : jf_X10_byteAt (i : Int) s = some (d 2 i, s) := by
  rw [jf_X10_byteAt, if_neg (by omega), hM.2.2.1.1, if_neg (by omega), if_pos (by omega), Int.toNat_natCast, hM.2.2.1.2 i (by omega), jf_X10_byteAt_B22]
/-- the loop of the class: no row fails -/
theorem kc_takeT {d : kD} {w : Int} {x m : Nat} {s : jl_Mm} (hM : kc_M d s) (hx : d 3 0 = (x : Int)) (hm : x = 3 * m) (hm2 : m ≤ 16) (ok : ∀ k, k < m → kz_row d w k) : jf_X6_take_L33 jl_fu w (m : Int) 0 s = some (1, jl_up (jl_cp s 2 0 201 0 x) 200 4 (m : Int)) := by
  refine ku_forU (G := fun n k => jf_X6_take_L33 n w (m : Int) ((3 * k : Nat) : Int) s) (N := m) (fun n k hk => ?_) (fun n => ?_) m 0 jl_fu (Nat.zero_add _) (by show m < 4000; omega)
  · obtain ⟨o1, o2, o3⟩ := ok k hk
    have e1 : jl_add ((3 * k : Nat) : Int) 1 = ((3 * k + 1 : Nat) : Int) := by rw [jp_add (by omega) (by omega)]; omega
    have e2 : jl_add ((3 * k : Nat) : Int) 2 = ((3 * k + 2 : Nat) : Int) := by rw [jp_add (by omega) (by omega)]; omega
    have e3 : jl_add ((3 * k : Nat) : Int) 3 = ((3 * (k + 1) : Nat) : Int) := by rw [jp_add (by omega) (by omega)]; omega
    show jf_X6_take_L33 (n + 1) w (m : Int) ((3 * k : Nat) : Int) s = jf_X6_take_L33 n w (m : Int) ((3 * (k + 1) : Nat) : Int) s
    rw [jf_X6_take_L33, hM.2.2.1.1, if_neg (by omega), kc_byteAt hM hx (by omega) (by omega), jp_bd, if_neg (by omega), e1, kc_byteAt hM hx (by omega) (by omega), jp_bd, if_neg (by omega), e2, kc_byteAt hM hx (by omega) (by omega), jp_bd, if_pos o3, e3]
  · show jf_X6_take_L33 (n + 1) w (m : Int) ((3 * m : Nat) : Int) s = _
    rw [jf_X6_take_L33, hM.2.2.1.1, if_pos (by omega), if_pos (by omega), jp_lm, jp_lm, jp_zb1, hx, Int.toNat_natCast]
    rfl
theorem kc_takeF {d : kD} {w : Int} {x m : Nat} {s : jl_Mm} (hM : kc_M d s) (hx : d 3 0 = (x : Int)) (hm : x = 3 * m) (hm2 : m ≤ 16) (ok : ¬ ∀ k, k < m → kz_row d w k) : jf_X6_take_L33 jl_fu w (m : Int) 0 s = some (0, s) := by
  refine ku_for (α := Unit) (G := fun n k _ => jf_X6_take_L33 n w (m : Int) ((3 * k : Nat) : Int) s) (N := m) (P := fun o => o = some (0, s)) (I := fun k _ => ∀ j, j < k → kz_row d w j) (fun n k u hk hI => ?_) (fun n u hI => absurd hI ok) m 0 jl_fu () (Nat.zero_add _) (by show m < 4000; omega) (by intro j hj; omega)
  have e1 : jl_add ((3 * k : Nat) : Int) 1 = ((3 * k + 1 : Nat) : Int) := by rw [jp_add (by omega) (by omega)]; omega
  have e2 : jl_add ((3 * k : Nat) : Int) 2 = ((3 * k + 2 : Nat) : Int) := by rw [jp_add (by omega) (by omega)]; omega
  have e3 : jl_add ((3 * k : Nat) : Int) 3 = ((3 * (k + 1) : Nat) : Int) := by rw [jp_add (by omega) (by omega)]; omega
  have z : ∀ t, jf_X6_take_B78 t = some (0, t) := fun t => by rw [jf_X6_take_B78, jp_zb0]
  show jf_X6_take_L33 (n + 1) w (m : Int) ((3 * k : Nat) : Int) s = some (0, s) ∨ ∃ _ : Unit, jf_X6_take_L33 (n + 1) w (m : Int) ((3 * k : Nat) : Int) s = jf_X6_take_L33 n w (m : Int) ((3 * (k + 1) : Nat) : Int) s ∧ ∀ j, j < k + 1 → kz_row d w j
  rw [jf_X6_take_L33, hM.2.2.1.1, if_neg (by omega), kc_byteAt hM hx (by omega) (by omega), jp_bd, z, e1, kc_byteAt hM hx (by omega) (by omega), jp_bd, z, e2, kc_byteAt hM hx (by omega) (by omega), jp_bd, z, e3]
  by_cases c1 : 30 < d 2 (3 * k)
  · left; rw [if_pos c1]
  by_cases c2 : w ≤ d 2 (3 * k + 1)
  · left; rw [if_neg c1, if_pos c2]
  by_cases c3 : d 2 (3 * k + 2) ≤ 8
  · right
    refine ⟨(), by rw [if_neg c1, if_neg c2, if_pos c3], fun j hj => ?_⟩
    by_cases f : j = k
    · subst f; exact ⟨by omega, by omega, c3⟩
    · exact hI j (by omega)
  · left; rw [if_neg c1, if_neg c2, if_neg c3]
theorem kc_take {d : kD} {w : Int} {x : Nat} {s : jl_Mm} (hM : kc_M d s) (hx : d 3 0 = (x : Int)) (hx2 : x ≤ 1600) : (kz_see d w x → jf_X6_take w s = some (1, jl_up (jl_cp s 2 0 201 0 x) 200 4 ((x / 3 : Nat) : Int))) ∧ (¬ kz_see d w x → jf_X6_take w s = some (0, s)) := by
  have z : jf_X6_take_B28 s = some (0, s) := by rw [jf_X6_take_B28, jp_zb0]
  have em : jl_mul ((x / 3 : Nat) : Int) 3 = ((x / 3 * 3 : Nat) : Int) := by rw [jp_mul (by omega) (by omega)]; omega
  rw [jf_X6_take, hM.2.2.1.1, hx, jp_let, (ku_div3 x (by omega)).1, z, em]
  by_cases c1 : x / 3 < 1
  · exact ⟨fun h => absurd h.1 (by omega), fun _ => if_pos (by omega)⟩
  rw [if_neg (by omega)]
  by_cases c2 : 16 < x / 3
  · exact ⟨fun h => absurd h.1 (by omega), fun _ => if_pos (by omega)⟩
  rw [if_neg (by omega)]
  by_cases c3 : x % 3 = 0
  · rw [if_pos (by omega)]
    refine ⟨fun h => ?_, fun h => ?_⟩
    · exact kc_takeT hM hx (by omega) (by omega) h.2
    · exact kc_takeF hM hx (by omega) (by omega) (fun q => h ⟨⟨by omega, c3, by omega⟩, q⟩)
  · exact ⟨fun h => absurd h.1 (by omega), fun _ => if_neg (by omega)⟩
theorem kIv.see {Z : jz_Z} {Ds : Nat → List Int} {a : Nat → Int} {d : kD} {nx n x : Nat} (h : kIv Z Ds a d nx n) (hx : d 3 0 = (x : Int)) (hs : kz_see d ((ks_nw Z : Nat) : Int) x) : kIv Z Ds a (kd_see d (x / 3)) nx n := by
  obtain ⟨h1, h2, h3, h4, h5, h6, h7, h8, h9⟩ := h
  refine ⟨h1, h2, (⟨Int.le_refl _, by decide⟩ : (0 : Int) ≤ 0 ∧ (0 : Int) ≤ 1600), ?_, ?_, ?_, h7, h8, fun j hj => ?_⟩
  · intro i hi
    have : kd_see d (x / 3) 3 0 = 0 := rfl
    omega
  · have : kd_see d (x / 3) 5 0 = ((x / 3 : Nat) : Int) := rfl
    have := hs.1
    omega
  · intro k hk
    have e : kd_see d (x / 3) 5 0 = ((x / 3 : Nat) : Int) := rfl
    have e4 : kd_see d (x / 3) 4 = d 2 := rfl
    rw [e] at hk
    rw [e4]
    obtain ⟨r1, r2, r3⟩ := hs.2 k (by omega)
    have := hs.1
    have b0 := h4 (3 * k) (by omega)
    have b1 := h4 (3 * k + 1) (by omega)
    have b2 := h4 (3 * k + 2) (by omega)
    omega
  · have e : kd_see d (x / 3) (10 + (nx + 20 - j) % 20) = d (10 + (nx + 20 - j) % 20) := by rw [kd_see, if_neg (by omega), if_neg (by omega), if_neg (by omega)]
    rw [e]; exact h9 j hj
theorem kIv.len {Z : jz_Z} {Ds : Nat → List Int} {a : Nat → Int} {d : kD} {nx n : Nat} (h : kIv Z Ds a d nx n) : kIv Z Ds a (kd_len d) nx n := by
  obtain ⟨h1, h2, h3, h4, h5, h6, h7, h8, h9⟩ := h
  have e : ∀ k, k ≠ 3 → kd_len d k = d k := fun k h => kd_n h
  have e3 : kd_len d 3 0 = 0 := kd_e
  refine ⟨h1, h2, ?_, ?_, ?_, ?_, ?_, ?_, fun j hj => ?_⟩
  · rw [e3]; omega
  · intro i hi; omega
  · rw [e 5 (by decide)]; exact h5
  · rw [e 5 (by decide), e 4 (by decide)]; exact h6
  · rw [e 7 (by decide)]; exact h7
  · rw [e 8 (by decide)]; exact h8
  · rw [e _ (by omega)]; exact h9 j hj
theorem kc_M.len {d : kD} {s : jl_Mm} (hM : kc_M d s) : kc_M (kd_len d) (jl_up s 1 1 0) := by
  have e : ∀ k, k ≠ 3 → kd_len d k = d k := fun k h => kd_n h
  have e3 : kd_len d 3 0 = 0 := kd_e
  have f : jp_fr [(1, 1, 2)] s (jl_up s 1 1 0) := jp_fr.rf.up (by decide)
  have nf : ∀ {c i : Nat}, c ≠ 1 → jp_in [(1, 1, 2)] c i = false := by intro c i h; simp [jp_in]; omega
  obtain ⟨h1, h2, h3, h4, h5, h6⟩ := hM
  refine ⟨?_, ?_, ?_, ?_, ?_, ?_⟩
  · rw [e 0 (by decide)]; intro i hi; rw [f.g _ _ (nf (by decide))]; exact h1 i hi
  · rw [e 1 (by decide), f.g _ _ (nf (by decide)), f.g _ _ (nf (by decide))]; exact h2
  · exact ⟨(jp_g_eq (by decide) (by decide)).trans e3.symm, fun i hi => by omega⟩
  · rw [e 5 (by decide), e 4 (by decide), f.g _ _ (nf (by decide))]; exact ⟨h4.1, fun i hi => (f.g _ _ (nf (by decide))).trans (h4.2 i hi)⟩
  · rw [e 7 (by decide), e 6 (by decide), f.g _ _ (nf (by decide))]; exact ⟨h5.1, fun i hi => (f.g _ _ (nf (by decide))).trans (h5.2 i hi)⟩
  · rw [e 8 (by decide), f.g _ _ (nf (by decide))]; exact h6
theorem kr_M.len {d : kD} {s : jl_Mm} (hM : kr_M d s) : kr_M (kd_len d) (jl_up s 206 1 0) := by
  have e : ∀ k, k ≠ 3 → kd_len d k = d k := fun k h => kd_n h
  have e3 : kd_len d 3 0 = 0 := kd_e
  have f : jp_fr [(206, 1, 2)] s (jl_up s 206 1 0) := jp_fr.rf.up (by decide)
  have nf : ∀ {c i : Nat}, (c = 206 → i ≠ 1) → jp_in [(206, 1, 2)] c i = false := by intro c i h; simp [jp_in]; omega
  obtain ⟨h1, h2, h3, h4, h5, h6⟩ := hM
  refine ⟨?_, ?_, ?_, ?_, ?_, ?_⟩
  · rw [e 0 (by decide)]; intro i hi; rw [f.g _ _ (nf (by intro z; omega))]; exact h1 i hi
  · rw [e 1 (by decide), f.g _ _ (nf (by decide)), f.g _ _ (nf (by decide))]; exact h2
  · exact ⟨(jp_g_eq (by decide) (by decide)).trans e3.symm, fun i hi => by omega⟩
  · rw [e 5 (by decide), e 4 (by decide), f.g _ _ (nf (by decide))]; exact ⟨h4.1, fun i hi => (f.g _ _ (nf (by intro z; omega))).trans (h4.2 i hi)⟩
  · rw [e 7 (by decide), e 6 (by decide), f.g _ _ (nf (by decide))]; exact ⟨h5.1, fun i hi => (f.g _ _ (nf (by intro z; omega))).trans (h5.2 i hi)⟩
  · rw [e 8 (by decide), f.gl _ _ (nf (by decide))]; exact h6
theorem kd_see_n {d : kD} {m k : Nat} (h : k ≠ 3 ∧ k ≠ 4 ∧ k ≠ 5) : kd_see d m k = d k := by rw [kd_see, if_neg h.2.2, if_neg h.2.1, if_neg h.1]
theorem kc_M.see {d : kD} {x : Nat} {s : jl_Mm} (hM : kc_M d s) (hx : d 3 0 = (x : Int)) (h : x % 3 = 0 ∧ x / 3 ≤ 16) : kc_M (kd_see d (x / 3)) (jl_up (jl_up (jl_cp s 2 0 201 0 x) 200 4 ((x / 3 : Nat) : Int)) 1 1 0) := by
  have e : ∀ k, k ≠ 3 ∧ k ≠ 4 ∧ k ≠ 5 → kd_see d (x / 3) k = d k := fun k h => kd_see_n h
  have f : jp_fr [(201, 0, 0), (200, 4, 5), (1, 1, 2)] s (jl_up (jl_up (jl_cp s 2 0 201 0 x) 200 4 ((x / 3 : Nat) : Int)) 1 1 0) := by
    refine jp_fr.up (jp_fr.up ?_ (by decide)) (by decide)
    intro c i hc
    have : c ≠ 201 := by intro q; subst q; simp [jp_in] at hc
    show (if c = 201 then _ else s c i) = _
    rw [if_neg this]
  have nf : ∀ {c i : Nat}, c ≠ 1 → c ≠ 201 → c ≠ 200 → jp_in [(201, 0, 0), (200, 4, 5), (1, 1, 2)] c i = false := by intro c i h h2 h3; simp [jp_in]; omega
  obtain ⟨h1, h2, h3, h4, h5, h6⟩ := hM
  refine ⟨?_, ?_, ?_, ⟨?_, ?_⟩, ?_, ?_⟩
  · rw [e 0 (by decide)]; intro i hi; rw [f.g _ _ (nf (by decide) (by decide) (by decide))]; exact h1 i hi
  · rw [e 1 (by decide), f.g _ _ (nf (by decide) (by decide) (by decide)), f.g _ _ (nf (by decide) (by decide) (by decide))]; exact h2
  · have e3 : kd_see d (x / 3) 3 0 = 0 := rfl
    exact ⟨(jp_g_eq (by decide) (by decide)).trans e3.symm, fun i hi => by omega⟩
  · rw [jp_g_ne (by decide), jp_g_eq (by omega) (by omega)]; rfl
  · have e5 : kd_see d (x / 3) 5 0 = ((x / 3 : Nat) : Int) := rfl
    rw [e5]
    intro i hi
    have hi2 : i < x := by omega
    rw [jp_g_ne (by decide), jp_g_ne (by decide)]
    show (jl_i3 (if 201 = 201 then (if 0 ≤ i ∧ i < 0 + x then s 2 (0 + (i - 0)) else s 201 i) else _)).toInt = d 2 i
    rw [if_pos rfl, if_pos (by omega), Nat.zero_add, Nat.sub_zero]
    exact h3.2 i (by omega)
  · rw [e 7 (by decide), e 6 (by decide), f.g _ _ (nf (by decide) (by decide) (by decide))]; exact ⟨h5.1, fun i hi => (f.g _ _ (nf (by decide) (by decide) (by decide))).trans (h5.2 i hi)⟩
  · rw [e 8 (by decide), f.g _ _ (nf (by decide) (by decide) (by decide))]; exact h6
theorem kr_seeT {Z : jz_Z} {d : kD} {x m : Nat} {s : jl_Mm} (hW : kr_W Z s) (hT : ∀ i, i < x → jl_g s 207 i = d 2 i) (hn : ∀ i, i < x → 0 ≤ d 2 i ∧ d 2 i ≤ 255) (hm : x = 3 * m) (hm2 : m ≤ 16) (ok : ∀ k, k < m → kz_row d ((ks_nw Z : Nat) : Int) k) : jf_X12_see_L36 jl_fu (x : Int) 1 0 s = jf_X12_see_B97 (x : Int) 1 s := by
  refine ku_forU (G := fun n k => jf_X12_see_L36 n (x : Int) 1 ((3 * k : Nat) : Int) s) (N := m) (fun n k hk => ?_) (fun n => ?_) m 0 jl_fu (Nat.zero_add _) (by show m < 4000; omega)
  · obtain ⟨o1, o2, o3⟩ := ok k hk
    have e1 : jl_add ((3 * k : Nat) : Int) 1 = ((3 * k + 1 : Nat) : Int) := by rw [jp_add (by omega) (by omega)]; omega
    have e2 : jl_add ((3 * k : Nat) : Int) 2 = ((3 * k + 2 : Nat) : Int) := by rw [jp_add (by omega) (by omega)]; omega
    have e3 : jl_add ((3 * k : Nat) : Int) 3 = ((3 * (k + 1) : Nat) : Int) := by rw [jp_add (by omega) (by omega)]; omega
    have n1 := hn (3 * k + 1) (by omega)
    show jf_X12_see_L36 (n + 1) (x : Int) 1 ((3 * k : Nat) : Int) s = jf_X12_see_L36 n (x : Int) 1 ((3 * (k + 1) : Nat) : Int) s
    rw [jf_X12_see_L36, if_neg (by omega), if_neg (by decide), if_pos (by omega), Int.toNat_natCast, hT _ (by omega), if_neg (by omega), e1, if_pos (by omega), Int.toNat_natCast, hT _ (by omega), hW.isW ⟨by omega, by omega⟩, jp_bd, if_pos (show 0 ≤ d 2 (3 * k + 1) ∧ d 2 (3 * k + 1) < ((ks_nw Z : Nat) : Int) from ⟨n1.1, o2⟩), if_neg (by decide), e2, if_pos (by omega), Int.toNat_natCast, hT _ (by omega), if_neg (by omega), jf_X12_see_B90, e3]
  · show jf_X12_see_L36 (n + 1) (x : Int) 1 ((3 * m : Nat) : Int) s = _
    rw [jf_X12_see_L36, if_pos (by omega)]
theorem kr_seeF {Z : jz_Z} {d : kD} {x m : Nat} {s : jl_Mm} (hW : kr_W Z s) (hT : ∀ i, i < x → jl_g s 207 i = d 2 i) (hn : ∀ i, i < x → 0 ≤ d 2 i ∧ d 2 i ≤ 255) (hm : x = 3 * m) (hm2 : m ≤ 16) (ok : ¬ ∀ k, k < m → kz_row d ((ks_nw Z : Nat) : Int) k) : jf_X12_see_L36 jl_fu (x : Int) 1 0 s = jf_X12_see_B97 (x : Int) 0 s := by
  refine ku_for2 (α := Unit) (G := fun n k _ => jf_X12_see_L36 n (x : Int) 1 ((3 * k : Nat) : Int) s) (N := m) (P := fun o => o = jf_X12_see_B97 (x : Int) 0 s) (I := fun k _ => ∀ j, j < k → kz_row d ((ks_nw Z : Nat) : Int) j) (fun n k u hk hnn hI => ?_) (fun n u hI => absurd hI ok) m 0 jl_fu () (Nat.zero_add _) (by show m < 4000; omega) (by intro j hj; omega)
  have e1 : jl_add ((3 * k : Nat) : Int) 1 = ((3 * k + 1 : Nat) : Int) := by rw [jp_add (by omega) (by omega)]; omega
  have e2 : jl_add ((3 * k : Nat) : Int) 2 = ((3 * k + 2 : Nat) : Int) := by rw [jp_add (by omega) (by omega)]; omega
  have e3 : jl_add ((3 * k : Nat) : Int) 3 = ((3 * (k + 1) : Nat) : Int) := by rw [jp_add (by omega) (by omega)]; omega
  have n1 := hn (3 * k + 1) (by omega)
  have z : jf_X12_see_B89 (jf_X12_see_L36 n) (x : Int) ((3 * k : Nat) : Int) s = jf_X12_see_B97 (x : Int) 0 s := by
    obtain ⟨n', rfl⟩ : ∃ n', n = n' + 1 := ⟨n - 1, by omega⟩
    rw [jf_X12_see_B89, jf_X12_see_B90, e3, jf_X12_see_L36]
    by_cases c : (x : Int) ≤ ((3 * (k + 1) : Nat) : Int)
    · rw [if_pos c]
    · rw [if_neg c, if_pos rfl]
  show jf_X12_see_L36 (n + 1) (x : Int) 1 ((3 * k : Nat) : Int) s = _ ∨ ∃ _ : Unit, jf_X12_see_L36 (n + 1) (x : Int) 1 ((3 * k : Nat) : Int) s = jf_X12_see_L36 n (x : Int) 1 ((3 * (k + 1) : Nat) : Int) s ∧ ∀ j, j < k + 1 → kz_row d ((ks_nw Z : Nat) : Int) j
  rw [jf_X12_see_L36, if_neg (by omega), if_neg (by decide), if_pos (by omega), Int.toNat_natCast, hT _ (by omega)]
  by_cases c1 : 30 < d 2 (3 * k)
  · left; rw [if_pos c1, z]
  rw [if_neg c1, e1, if_pos (by omega), Int.toNat_natCast, hT _ (by omega), hW.isW ⟨by omega, by omega⟩, jp_bd]
  by_cases c2 : d 2 (3 * k + 1) < ((ks_nw Z : Nat) : Int)
  · rw [if_pos (show 0 ≤ d 2 (3 * k + 1) ∧ d 2 (3 * k + 1) < ((ks_nw Z : Nat) : Int) from ⟨n1.1, c2⟩), if_neg (by decide), e2, if_pos (by omega), Int.toNat_natCast, hT _ (by omega)]
    by_cases c3 : 8 < d 2 (3 * k + 2)
    · left; rw [if_pos c3, z]
    · right
      refine ⟨(), by rw [if_neg c3, jf_X12_see_B90, e3], fun j hj => ?_⟩
      by_cases f : j = k
      · subst f; exact ⟨by omega, by omega, by omega⟩
      · exact hI j (by omega)
  · left; rw [if_neg (show ¬ (0 ≤ d 2 (3 * k + 1) ∧ d 2 (3 * k + 1) < ((ks_nw Z : Nat) : Int)) from fun q => c2 q.2), if_pos rfl, z]
theorem kr_seeC {d : kD} {x m : Nat} {s : jl_Mm} (hT : ∀ i, i < x → jl_g s 207 i = d 2 i) (hn : ∀ i, i < x → 0 ≤ d 2 i ∧ d 2 i ≤ 255) (hm : x = 3 * m) (hm2 : m ≤ 16) : jE (jf_X12_see_L109 jl_fu (x : Int) 0 s) (m : Int) [(253, 0, 0), (206, 65, 66)] s (fun τ => jl_g τ 206 65 = (m : Int) ∧ ∀ i, i < x → jl_g τ 253 i = d 2 i) := by
  refine ku_for (α := jl_Mm) (G := fun n j τ => jf_X12_see_L109 n (x : Int) ((j : Nat) : Int) τ) (N := x) (P := fun o => jE o (m : Int) [(253, 0, 0), (206, 65, 66)] s (fun τ => jl_g τ 206 65 = (m : Int) ∧ ∀ i, i < x → jl_g τ 253 i = d 2 i)) (I := fun j τ => jp_fr [(253, 0, 0)] s τ ∧ ∀ i, i < j → jl_g τ 253 i = d 2 i) (fun n j τ hj hI => Or.inr ?_) (fun n τ hI => ?_) x 0 jl_fu s (Nat.zero_add _) (by show x < 4000; omega) ⟨jp_fr.rf, by intro i hi; omega⟩
  · obtain ⟨hf, hI⟩ := hI
    have e : jl_g τ 207 j = d 2 j := (hf.g _ _ (by simp [jp_in])).trans (hT j hj)
    have b := hn j hj
    refine ⟨jl_up τ 253 j (d 2 j), ?_, hf.up (by simp [jp_in]), fun i hi => ?_⟩
    · show jf_X12_see_L109 (n + 1) (x : Int) (j : Int) τ = jf_X12_see_L109 n (x : Int) ((j + 1 : Nat) : Int) _
      rw [jf_X12_see_L109, if_neg (by omega), if_pos (by omega), if_pos (by omega), jp_lm, Int.toNat_natCast, e, jp_add (by omega) (by omega), ku_s]
    · by_cases c : i = j
      · subst c; exact jp_g_eq (by omega) (by omega)
      · rw [jp_g_nei c]; exact hI i (by omega)
  · show jE (jf_X12_see_L109 (n + 1) (x : Int) (x : Int) τ) _ _ _ _
    have hd : x / 3 = m := by omega
    rw [jf_X12_see_L109, if_pos (Int.le_refl _), (ku_div3 x (by omega)).1, hd, jp_lm, jp_g_eq (by omega) (by omega)]
    exact ⟨_, rfl, (hI.1.w (by decide)).up (by decide), jp_g_eq (by omega) (by omega), fun i hi => by rw [jp_g_ne (by decide)]; exact hI.2 i hi⟩
theorem kI_sees : kI_call jf_X11_see jf_X12_see := kI_mk (fun Z Ds a d nx n hV => by
  have h3 := hV.2.2.1
  have h4 := hV.2.2.2.1
  obtain ⟨x, hx⟩ : ∃ x : Nat, d 3 0 = (x : Int) := ⟨(d 3 0).toNat, by omega⟩
  by_cases c : kz_see d ((ks_nw Z : Nat) : Int) x
  · have hm3 : x = 3 * (x / 3) := by have := c.1; omega
    have hm16 := c.1.2.2
    refine ⟨((x / 3 : Nat) : Int), [(201, 0, 0), (200, 4, 5), (1, 1, 2)], [(253, 0, 0), (206, 65, 66), (206, 1, 2)], Z, Ds, a, kd_see d (x / 3), nx, n, by intro c i h; simp [jp_in]; omega, by intro c i h; simp [jp_in]; omega, hV.see hx c, fun s hs => ?_, fun s hs => ?_⟩
    · have M := hs.M
      have hs' := hs
      obtain ⟨H, G, ⟨hW, -⟩, -⟩ := hs'
      have f : jp_fr [(201, 0, 0), (200, 4, 5), (1, 1, 2)] s (jl_up (jl_up (jl_cp s 2 0 201 0 x) 200 4 ((x / 3 : Nat) : Int)) 1 1 0) := by
        refine jp_fr.up (jp_fr.up ?_ (by decide)) (by decide)
        intro c i hc
        have : c ≠ 201 := by intro q; subst q; simp [jp_in] at hc
        show (if c = 201 then _ else s c i) = _
        rw [if_neg this]
      rw [jf_X11_see, hW.g0, hW.gr0, hW.n1, (kc_take M hx (by omega)).1 c, jp_bd, jp_lm, if_neg (by decide), jf_X11_see_B46, jp_g_ne (by decide), jp_g_eq (by omega) (by omega)]
      exact ⟨_, rfl, f, hs.m f (by intro c i h1 h2; simp [jp_in]; omega) ⟨by decide, by decide⟩ (fun k hk => kd_see_n (by omega)) (M.see hx c.1.2)⟩
    · have M := hs.2.1
      have W : kr_W Z (jl_up s 206 1 0) := hs.1.1.fr (F := [(206, 1, 2)]) (jp_fr.rf.up (by decide)) (by intro c i h1 h2; simp [jp_in]; omega)
      have T : ∀ i, i < x → jl_g (jl_up s 206 1 0) 207 i = d 2 i := fun i hi => by rw [jp_g_ne (by decide)]; exact M.2.2.1.2 i (by omega)
      have hn : ∀ i, i < x → 0 ≤ d 2 i ∧ d 2 i ≤ 255 := fun i hi => h4 i (by omega)
      have := c.1
      rw [jf_X12_see, M.2.2.1.1, hx, jp_let, jp_lm, if_neg (by omega), (ku_div3 x (by omega)).1, (ku_div3 x (by omega)).2, if_pos (by omega), if_neg (by omega), jf_X12_see_B33, kr_seeT W T hn hm3 hm16 c.2, jf_X12_see_B97, if_neg (by decide)]
      obtain ⟨τ, t1, t2, t3, t4⟩ := kr_seeC T hn hm3 hm16
      have f : jp_fr [(253, 0, 0), (206, 65, 66), (206, 1, 2)] s τ := (jp_fr.rf.up (by decide) : jp_fr [(253, 0, 0), (206, 65, 66), (206, 1, 2)] s (jl_up s 206 1 0)).tr (t2.w (by decide))
      have nf : ∀ {c i : Nat}, c ≠ 253 → (c = 206 → i ≠ 1 ∧ i ≠ 65) → jp_in [(253, 0, 0), (206, 65, 66), (206, 1, 2)] c i = false := by intro c i h h2; simp [jp_in]; omega
      have e : ∀ k, k ≠ 3 ∧ k ≠ 4 ∧ k ≠ 5 → kd_see d (x / 3) k = d k := fun k h => kd_see_n h
      refine ⟨τ, t1, f, hs.m f (fun c i h1 h2 => nf (by omega) (by omega)) (fun c i h1 h2 => nf (by omega) (by omega)) ⟨by decide, by decide, by decide, by decide⟩ (fun k hk => e k (by omega)) ?_⟩
      obtain ⟨m1, m2, m3, m4, m5, m6⟩ := M
      refine ⟨?_, ?_, ?_, ⟨t3, ?_⟩, ?_, ?_⟩
      · rw [e 0 (by decide)]; intro i hi; rw [f.g _ _ (nf (by decide) (by intro z; omega))]; exact m1 i hi
      · rw [e 1 (by decide), f.g _ _ (nf (by decide) (by decide)), f.g _ _ (nf (by decide) (by decide))]; exact m2
      · have e3 : kd_see d (x / 3) 3 0 = 0 := rfl
        refine ⟨?_, fun i hi => by omega⟩
        rw [t2.g _ _ (by decide), jp_g_eq (by decide) (by decide)]; rfl
      · have e5 : kd_see d (x / 3) 5 0 = ((x / 3 : Nat) : Int) := rfl
        rw [e5]
        exact fun i hi => t4 i (by omega)
      · rw [e 7 (by decide), e 6 (by decide), f.g _ _ (nf (by decide) (by decide))]; exact ⟨m5.1, fun i hi => (f.g _ _ (nf (by decide) (by intro z; omega))).trans (m5.2 i hi)⟩
      · rw [e 8 (by decide), f.gl _ _ (nf (by decide) (by decide))]; exact m6
  · refine ⟨-1, [(205, 0, 0), (1, 1, 2)], [(208, 0, 0), (206, 1, 2)], Z, Ds, a, kd_no (kd_len d) 1, nx, n, by intro c i h; simp [jp_in]; omega, by intro c i h; simp [jp_in]; omega, hV.len.no, fun s hs => ?_, fun s hs => ?_⟩
    · have M := hs.M
      have hs' := hs
      obtain ⟨H, G, ⟨hW, -⟩, -⟩ := hs'
      have u : ∀ t, jf_X11_refuse 1 t = _ := fun t => kc_refuse (k := 1) (s := t) (by decide)
      have f1 : jp_fr [(1, 1, 2)] s (jl_up s 1 1 0) := jp_fr.rf.up (by decide)
      have I1 : kIc Z Ds a (kd_len d) nx n (jl_up s 1 1 0) := hs.m f1 (by intro c i h1 h2; simp [jp_in]; omega) ⟨by decide, by decide⟩ (fun k hk => kd_n (by omega)) M.len
      rw [jf_X11_see, hW.g0, hW.gr0, hW.n1, (kc_take M hx (by omega)).2 c, jp_bd, jp_lm, if_pos rfl, u, jp_bd, jf_X11_see_B46]
      exact ⟨_, rfl, (f1.w (by decide)).up (by decide), I1.no (by decide)⟩
    · have M := hs.2.1
      have W : kr_W Z (jl_up s 206 1 0) := hs.1.1.fr (F := [(206, 1, 2)]) (jp_fr.rf.up (by decide)) (by intro c i h1 h2; simp [jp_in]; omega)
      have T : ∀ i, i < x → jl_g (jl_up s 206 1 0) 207 i = d 2 i := fun i hi => by rw [jp_g_ne (by decide)]; exact M.2.2.1.2 i (by omega)
      have hn : ∀ i, i < x → 0 ≤ d 2 i ∧ d 2 i ≤ 255 := fun i hi => h4 i (by omega)
      have u : ∀ t, jf_X12_refuses 1 t = _ := fun t => kr_refuses (k := 1) (s := t) (by decide)
      have f1 : jp_fr [(206, 1, 2)] s (jl_up s 206 1 0) := jp_fr.rf.up (by decide)
      have I1 : kIr Z Ds a (kd_len d) nx n (jl_up s 206 1 0) := hs.m f1 (by intro c i h1 h2; simp [jp_in]; omega) (by intro c i h1 h2; simp [jp_in]; omega) ⟨by decide, by decide, by decide, by decide⟩ (fun k hk => kd_n (by omega)) M.len
      have z0 : ∀ t, jf_X12_see_L36 jl_fu (x : Int) 0 0 t = jf_X12_see_B97 (x : Int) 0 t := fun t => by
        rw [show jl_fu = 3999 + 1 from rfl, jf_X12_see_L36]
        by_cases q : (x : Int) ≤ 0
        · rw [if_pos q]
        · rw [if_neg q, if_pos rfl]
      have z : jf_X12_see s = jf_X12_see_B97 (x : Int) 0 (jl_up s 206 1 0) := by
        rw [jf_X12_see, M.2.2.1.1, hx, jp_let, jp_lm, (ku_div3 x (by omega)).1, (ku_div3 x (by omega)).2, jf_X12_see_B32, jf_X12_see_B33, jf_X12_see_B33, z0]
        by_cases c1 : (x : Int) ≤ 0
        · rw [if_pos c1]
        rw [if_neg c1]
        by_cases c2 : x % 3 = 0
        · rw [if_pos (by omega)]
          by_cases c3 : 16 < x / 3
          · rw [if_pos (by omega)]
          · rw [if_neg (by omega)]
            exact kr_seeF (m := x / 3) W T hn (by omega) (by omega) (fun q => c ⟨⟨by omega, c2, by omega⟩, q⟩)
        · rw [if_neg (by omega)]
      rw [z, jf_X12_see_B97, if_pos rfl, u, jp_bd]
      exact ⟨_, rfl, (f1.w (by decide)).up (by decide), I1.no (by decide)⟩)
