/-! PURE, both: lie, kept -/
def ks_hg (Z : jz_Z) (l : Nat) : Nat → Int
  | 0 => jl_shl 1 (l : Int)
  | m + 1 => if 0 ≤ Z.2.1 6 (l + 1 + m) ∧ jl_and (jl_shr (ks_hg Z l m) (Z.2.1 6 (l + 1 + m))) 1 = 1 then jl_or (ks_hg Z l m) (jl_shl 1 ((l + 1 + m : Nat) : Int)) else ks_hg Z l m
def kp_hang (Z : jz_Z) (l : Nat) : Int := jl_and (ks_hg Z l (ks_nl Z - (l + 1))) (jl_xor (jl_shl 1 (l : Int)) (-1))
theorem ks_hg_l {Z : jz_Z} {l : Nat} (hl : l < 8) : ∀ m, jp_tb (ks_hg Z l m) l = true
  | 0 => by rw [ks_hg, jp_tb_s1 l (by omega) l (by omega)]; exact decide_eq_true rfl
  | m + 1 => by
    rw [ks_hg]; split
    · rw [jp_tb_or, ks_hg_l hl m]; rfl
    · exact ks_hg_l hl m
theorem ku_xan {x : Int} {l : Nat} (hl : l < 8) (h : jp_tb x l = true) : jl_xor x (jl_shl 1 (l : Int)) = jl_and x (jl_xor (jl_shl 1 (l : Int)) (-1)) := by
  refine jp_ext (jp_xor_n _ _) (jp_and_n _ _) (fun b hb => ?_)
  rw [jp_tb_xor, jp_tb_and, jp_tb_not _ hb, jp_tb_s1 l (by omega) b hb]
  by_cases e : l = b
  · subst e; rw [h, decide_eq_true rfl]; rfl
  · rw [decide_eq_false e]; cases jp_tb x b <;> rfl
theorem kc_hang {H l : Nat} {Z : jz_Z} {s : jl_Mm} (hW : kc_W H Z s) (hl : l < ks_nl Z) : jf_X8_hanging H (l : Int) s = some (kp_hang Z l, s) := by
  have h8 := hW.1.l
  have e1 : jl_add (l : Int) 1 = ((l + 1 : Nat) : Int) := jp_add (by omega) (by omega)
  rw [jf_X8_hanging, if_pos (jz_kd hW.2.1), jp_let, jp_let, e1]
  refine ku_forU (G := fun n i => jf_X8_hanging_L8 n H (l : Int) (ks_hg Z l i) ((l + 1 + i : Nat) : Int) s) (N := ks_nl Z - (l + 1)) (fun n i hi => ?_) (fun n => ?_) (ks_nl Z - (l + 1)) 0 jl_fu (Nat.zero_add _) (by show ks_nl Z - (l + 1) < 4000; omega)
  · have hb := (hW.1.2.2.2.2.2.2.2.1 (l + 1 + i) (by omega)).2
    have ek : jl_add ((l + 1 + i : Nat) : Int) 1 = ((l + 1 + (i + 1) : Nat) : Int) := by rw [jp_add (by omega) (by omega)]; omega
    show jf_X8_hanging_L8 (n + 1) H (l : Int) (ks_hg Z l i) ((l + 1 + i : Nat) : Int) s = jf_X8_hanging_L8 n H (l : Int) (ks_hg Z l (i + 1)) ((l + 1 + (i + 1) : Nat) : Int) s
    rw [jf_X8_hanging_L8, hW.n3, if_neg (by omega), if_pos (by omega), Int.toNat_natCast, hW.b (by omega), ks_hg]
    by_cases c : Z.2.1 6 (l + 1 + i) < 0
    · rw [if_pos c, jf_X8_hanging_B45, ek, if_neg (show ¬ (0 ≤ Z.2.1 6 (l + 1 + i) ∧ jl_and (jl_shr (ks_hg Z l i) (Z.2.1 6 (l + 1 + i))) 1 = 1) from fun q => by omega)]
    · rw [if_neg c, if_pos (by omega)]
      by_cases f : jl_and (jl_shr (ks_hg Z l i) (Z.2.1 6 (l + 1 + i))) 1 = 1
      · rw [if_pos f, jp_let, jf_X8_hanging_B45, ek, if_pos (show 0 ≤ Z.2.1 6 (l + 1 + i) ∧ jl_and (jl_shr (ks_hg Z l i) (Z.2.1 6 (l + 1 + i))) 1 = 1 from ⟨by omega, f⟩)]
      · rw [if_neg f, jf_X8_hanging_B45, ek, if_neg (show ¬ (0 ≤ Z.2.1 6 (l + 1 + i) ∧ jl_and (jl_shr (ks_hg Z l i) (Z.2.1 6 (l + 1 + i))) 1 = 1) from fun q => f q.2)]
  · show jf_X8_hanging_L8 (n + 1) H (l : Int) (ks_hg Z l (ks_nl Z - (l + 1))) ((l + 1 + (ks_nl Z - (l + 1)) : Nat) : Int) s = _
    rw [jf_X8_hanging_L8, hW.n3, if_pos (by omega), ku_xan (by omega) (ks_hg_l (by omega) _), kp_hang]
theorem kr_hang {l : Nat} {Z : jz_Z} {s : jl_Mm} (hW : kr_W Z s) (hl : l < ks_nl Z) : jf_X12_hangingOn (l : Int) s = some (kp_hang Z l, s) := by
  have h8 := hW.1.l
  have e1 : jl_add (l : Int) 1 = ((l + 1 : Nat) : Int) := jp_add (by omega) (by omega)
  rw [jf_X12_hangingOn, jp_let, jp_let, e1]
  refine ku_forU (G := fun n i => jf_X12_hangingOn_L8 n (l : Int) (ks_hg Z l i) ((l + 1 + i : Nat) : Int) s) (N := ks_nl Z - (l + 1)) (fun n i hi => ?_) (fun n => ?_) (ks_nl Z - (l + 1)) 0 jl_fu (Nat.zero_add _) (by show ks_nl Z - (l + 1) < 4000; omega)
  · have hb := (hW.1.2.2.2.2.2.2.2.1 (l + 1 + i) (by omega)).2
    have ek : jl_add ((l + 1 + i : Nat) : Int) 1 = ((l + 1 + (i + 1) : Nat) : Int) := by rw [jp_add (by omega) (by omega)]; omega
    show jf_X12_hangingOn_L8 (n + 1) (l : Int) (ks_hg Z l i) ((l + 1 + i : Nat) : Int) s = jf_X12_hangingOn_L8 n (l : Int) (ks_hg Z l (i + 1)) ((l + 1 + (i + 1) : Nat) : Int) s
    rw [jf_X12_hangingOn_L8, hW.nl, jp_bd, if_neg (by omega), hW.b (by omega), jp_bd, ks_hg]
    by_cases c : Z.2.1 6 (l + 1 + i) = -1
    · rw [if_pos c, jf_X12_hangingOn_B44, ek, if_neg (show ¬ (0 ≤ Z.2.1 6 (l + 1 + i) ∧ jl_and (jl_shr (ks_hg Z l i) (Z.2.1 6 (l + 1 + i))) 1 = 1) from fun q => by omega)]
    · rw [if_neg c, hW.b (by omega), jp_bd]
      by_cases f : jl_and (jl_shr (ks_hg Z l i) (Z.2.1 6 (l + 1 + i))) 1 = 1
      · rw [if_pos f, jp_let, jf_X12_hangingOn_B44, ek, if_pos (show 0 ≤ Z.2.1 6 (l + 1 + i) ∧ jl_and (jl_shr (ks_hg Z l i) (Z.2.1 6 (l + 1 + i))) 1 = 1 from ⟨by omega, f⟩)]
      · rw [if_neg f, jf_X12_hangingOn_B44, ek, if_neg (show ¬ (0 ≤ Z.2.1 6 (l + 1 + i) ∧ jl_and (jl_shr (ks_hg Z l i) (Z.2.1 6 (l + 1 + i))) 1 = 1) from fun q => f q.2)]
  · show jf_X12_hangingOn_L8 (n + 1) (l : Int) (ks_hg Z l (ks_nl Z - (l + 1))) ((l + 1 + (ks_nl Z - (l + 1)) : Nat) : Int) s = _
    rw [jf_X12_hangingOn_L8, hW.nl, jp_bd, if_pos (by omega), kp_hang]
def kp_lie (Z : jz_Z) (Ds : Nat → List Int) (a : Nat → Int) (v w : Int) : Int := if 0 ≤ v ∧ v < ((ks_nl Z : Nat) : Int) then
  (if w = 0 then ((ks_ow Z v.toNat : Nat) : Int) else if w = 1 then a (8 + v.toNat) else if w = 2 then a (16 + v.toNat) else if w = 3 then (if ks_bel Z Ds a v.toNat = true then 1 else 0) else if w = 4 then Z.2.1 6 v.toNat else if w = 5 then kp_hang Z v.toNat else if w = 6 then ks_near Z a v.toNat else -1) else -1
theorem kc_lie {Z : jz_Z} {Ds : Nat → List Int} {a : Nat → Int} {d : kD} {nx n : Nat} {v w : Int} {s : jl_Mm} (hv : kIv Z Ds a d nx n) (hs : kIc Z Ds a d nx n s) : jE (jf_X11_lie v w s) (kp_lie Z Ds a v w) kc_FB s (fun _ => True) := by
  obtain ⟨H, G, ⟨hW, hK, hA⟩, hG, -, -, hM, hP⟩ := hs
  have h8 := hW.1.l
  rw [jf_X11_lie, hW.isL, jp_bd, kp_lie]
  by_cases c : 0 ≤ v ∧ v < ((ks_nl Z : Nat) : Int)
  · obtain ⟨l, rfl⟩ : ∃ l : Nat, v = (l : Int) := ⟨v.toNat, by omega⟩
    have hl : l < ks_nl Z := by omega
    have r8 : 0 ≤ (l : Int) ∧ (l : Int) < ((8 : Nat) : Int) := by omega
    have e42 : jl_g s 42 l = a (8 + l) := hA.2.2.2.1 l (by omega)
    have e43 : jl_g s 43 l = a (16 + l) := hA.2.2.2.2 l (by omega)
    rw [if_pos c, if_neg (by decide), if_pos c, Int.toNat_natCast]
    by_cases c0 : w = 0
    · rw [if_pos c0, if_pos c0, hW.g0, hW.gr0, if_pos r8, hW.o hl]; exact jE.ret trivial
    rw [if_neg c0, if_neg c0]
    by_cases c1 : w = 1
    · rw [if_pos c1, if_pos c1, if_pos r8, e42]; exact jE.ret trivial
    rw [if_neg c1, if_neg c1]
    by_cases c2 : w = 2
    · rw [if_pos c2, if_pos c2, if_pos r8, e43]; exact jE.ret trivial
    rw [if_neg c2, if_neg c2]
    by_cases c3 : w = 3
    · obtain ⟨τ, t1, t2, -⟩ := kc_bel (Or.inl rfl) hW hv.1.1 hA hK hv.1.2.1
      rw [if_pos c3, if_pos c3, t1, jp_bd, ks_belB, ku_b_bit _ h8.2 hl]
      exact ⟨τ, rfl, t2.w (by decide), trivial⟩
    rw [if_neg c3, if_neg c3]
    by_cases c4 : w = 4
    · rw [if_pos c4, if_pos c4, hW.g0, hW.gr0, if_pos r8, hW.b hl]; exact jE.ret trivial
    rw [if_neg c4, if_neg c4]
    by_cases c5 : w = 5
    · rw [if_pos c5, if_pos c5, hW.g0, hW.gr0, kc_hang hW hl, jp_bd]; exact jE.ret trivial
    rw [if_neg c5, if_neg c5]
    by_cases c6 : w = 6
    · rw [if_pos c6, if_pos c6, kc_near (Or.inl rfl) hW hv.1.1 hA hl, jp_bd]; exact jE.ret trivial
    rw [if_neg c6, if_neg c6]; exact jE.ret trivial
  · rw [if_neg c, if_pos rfl, if_neg c]; exact jE.ret trivial
theorem kr_lie {Z : jz_Z} {Ds : Nat → List Int} {a : Nat → Int} {d : kD} {nx n : Nat} {v w : Int} {s : jl_Mm} (hn3 : jl_n3 v) (hv : kIv Z Ds a d nx n) (hs : kIr Z Ds a d nx n s) : jE (jf_X12_lie v w s) (kp_lie Z Ds a v w) kr_FA s (kr_N Z Ds a) := by
  obtain ⟨hN, hM, hH, -, -⟩ := hs
  have hW := hN.1
  have hA := hN.2.2.1
  have h8 := hW.1.l
  rw [jf_X12_lie, hW.isL hn3, jp_bd, kp_lie]
  by_cases c : 0 ≤ v ∧ v < ((ks_nl Z : Nat) : Int)
  · obtain ⟨l, rfl⟩ : ∃ l : Nat, v = (l : Int) := ⟨v.toNat, by omega⟩
    have hl : l < ks_nl Z := by omega
    have a8 : jl_add 8 (l : Int) = ((8 + l : Nat) : Int) := by rw [jp_add (by omega) (by omega)]; omega
    have a16 : jl_add 16 (l : Int) = ((16 + l : Nat) : Int) := by rw [jp_add (by omega) (by omega)]; omega
    rw [if_pos c, if_neg (by decide), if_pos c, Int.toNat_natCast]
    by_cases c0 : w = 0
    · rw [if_pos c0, if_pos c0, hW.o hl, jp_bd]; exact jE.ret hN
    rw [if_neg c0, if_neg c0]
    by_cases c1 : w = 1
    · rw [if_pos c1, if_pos c1, a8, if_pos (by omega), Int.toNat_natCast, hA _ (by omega)]; exact jE.ret hN
    rw [if_neg c1, if_neg c1]
    by_cases c2 : w = 2
    · rw [if_pos c2, if_pos c2, a16, if_pos (by omega), Int.toNat_natCast, hA _ (by omega)]; exact jE.ret hN
    rw [if_neg c2, if_neg c2]
    by_cases c3 : w = 3
    · obtain ⟨τ, t1, t2, -⟩ := kr_isHeld (l := l) hW hv.1.1 hA hN.2.1 hv.1.2.1 hl
      have f : jp_fr kr_FA s τ := t2.w (by decide)
      rw [if_pos c3, if_pos c3, t1, jp_bd]
      refine ⟨τ, ?_, f, hN.frA f (hA.fr t2 (fun i => kr_FHn (by decide) (by intro z; omega) (by decide))) ((t2.g _ _ (by decide)).trans hN.2.2.2.1)⟩
      by_cases z : ks_bel Z Ds a l = true
      · rw [if_pos z, if_neg (by decide)]; rfl
      · rw [if_neg z, if_pos rfl]; rfl
    rw [if_neg c3, if_neg c3]
    by_cases c4 : w = 4
    · rw [if_pos c4, if_pos c4, hW.b hl, jp_bd]; exact jE.ret hN
    rw [if_neg c4, if_neg c4]
    by_cases c5 : w = 5
    · rw [if_pos c5, if_pos c5, kr_hang hW hl, jp_bd]; exact jE.ret hN
    rw [if_neg c5, if_neg c5]
    by_cases c6 : w = 6
    · rw [if_pos c6, if_pos c6, kr_near hW hv.1.1 hA hl, jp_bd]; exact jE.ret hN
    rw [if_neg c6, if_neg c6]; exact jE.ret hN
  · rw [if_neg c, if_pos rfl, if_neg c]; exact jE.ret hN
theorem kI_lie {v w : Int} (hv : jl_n3 v) : kI_call (jf_X11_lie v w) (jf_X12_lie v w) := kI_see (fun Z Ds a d nx m hV => ⟨_, fun s hs => kc_lie hV hs, fun s hs => kr_lie hv hV hs⟩)
theorem ku_rem40 : ∀ x, x < 80 → jl_rem ((x : Nat) : Int) 40 = ((x % 40 : Nat) : Int) := by decide +kernel
def kp_kept (a : Nat → Int) (v w : Int) : Int := if (0 ≤ v ∧ v < a 24) ∧ (0 ≤ w ∧ w ≤ 1) then (if w = 0 then a (25 + 2 * v.toNat) else a (26 + 2 * v.toNat)) else -1
theorem kI_kept {v w : Int} (hv : jl_n3 v) (hw : jl_n3 w) : kI_call (jf_X11_kept v w) (jf_X12_kept v w) := kI_see (fun Z Ds a d nx m hV => ⟨kp_kept a v w, fun s hs => by
  obtain ⟨H, G, ⟨hW, hK, hA⟩, ⟨hG1, f, hG2, hG3, hG4⟩, -, -, hM, hP⟩ := hs
  have hk := hV.1.2.2.2
  have k2 : (jl_kd 44).1 = 2 := by decide +kernel
  have e1 : ∀ t, jf_X11_kept_B15 t = some (-1, t) := fun _ => rfl
  rw [jf_X11_kept, hG1, e1, kp_kept]
  by_cases c0 : v < 0
  · rw [if_pos c0, if_neg (by omega)]; exact jE.ret trivial
  rw [if_neg c0]
  by_cases c : v < a 24
  · obtain ⟨k, rfl⟩ : ∃ k : Nat, v = (k : Int) := ⟨v.toNat, by omega⟩
    have er : jl_rem (jl_add (f : Int) (k : Int)) 40 = (((f + k) % 40 : Nat) : Int) := by
      rw [jp_add (by omega) (by omega), show (f : Int) + (k : Int) = ((f + k : Nat) : Int) from rfl, ku_rem40 _ (by omega)]
    have h40 : (f + k) % 40 < 40 := Nat.mod_lt _ (by decide)
    have g4 := hG4 k c
    rw [if_pos c, Int.toNat_natCast]
    by_cases w0 : w = 0
    · rw [if_pos w0, if_pos (show (0 ≤ (k : Int) ∧ (k : Int) < a 24) ∧ (0 ≤ w ∧ w ≤ 1) by omega), if_pos w0, jf_X2_hourOf, if_pos k2, hG3, er, if_pos (by omega), Int.toNat_natCast, g4.1, jp_bd]; exact jE.ret trivial
    rw [if_neg w0]
    by_cases w1 : w = 1
    · rw [if_pos w1, if_pos (show (0 ≤ (k : Int) ∧ (k : Int) < a 24) ∧ (0 ≤ w ∧ w ≤ 1) by omega), if_neg w0, jf_X2_lieOf, if_pos k2, hG3, er, if_pos (by omega), Int.toNat_natCast, g4.2, jp_bd]; exact jE.ret trivial
    rw [if_neg w1, if_neg (show ¬ ((0 ≤ (k : Int) ∧ (k : Int) < a 24) ∧ (0 ≤ w ∧ w ≤ 1)) by omega)]; exact jE.ret trivial
  · rw [if_neg c, if_neg (show ¬ ((0 ≤ v ∧ v < a 24) ∧ (0 ≤ w ∧ w ≤ 1)) from fun q => c q.1.2)]; exact jE.ret trivial, fun s hs => by
  obtain ⟨hN, hM, hH, -, -⟩ := hs
  have hA := hN.2.2.1
  have hk := hV.1.2.2.2
  have e : ∀ u t, jf_X12_kept_B46 u t = some (u, t) := fun _ _ => rfl
  have e1 : ∀ t, jf_X12_kept_B45 t = some (-1, t) := fun _ => rfl
  rw [jf_X12_kept, show ((24 : Int) : Int).toNat = 24 from rfl, hA 24 (by decide), jp_sub (by omega) (by omega), jx12_isIn s (jl_n36 hv) ⟨by decide, by decide⟩ ⟨by omega, by omega⟩, jp_bd, e1, jx12_isIn s (jl_n36 hw) ⟨by decide, by decide⟩ ⟨by decide, by decide⟩, jp_bd, e1, kp_kept]
  by_cases c : 0 ≤ v ∧ v ≤ a 24 - 1
  · obtain ⟨k, rfl⟩ : ∃ k : Nat, v = (k : Int) := ⟨v.toNat, by omega⟩
    rw [if_pos c, if_neg (by decide), Int.toNat_natCast]
    by_cases f : 0 ≤ w ∧ w ≤ 1
    · have a0 : jl_add 25 (jl_mul 2 (k : Int)) = ((25 + 2 * k : Nat) : Int) := by rw [jp_mul (by omega) (by omega), jp_add (by omega) (by omega)]; omega
      have a1 : jl_add ((25 + 2 * k : Nat) : Int) w = ((25 + 2 * k + w.toNat : Nat) : Int) := by rw [jp_add (by omega) (by omega)]; omega
      rw [if_pos f, if_neg (by decide), a0, a1, if_pos (by omega), Int.toNat_natCast, e, if_pos (show (0 ≤ (k : Int) ∧ (k : Int) < a 24) ∧ (0 ≤ w ∧ w ≤ 1) by omega), hA _ (by omega)]
      have hw3 : w = 0 ∨ w = 1 := by omega
      rcases hw3 with rfl | rfl
      · rw [if_pos rfl]; exact jE.ret hN
      · rw [if_neg (by decide), show 25 + 2 * k + (1 : Int).toNat = 26 + 2 * k by show 25 + 2 * k + 1 = _; omega]; exact jE.ret hN
    · rw [if_neg f, if_pos rfl, if_neg (show ¬ ((0 ≤ (k : Int) ∧ (k : Int) < a 24) ∧ (0 ≤ w ∧ w ≤ 1)) from fun q => f q.2)]; exact jE.ret hN
  · rw [if_neg c, if_pos rfl, if_neg (by omega)]; exact jE.ret hN⟩)
