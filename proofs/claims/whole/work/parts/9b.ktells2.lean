/-! PURE, the reference: tells -/
abbrev kt_B : Type := Int × Int × Int
def kt_b1 (r : Int) (h w : Nat) (x : kt_B) : kt_B := if x.1 = -1 ∨ r < x.2.2 then (((h : Nat) : Int), ((w : Nat) : Int), r) else x
def kt_bW (Z : jz_Z) (Ds : Nat → List Int) (a : Nat → Int) (d : kD) (m l h : Nat) (x : kt_B) : Nat → kt_B
  | 0 => x
  | w + 1 => kt_b1 (kt_mst Z Ds a d m l h (w : Int) 99) h w (kt_bW Z Ds a d m l h x w)
theorem kr_tellsW {Z : jz_Z} {Ds : Nat → List Int} {a : Nat → Int} {d : kD} {m l h : Nat} {v : Int} {x : kt_B} {R : Int → Int → Int → Int → Int → jl_Mm → jl_O} {s : jl_Mm} (hN : kr_N Z Ds a s) (hL : kt_L Z Ds a d m l 99 s) (hh : h ≤ 30) :
    ∃ τ, jf_X12_tells_L69 R jl_fu v x.1 x.2.1 x.2.2 (h : Int) 0 s = R v (kt_bW Z Ds a d m l h x (ks_nw Z)).1 (kt_bW Z Ds a d m l h x (ks_nw Z)).2.1 (kt_bW Z Ds a d m l h x (ks_nw Z)).2.2 ((h + 1 : Nat) : Int) τ ∧ jp_fr [(256, 0, 0)] s τ := by
  have h30 := hN.1.1.w
  have n1 : ∀ {c i : Nat}, c ≠ 256 → jp_in [(256, 0, 0)] c i = false := by intro c i h; simp [jp_in]; omega
  refine ku_for (α := jl_Mm) (G := fun g w τ => jf_X12_tells_L69 R g v (kt_bW Z Ds a d m l h x w).1 (kt_bW Z Ds a d m l h x w).2.1 (kt_bW Z Ds a d m l h x w).2.2 (h : Int) ((w : Nat) : Int) τ) (N := ks_nw Z) (P := fun o => ∃ τ, o = R v (kt_bW Z Ds a d m l h x (ks_nw Z)).1 (kt_bW Z Ds a d m l h x (ks_nw Z)).2.1 (kt_bW Z Ds a d m l h x (ks_nw Z)).2.2 ((h + 1 : Nat) : Int) τ ∧ jp_fr [(256, 0, 0)] s τ) (I := fun w τ => jp_fr [(256, 0, 0)] s τ) (fun g w τ hw hf => Or.inr ?_) (fun g τ hf => ?_) (ks_nw Z) 0 jl_fu s (Nat.zero_add _) (by show ks_nw Z < 4000; omega) jp_fr.rf
  · have W := hN.1.fr hf (fun c i _ _ => n1 (by omega))
    have L := hL.fr hf (fun i => ⟨n1 (by decide), n1 (by decide)⟩) (n1 (by decide))
    obtain ⟨υ, u1, u2, -⟩ := kr_alike (h := h) (w := w) W.1 L hh hw
    have em : jl_add (jl_mul 30 (h : Int)) (w : Int) = ((30 * h + w : Nat) : Int) := by rw [jp_mul (by omega) (by omega), jp_add (by omega) (by omega)]; omega
    have ea : jl_add (w : Int) 1 = ((w + 1 : Nat) : Int) := by rw [jp_add (by omega) (by omega)]; omega
    refine ⟨υ, ?_, hf.tr u2⟩
    show jf_X12_tells_L69 R (g + 1) v (kt_bW Z Ds a d m l h x w).1 (kt_bW Z Ds a d m l h x w).2.1 (kt_bW Z Ds a d m l h x w).2.2 (h : Int) (w : Int) τ = jf_X12_tells_L69 R g v (kt_b1 (kt_mst Z Ds a d m l h (w : Int) 99) h w (kt_bW Z Ds a d m l h x w)).1 (kt_b1 (kt_mst Z Ds a d m l h (w : Int) 99) h w (kt_bW Z Ds a d m l h x w)).2.1 (kt_b1 (kt_mst Z Ds a d m l h (w : Int) 99) h w (kt_bW Z Ds a d m l h x w)).2.2 (h : Int) ((w + 1 : Nat) : Int) υ
    generalize kt_bW Z Ds a d m l h x w = y
    rw [jf_X12_tells_L69, W.nw, jp_bd, if_neg (by omega), em, u1, jp_bd, jf_X12_tells_B107, jf_X12_tells_B118, jf_X12_tells_B118, ea]
    by_cases c : y.1 = -1
    · rw [if_pos c, kt_b1, if_pos (Or.inl c)]
    · rw [if_neg c]
      by_cases q : kt_mst Z Ds a d m l h (w : Int) 99 < y.2.2
      · rw [if_pos q, kt_b1, if_pos (Or.inr q)]
      · rw [if_neg q, kt_b1, if_neg (fun z => by rcases z with z | z; exact c z; exact q z)]
  · have W := hN.1.fr hf (fun c i _ _ => n1 (by omega))
    refine ⟨τ, ?_, hf⟩
    show jf_X12_tells_L69 R (g + 1) v _ _ _ (h : Int) ((ks_nw Z : Nat) : Int) τ = _
    rw [jf_X12_tells_L69, W.nw, jp_bd, if_pos (Int.le_refl _), jp_add (by omega) (by omega), ku_s]
def kt_T (a : Nat → Int) : Nat := (if 999 - a 0 < 30 then 999 - a 0 else 30).toNat
def kt_bH (Z : jz_Z) (Ds : Nat → List Int) (a : Nat → Int) (d : kD) (m l : Nat) : Nat → kt_B
  | 0 => (-1, -1, 0)
  | n + 1 => kt_bW Z Ds a d m l (n + 1) (kt_bH Z Ds a d m l n) (ks_nw Z)
def kt_an (v : Int) (x : kt_B) : Int := if x.1 = -1 then -1 else if v = 0 then x.1 else if v = 1 then x.2.1 else x.2.2
theorem kr_b130 {v : Int} {x : kt_B} {s : jl_Mm} : jf_X12_tells_B130 v x.1 x.2.1 x.2.2 s = some (kt_an v x, s) := by
  rw [jf_X12_tells_B130, kt_an]
  simp only [jf_X12_tells_B159]
  by_cases c : x.1 = -1
  · rw [if_pos c, if_pos c]
  rw [if_neg c, if_neg c]
  by_cases c0 : v = 0
  · rw [if_pos c0, if_pos c0]
  rw [if_neg c0, if_neg c0]
  by_cases c1 : v = 1
  · rw [if_pos c1, if_pos c1]
  rw [if_neg c1, if_neg c1]
theorem kr_tellsH {Z : jz_Z} {Ds : Nat → List Int} {a : Nat → Int} {d : kD} {m l : Nat} {v : Int} {s : jl_Mm} (hN : kr_N Z Ds a s) (hV : kz_N Z Ds a) (hw : 0 < ks_nw Z) (hL : kt_L Z Ds a d m l 99 s) :
    jE (jf_X12_tells_L47 jl_fu v (-1) (-1) 0 1 s) (if 0 < kt_cnt Z Ds a d m l 99 then kt_an v (kt_bH Z Ds a d m l (kt_T a)) else -1) [(256, 0, 0)] s (fun _ => True) := by
  have n1 : ∀ {c i : Nat}, c ≠ 256 → jp_in [(256, 0, 0)] c i = false := by intro c i h; simp [jp_in]; omega
  have h0 := hV.1.1
  have h9 := hV.2.2.1
  have hT : (kt_T a : Int) = (if 999 - a 0 < 30 then 999 - a 0 else 30) := by rw [kt_T]; split <;> omega
  by_cases c : 0 < kt_cnt Z Ds a d m l 99
  · rw [if_pos c]
    refine ku_for (α := jl_Mm) (G := fun g n τ => jf_X12_tells_L47 g v (kt_bH Z Ds a d m l n).1 (kt_bH Z Ds a d m l n).2.1 (kt_bH Z Ds a d m l n).2.2 ((n + 1 : Nat) : Int) τ) (N := kt_T a) (P := fun o => jE o (kt_an v (kt_bH Z Ds a d m l (kt_T a))) [(256, 0, 0)] s (fun _ => True)) (I := fun n τ => jp_fr [(256, 0, 0)] s τ) (fun g n τ hn hf => Or.inr ?_) (fun g τ hf => ?_) (kt_T a) 0 jl_fu s (Nat.zero_add _) (by show kt_T a < 4000; split at hT <;> omega) jp_fr.rf
    · have N := hN.fr hf (fun c i _ _ => n1 (by omega)) ⟨n1 (by decide), n1 (by decide)⟩
      have L := hL.fr hf (fun i => ⟨n1 (by decide), n1 (by decide)⟩) (n1 (by decide))
      have ec : (if 0 < ks_nw Z ∧ 1 ≤ ((n + 1 : Nat) : Int) ∧ ((n + 1 : Nat) : Int) ≤ 30 ∧ a 0 + ((n + 1 : Nat) : Int) ≤ 999 then (1 : Int) else 0) = 1 := if_pos ⟨hw, by split at hT <;> omega⟩
      have hn30 : n + 1 ≤ 30 := by split at hT <;> omega
      obtain ⟨υ, u1, u2⟩ := kr_tellsW (v := v) (h := n + 1) (x := kt_bH Z Ds a d m l n) (R := jf_X12_tells_L47 g) N L hn30
      refine ⟨υ, ?_, hf.tr u2⟩
      show jf_X12_tells_L47 (g + 1) v (kt_bH Z Ds a d m l n).1 (kt_bH Z Ds a d m l n).2.1 (kt_bH Z Ds a d m l n).2.2 ((n + 1 : Nat) : Int) τ = _
      rw [jf_X12_tells_L47, L.1, if_neg (by omega), kr_ahead N.2.2.2.2 N.2.2.1 ⟨h0.1, h9⟩ ⟨by omega, by omega⟩ (by decide) (by decide), jp_bd, ec, if_neg (by decide), u1]
      rfl
    · have N := hN.fr hf (fun c i _ _ => n1 (by omega)) ⟨n1 (by decide), n1 (by decide)⟩
      have L := hL.fr hf (fun i => ⟨n1 (by decide), n1 (by decide)⟩) (n1 (by decide))
      have ec : (if 0 < ks_nw Z ∧ 1 ≤ ((kt_T a + 1 : Nat) : Int) ∧ ((kt_T a + 1 : Nat) : Int) ≤ 30 ∧ a 0 + ((kt_T a + 1 : Nat) : Int) ≤ 999 then (1 : Int) else 0) = 0 := if_neg (by split at hT <;> omega)
      show jE (jf_X12_tells_L47 (g + 1) v (kt_bH Z Ds a d m l (kt_T a)).1 (kt_bH Z Ds a d m l (kt_T a)).2.1 (kt_bH Z Ds a d m l (kt_T a)).2.2 ((kt_T a + 1 : Nat) : Int) τ) _ _ _ _
      rw [jf_X12_tells_L47, L.1, if_neg (by omega), kr_ahead N.2.2.2.2 N.2.2.1 ⟨h0.1, h9⟩ ⟨by omega, by split at hT <;> omega⟩ (by decide) (by decide), jp_bd, ec, if_pos rfl, kr_b130]
      exact ⟨τ, rfl, hf, trivial⟩
  · have e : jf_X12_tells_B130 v (-1) (-1) 0 s = some (-1, s) := kr_b130 (x := (-1, -1, 0))
    rw [if_neg c, show jl_fu = 3999 + 1 from rfl, jf_X12_tells_L47, hL.1, if_pos (by omega), e]
    exact jE.ret trivial
def kp_tells (Z : jz_Z) (Ds : Nat → List Int) (a : Nat → Int) (d : kD) (v k : Int) : Int :=
  if ((0 ≤ v ∧ v < ((ks_nl Z : Nat) : Int)) ∧ 0 < a (8 + v.toNat)) ∧ (0 ≤ k ∧ k ≤ 2) then (if 0 < kt_cnt Z Ds a d (d 5 0).toNat v.toNat 99 then kt_an k (kt_bH Z Ds a d (d 5 0).toNat v.toNat (kt_T a)) else -1) else -1
theorem kr_tells {Z : jz_Z} {Ds : Nat → List Int} {a : Nat → Int} {d : kD} {nx n : Nat} {v k : Int} {s : jl_Mm} (hv : jl_n3 v) (hk : jl_n3 k) (hV : kIv Z Ds a d nx n) (hs : kIr Z Ds a d nx n s) : jE (jf_X12_tells v k s) (kp_tells Z Ds a d v k) kr_FV s (kr_N Z Ds a) := by
  have hN := hs.1
  have h8 := hN.1.1.l
  have z : ∀ t, jf_X12_tells_B29 t = some (-1, t) := fun _ => rfl
  rw [jf_X12_tells, hN.1.isL hv, jp_bd, z]
  by_cases c1 : 0 ≤ v ∧ v < ((ks_nl Z : Nat) : Int)
  · obtain ⟨l, rfl⟩ : ∃ l : Nat, v = (l : Int) := ⟨v.toNat, by omega⟩
    have hw := kz_nw hN.1.1 hV.1.1 (l := l) (by omega)
    rw [if_pos c1, if_neg (by decide), kp_tells, Int.toNat_natCast]
    by_cases c2 : 0 < a (8 + l)
    · rw [kr_lit1 hN.2.2.1 (by omega) c2, jp_bd, if_neg (by decide)]
      by_cases c3 : 0 ≤ k ∧ k ≤ 2
      · obtain ⟨τ, t1, t2, t3, t4⟩ := kr_lays (l := l) hN hV.1 hV.r.1 (by omega) (hs.R hV)
        obtain ⟨υ, u1, u2, -⟩ := kr_tellsH (v := k) t3 hV.1 hw t4
        have t2' : jp_fr kr_FV s τ := t2.w (by decide)
        rw [kr_in1 s hk ⟨by decide, by decide⟩ ⟨by decide, by decide⟩ c3, jp_bd, if_neg (by decide), t1, jp_bd, u1, if_pos (show ((0 ≤ (l : Int) ∧ (l : Int) < ((ks_nl Z : Nat) : Int)) ∧ 0 < a (8 + l)) ∧ (0 ≤ k ∧ k ≤ 2) from ⟨⟨c1, c2⟩, c3⟩)]
        exact ⟨υ, rfl, t2'.tr (u2.w (by decide)), t3.fr u2 (fun c i _ _ => by simp [jp_in]; omega) ⟨by decide, by decide⟩⟩
      · rw [kr_in0 s hk ⟨by decide, by decide⟩ ⟨by decide, by decide⟩ c3, jp_bd, if_pos rfl, z, if_neg (fun q => c3 q.2)]; exact jE.ret hN
    · rw [kr_lit0 hN.2.2.1 (by omega) c2, jp_bd, if_pos rfl, z, if_neg (fun q => c2 q.1.2)]; exact jE.ret hN
  · rw [if_neg c1, if_pos rfl, kp_tells, if_neg (fun q => c1 q.1.1)]; exact jE.ret hN
