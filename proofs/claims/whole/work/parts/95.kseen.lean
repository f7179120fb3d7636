/-! PURE, the class: whether a length fits what was seen -/
def ku_all (p : Nat → Bool) : Nat → Bool
  | 0 => true
  | n + 1 => ku_all p n && p n
theorem ku_all_T {p : Nat → Bool} : ∀ n, ku_all p n = true ↔ ∀ k, k < n → p k = true
  | 0 => ⟨fun _ k hk => by omega, fun _ => rfl⟩
  | n + 1 => by
    rw [ku_all, Bool.and_eq_true, ku_all_T n]
    refine ⟨fun h k hk => ?_, fun h => ⟨fun k hk => h k (by omega), h n (by omega)⟩⟩
    by_cases c : k = n
    · subst c; exact h.2
    · exact h.1 k (by omega)
theorem ku_all_F {p : Nat → Bool} {n k : Nat} (hk : k < n) (h : ¬ p k = true) : ¬ ku_all p n = true := fun q => h ((ku_all_T n).mp q k hk)
/-- row k of what was seen, at hour n, when the places are b -/
def kt_row (Z : jz_Z) (b : Nat → Int) (d : kD) (n k : Nat) : Bool := !(decide (d 4 (3 * k) = ((n : Nat) : Int))) || (decide (b 0 ≤ 999) && decide (ks_in Z b (d 4 (3 * k + 1)) = d 4 (3 * k + 2)))
def kt_hr (Z : jz_Z) (Ds : Nat → List Int) (b : Nat → Int) (d : kD) (m n : Nat) : Bool := ku_all (kt_row Z (ks_hrs Z Ds b n) d n) m
def kt_S (d : kD) (m : Nat) (s : jl_Mm) : Prop := jl_g s 200 4 = (m : Int) ∧ ∀ i, i < 3 * m → jl_g s 201 i = d 4 i
theorem kc_soR {H l n m : Nat} {Z : jz_Z} {b : Nat → Int} {d : kD} {R2 : Int → Int → jl_Mm → jl_O} {s : jl_Mm} (hW : kc_W H Z s) (hB : kc_A (ks_np Z) 196 b s) (hS : kt_S d m s) (hm : m ≤ 16) (h9 : b 0 ≤ 999) (hn : n ≤ 100) :
    (ku_all (kt_row Z b d n) m = true → jf_X6_isAllSo_L25 R2 jl_fu (l : Int) (n : Int) 0 s = R2 (l : Int) ((n + 1 : Nat) : Int) s) ∧ (¬ ku_all (kt_row Z b d n) m = true → jf_X6_isAllSo_L25 R2 jl_fu (l : Int) (n : Int) 0 s = some (0, s)) := by
  have em : jl_mul (m : Int) 3 = ((3 * m : Nat) : Int) := by rw [jp_mul (by omega) (by omega)]; omega
  have en : jl_add (n : Int) 1 = ((n + 1 : Nat) : Int) := by rw [jp_add (by omega) (by omega)]; omega
  have step : ∀ f k, k < m → jf_X6_isAllSo_L25 R2 (f + 1) (l : Int) (n : Int) ((3 * k : Nat) : Int) s = if kt_row Z b d n k = true then jf_X6_isAllSo_L25 R2 f (l : Int) (n : Int) ((3 * (k + 1) : Nat) : Int) s else some (0, s) := by
    intro f k hk
    have e1 : jl_add ((3 * k : Nat) : Int) 1 = ((3 * k + 1 : Nat) : Int) := by rw [jp_add (by omega) (by omega)]; omega
    have e2 : jl_add ((3 * k : Nat) : Int) 2 = ((3 * k + 2 : Nat) : Int) := by rw [jp_add (by omega) (by omega)]; omega
    have e3 : jl_add ((3 * k : Nat) : Int) 3 = ((3 * (k + 1) : Nat) : Int) := by rw [jp_add (by omega) (by omega)]; omega
    rw [jf_X6_isAllSo_L25, hS.1, em, if_neg (by omega), if_pos (by omega), Int.toNat_natCast, hS.2 _ (by omega), kt_row]
    by_cases c : d 4 (3 * k) = ((n : Nat) : Int)
    · rw [if_pos c, decide_eq_true c, decide_eq_true h9, e1, if_pos (by omega), Int.toNat_natCast, hS.2 _ (by omega), kc_in (Or.inr rfl) hW hB, jp_bd, e2, if_pos (by omega), Int.toNat_natCast, hS.2 _ (by omega)]
      by_cases q : ks_in Z b (d 4 (3 * k + 1)) = d 4 (3 * k + 2)
      · rw [if_pos q, decide_eq_true q, jf_X6_isAllSo_B77, e3]; rfl
      · rw [if_neg q, decide_eq_false q, jp_zb0, if_neg (by decide)]
    · rw [if_neg c, decide_eq_false c, jf_X6_isAllSo_B77, e3]; rfl
  have last : ∀ f, jf_X6_isAllSo_L25 R2 (f + 1) (l : Int) (n : Int) ((3 * m : Nat) : Int) s = R2 (l : Int) ((n + 1 : Nat) : Int) s := by
    intro f
    rw [jf_X6_isAllSo_L25, hS.1, em, if_pos (Int.le_refl _), en]
  refine ⟨fun h => ?_, fun h => ?_⟩
  · have h' := (ku_all_T m).mp h
    refine ku_forU (G := fun f k => jf_X6_isAllSo_L25 R2 f (l : Int) (n : Int) ((3 * k : Nat) : Int) s) (N := m) (fun f k hk => ?_) (fun f => last f) m 0 jl_fu (Nat.zero_add _) (by show m < 4000; omega)
    show jf_X6_isAllSo_L25 R2 (f + 1) (l : Int) (n : Int) ((3 * k : Nat) : Int) s = _
    rw [step f k hk, if_pos (h' k hk)]
  · refine ku_for (α := Unit) (G := fun f k _ => jf_X6_isAllSo_L25 R2 f (l : Int) (n : Int) ((3 * k : Nat) : Int) s) (N := m) (P := fun o => o = some (0, s)) (I := fun k _ => ∀ j, j < k → kt_row Z b d n j = true) (fun f k u hk hI => ?_) (fun f u hI => absurd ((ku_all_T m).mpr hI) h) m 0 jl_fu () (Nat.zero_add _) (by show m < 4000; omega) (by intro j hj; omega)
    show jf_X6_isAllSo_L25 R2 (f + 1) (l : Int) (n : Int) ((3 * k : Nat) : Int) s = some (0, s) ∨ ∃ _ : Unit, jf_X6_isAllSo_L25 R2 (f + 1) (l : Int) (n : Int) ((3 * k : Nat) : Int) s = jf_X6_isAllSo_L25 R2 f (l : Int) (n : Int) ((3 * (k + 1) : Nat) : Int) s ∧ ∀ j, j < k + 1 → kt_row Z b d n j = true
    rw [step f k hk]
    by_cases c : kt_row Z b d n k = true
    · right
      refine ⟨(), if_pos c, fun j hj => ?_⟩
      by_cases e : j = k
      · subst e; exact c
      · exact hI j (by omega)
    · left; exact if_neg c
theorem kc_so {H w m : Nat} {Z : jz_Z} {Ds : Nat → List Int} {b : Nat → Int} {d : kD} {s : jl_Mm} (hW : kc_W H Z s) (hK : kc_K H Z Ds s) (hT : kz_K Z Ds) (hV : ks_V Z b) (hB : kc_A (ks_np Z) 196 b s) (hS : kt_S d m s) (hm : m ≤ 16) (hw : w ≤ 30) (h9 : b 0 + (w : Int) ≤ 999) :
    jE (jf_X6_isAllSo (w : Int) s) (if ku_all (kt_hr Z Ds b d m) (w + 1) = true then 1 else 0) kc_FA s (fun _ => True) := by
  have Sfr : ∀ {τ}, jp_fr kc_FA s τ → kt_S d m τ := fun f => ⟨(f.g _ _ (kc_FAn (by omega))).trans hS.1, fun i hi => (f.g _ _ (kc_FAn (by omega))).trans (hS.2 i hi)⟩
  have hh := fun n : Nat => ks_hrs_V (Ds := Ds) hW.1 hV n
  refine ku_for (α := jl_Mm) (G := fun f n τ => jf_X6_isAllSo_L2 f (w : Int) ((n : Nat) : Int) τ) (N := w + 1) (P := fun o => jE o (if ku_all (kt_hr Z Ds b d m) (w + 1) = true then 1 else 0) kc_FA s (fun _ => True)) (I := fun n τ => jp_fr kc_FA s τ ∧ kc_A (ks_np Z) 196 (ks_hrs Z Ds b (n - 1)) τ ∧ ku_all (kt_hr Z Ds b d m) n = true) (fun f n τ hn hI => ?_) (fun f τ hI => ?_) (w + 1) 0 jl_fu s (Nat.zero_add _) (by show w + 1 < 4000; omega) ⟨jp_fr.rf, hB, rfl⟩
  · obtain ⟨hf, hA, hI⟩ := hI
    have W := hW.frA hf
    have K := hK.frA hW.2.1 hf
    have key : ∀ υ, jp_fr kc_FA s υ → kc_A (ks_np Z) 196 (ks_hrs Z Ds b n) υ → jE (jf_X6_isAllSo_B23 (jf_X6_isAllSo_L2 f) (w : Int) (n : Int) υ) (if ku_all (kt_hr Z Ds b d m) (w + 1) = true then 1 else 0) kc_FA s (fun _ => True) ∨ ∃ x, jf_X6_isAllSo_B23 (jf_X6_isAllSo_L2 f) (w : Int) (n : Int) υ = jf_X6_isAllSo_L2 f (w : Int) ((n + 1 : Nat) : Int) x ∧ jp_fr kc_FA s x ∧ kc_A (ks_np Z) 196 (ks_hrs Z Ds b (n + 1 - 1)) x ∧ ku_all (kt_hr Z Ds b d m) (n + 1) = true := by
      intro υ fu Au
      obtain ⟨r1, r2⟩ := kc_soR (R2 := jf_X6_isAllSo_L2 f) (l := w) (n := n) (hW.frA fu) Au (Sfr fu) hm (by have := (hh n (by omega)).2.1; omega) (by omega)
      rw [jf_X6_isAllSo_B23]
      by_cases c : kt_hr Z Ds b d m n = true
      · right
        refine ⟨υ, r1 c, fu, Au, ?_⟩
        rw [ku_all, hI, c]; rfl
      · left
        rw [r2 c, if_neg (ku_all_F (by omega) c)]
        exact ⟨υ, rfl, fu, trivial⟩
    show jE (jf_X6_isAllSo_L2 (f + 1) (w : Int) (n : Int) τ) _ _ _ _ ∨ ∃ x, jf_X6_isAllSo_L2 (f + 1) (w : Int) (n : Int) τ = _ ∧ _
    rw [jf_X6_isAllSo_L2, if_neg (by omega)]
    by_cases c : n = 0
    · subst c
      rw [if_pos (by omega)]
      exact key τ hf hA
    · obtain ⟨n', rfl⟩ : ∃ n', n = n' + 1 := ⟨n - 1, by omega⟩
      have hv := hh n' (by omega)
      obtain ⟨υ, u1, u2, u3⟩ := kc_passA W K hT hv.1 hA (by have := hv.2.1; show ks_hrs Z Ds b n' 0 < 999; omega)
      rw [if_neg (by omega), u1, jp_bd]
      exact key υ (hf.tr u2) u3
  · show jE (jf_X6_isAllSo_L2 (f + 1) (w : Int) ((w + 1 : Nat) : Int) τ) _ _ _ _
    rw [jf_X6_isAllSo_L2, if_pos (by omega), jp_zb1, if_pos hI.2.2]
    exact ⟨τ, rfl, hI.1, trivial⟩
/-- the last hour seen -/
def kt_last (d : kD) : Nat → Int
  | 0 => 0
  | k + 1 => if kt_last d k < d 4 (3 * k) then d 4 (3 * k) else kt_last d k
theorem kt_last_b {d : kD} : ∀ m, (∀ k, k < m → 0 ≤ d 4 (3 * k) ∧ d 4 (3 * k) ≤ 30) → 0 ≤ kt_last d m ∧ kt_last d m ≤ 30 ∧ ∀ k, k < m → d 4 (3 * k) ≤ kt_last d m
  | 0, _ => by rw [kt_last]; exact ⟨by decide, by decide, fun k hk => by omega⟩
  | m + 1, h => by
    obtain ⟨x, y, z⟩ := kt_last_b m (fun k hk => h k (by omega))
    have hm := h m (by omega)
    rw [kt_last]
    split
    · refine ⟨hm.1, hm.2, fun k hk => ?_⟩
      by_cases c : k = m
      · subst c; exact Int.le_refl _
      · have := z k (by omega); omega
    · refine ⟨x, y, fun k hk => ?_⟩
      by_cases c : k = m
      · subst c; omega
      · exact z k (by omega)
theorem kc_lastSeen {d : kD} {m : Nat} {s : jl_Mm} (hS : kt_S d m s) (hm : m ≤ 16) : jf_X6_lastSeen s = some (kt_last d m, s) := by
  rw [jf_X6_lastSeen]
  refine ku_forU (G := fun f k => jf_X6_lastSeen_L4 f (kt_last d k) ((k : Nat) : Int) s) (N := m) (fun f k hk => ?_) (fun f => ?_) m 0 jl_fu (Nat.zero_add _) (by show m < 4000; omega)
  · have em : jl_mul (k : Int) 3 = ((3 * k : Nat) : Int) := by rw [jp_mul (by omega) (by omega)]; omega
    show jf_X6_lastSeen_L4 (f + 1) (kt_last d k) (k : Int) s = jf_X6_lastSeen_L4 f (kt_last d (k + 1)) ((k + 1 : Nat) : Int) s
    rw [jf_X6_lastSeen_L4, hS.1, if_neg (by omega), em, if_pos (by omega), Int.toNat_natCast, hS.2 _ (by omega), ku_max, jp_bd, jp_add (by omega) (by omega), ku_s, kt_last]
  · show jf_X6_lastSeen_L4 (f + 1) (kt_last d m) (m : Int) s = _
    rw [jf_X6_lastSeen_L4, hS.1, if_pos (Int.le_refl _)]
