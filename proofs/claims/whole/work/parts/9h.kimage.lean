/-! PURE, both: image -/
theorem ku_256 : ∀ x, x < 1000 → jl_shr ((x : Nat) : Int) 8 = ((x / 256 : Nat) : Int) ∧ jl_and ((x : Nat) : Int) 255 = ((x % 256 : Nat) : Int) := by decide +kernel
theorem ku_256i {v : Int} (h : 0 ≤ v ∧ v ≤ 999) : (jl_shr v 8 = v / 256 ∧ jl_and v 255 = v % 256) ∧ jl_div v 256 = v / 256 ∧ jl_rem v 256 = v % 256 := by
  refine ⟨?_, ku_divG ⟨h.1, by omega⟩ ⟨by decide, by decide⟩⟩
  obtain ⟨x, rfl⟩ : ∃ x : Nat, v = (x : Int) := ⟨v.toNat, by omega⟩
  obtain ⟨e1, e2⟩ := ku_256 x (by omega)
  exact ⟨by rw [e1]; omega, by rw [e2]; omega⟩
def kt_pn (Z : jz_Z) : Nat := 4 + ks_np Z + 2 * ks_nl Z
def kt_pb (Z : jz_Z) (a : Nat → Int) (i : Nat) : Int :=
  if i < 2 then (if i = 0 then a 0 / 256 else a 0 % 256) else if i < 4 then (if i = 2 then a 1 / 256 else a 1 % 256) else
  if i < 4 + ks_np Z then a (2 + (i - 4)) else if (i - (4 + ks_np Z)) % 2 = 0 then a (8 + (i - (4 + ks_np Z)) / 2) else a (16 + (i - (4 + ks_np Z)) / 2)
theorem kt_pb_p {Z : jz_Z} {a : Nat → Int} {p : Nat} (h : p < ks_np Z) : kt_pb Z a (4 + p) = a (2 + p) := by
  rw [kt_pb, if_neg (by omega), if_neg (by omega), if_pos (by omega), show 4 + p - 4 = p by omega]
theorem kt_pb_l {Z : jz_Z} {a : Nat → Int} {l : Nat} : kt_pb Z a (4 + ks_np Z + 2 * l) = a (8 + l) ∧ kt_pb Z a (4 + ks_np Z + (2 * l + 1)) = a (16 + l) := by
  constructor
  · rw [kt_pb, if_neg (by omega), if_neg (by omega), if_neg (by omega), if_pos (by omega), show (4 + ks_np Z + 2 * l - (4 + ks_np Z)) / 2 = l by omega]
  · rw [kt_pb, if_neg (by omega), if_neg (by omega), if_neg (by omega), if_neg (by omega), show (4 + ks_np Z + (2 * l + 1) - (4 + ks_np Z)) / 2 = l by omega]
theorem kt_pb_b {Z : jz_Z} {Ds : Nat → List Int} {a : Nat → Int} (hZ : kz_V Z) (hV : kz_N Z Ds a) {i : Nat} (hi : i < kt_pn Z) : 0 ≤ kt_pb Z a i ∧ kt_pb Z a i ≤ 255 := by
  have h9 := hV.2.2.1
  have nw := hZ.w
  have nl := hZ.l
  obtain ⟨⟨v0, v1, v2, v3⟩, -⟩ := hV
  rw [kt_pn] at hi
  rw [kt_pb]
  split
  · split <;> omega
  · split
    · split <;> omega
    · split
      · have := v2 (i - 4) (by omega); omega
      · have := v3 ((i - (4 + ks_np Z)) / 2) (by omega)
        split <;> omega
def kt_ck (b : Nat → Int) : Nat → Int
  | 0 => 167
  | n + 1 => (3 * kt_ck b n + b n) % 251
theorem kt_ck_b {b : Nat → Int} : ∀ n, 0 ≤ kt_ck b n ∧ kt_ck b n ≤ 250
  | 0 => by rw [kt_ck]; exact ⟨by decide, by decide⟩
  | n + 1 => by rw [kt_ck]; omega
theorem kt_ck_cg {b c : Nat → Int} : ∀ n, (∀ i, i < n → b i = c i) → kt_ck b n = kt_ck c n
  | 0, _ => rfl
  | n + 1, h => by rw [kt_ck, kt_ck, kt_ck_cg n (fun i hi => h i (by omega)), h n (by omega)]
theorem ku_ck {c b : Int} (hc : 0 ≤ c ∧ c ≤ 250) (hb : 0 ≤ b ∧ b ≤ 255) : jl_rem (jl_add (jl_mul 3 c) b) 251 = (3 * c + b) % 251 := by
  rw [jp_mul (by omega) (by omega), jp_add (by omega) (by omega), (ku_divG ⟨by omega, by omega⟩ ⟨by decide, by decide⟩).2]
/-- the bytes as they are written, of the class, of the reference -/
def kt_PI (b : Nat → Int) (q : Nat) (n : Nat) (s : jl_Mm) : Prop := ∀ i, i < n → jl_g s q i = b i
theorem kt_PI.up {b : Nat → Int} {q n : Nat} {s : jl_Mm} {v : Int} (h : kt_PI b q n s) (e : v = b n) (hv : 0 ≤ v ∧ v ≤ 255) : kt_PI b q (n + 1) (jl_up s q n v) := by
  intro i hi
  by_cases c : i = n
  · subst c; rw [jp_g_eq (by omega) (by omega), e]
  · rw [jp_g_nei c]; exact h i (by omega)
theorem kc_put2 {b : Nat → Int} {i : Nat} {v : Int} {s : jl_Mm} (hi : i ≤ 20) (hv : 0 ≤ v ∧ v ≤ 999) (h : kt_PI b 204 i s) (e0 : v / 256 = b i) (e1 : v % 256 = b (i + 1)) : ∃ τ, jf_X11_putPair (i : Int) v s = some (0, τ) ∧ jp_fr [(204, 0, 0)] s τ ∧ kt_PI b 204 (i + 2) τ := by
  obtain ⟨⟨x1, x2⟩, -⟩ := ku_256i hv
  have ea : jl_add (i : Int) 1 = ((i + 1 : Nat) : Int) := by rw [jp_add (by omega) (by omega)]; omega
  refine ⟨_, ?_, (jp_fr.rf.up ?_).up ?_, (h.up e0 (by omega)).up e1 (by omega)⟩
  · rw [jf_X11_putPair, if_pos (by omega), x1, jp_lm, ea, if_pos (by omega), x2, jp_lm, Int.toNat_natCast, Int.toNat_natCast]
  · simp [jp_in]
  · simp [jp_in]
theorem kc_image {H : Nat} {Z : jz_Z} {Ds : Nat → List Int} {a : Nat → Int} {s : jl_Mm} (hN : kc_N H Z Ds a s) (hV : kz_N Z Ds a) :
    jE (jf_X11_image s) ((kt_pn Z + 1 : Nat) : Int) [(204, 0, 0), (0, 13, 14)] s (fun τ => jl_g τ 0 13 = ((kt_pn Z + 1 : Nat) : Int) ∧ kt_PI (kt_pb Z a) 204 (kt_pn Z) τ ∧ jl_g τ 204 (kt_pn Z) = kt_ck (kt_pb Z a) (kt_pn Z)) := by
  have h6 := hN.1.1.p
  have h8 := hN.1.1.l
  have h9 := hV.2.2.1
  have hb := fun i (hi : i < kt_pn Z) => kt_pb_b hN.1.1 hV hi
  have ep : kt_pn Z = 4 + ks_np Z + 2 * ks_nl Z := rfl
  have n1 : ∀ {c i : Nat}, c ≠ 204 → jp_in [(204, 0, 0)] c i = false := by intro c i h; simp [jp_in]; omega
  have WA : ∀ {τ}, jp_fr [(204, 0, 0)] s τ → kc_W H Z τ ∧ kc_A (ks_np Z) 40 a τ := fun f => ⟨hN.1.fr f (n1 (by omega)) (n1 (by omega)) (fun c i _ _ => n1 (by omega)), hN.2.2.fr f (n1 (by omega)) (n1 (by omega)) (fun c i _ _ => n1 (by omega))⟩
  obtain ⟨s1, t1, f1, p1⟩ := kc_put2 (b := kt_pb Z a) (i := 0) (v := a 0) (s := s) (by decide) (by have := hV.1.1; omega) (fun i hi => by omega) rfl rfl
  obtain ⟨s2, t2, f2, p2⟩ := kc_put2 (b := kt_pb Z a) (i := 2) (v := a 1) (s := s1) (by decide) (by have := hV.1.2.1; omega) p1 rfl rfl
  have t1' : jf_X11_putPair 0 (a 0) s = some (0, s1) := t1
  have t2' : jf_X11_putPair 2 (a 1) s1 = some (0, s2) := t2
  have F2 := f1.tr f2
  rw [jf_X11_image, hN.2.2.1, t1', jp_bd, (WA f1).2.2.1, t2', jp_bd]
  refine ku_for (α := jl_Mm) (G := fun g p τ => jf_X11_image_L28 g ((4 + p : Nat) : Int) ((p : Nat) : Int) τ) (N := ks_np Z) (P := fun o => jE o ((kt_pn Z + 1 : Nat) : Int) [(204, 0, 0), (0, 13, 14)] s (fun τ => jl_g τ 0 13 = ((kt_pn Z + 1 : Nat) : Int) ∧ kt_PI (kt_pb Z a) 204 (kt_pn Z) τ ∧ jl_g τ 204 (kt_pn Z) = kt_ck (kt_pb Z a) (kt_pn Z))) (I := fun p τ => jp_fr [(204, 0, 0)] s τ ∧ kt_PI (kt_pb Z a) 204 (4 + p) τ) (fun g p τ hp hI => Or.inr ?_) (fun g τ hI => ?_) (ks_np Z) 0 jl_fu s2 (Nat.zero_add _) (by show ks_np Z < 4000; omega) ⟨F2, p2⟩
  · obtain ⟨hf, hI⟩ := hI
    obtain ⟨W, A⟩ := WA hf
    have ea : jl_add ((4 + p : Nat) : Int) 1 = ((4 + (p + 1) : Nat) : Int) := by rw [jp_add (by omega) (by omega)]; omega
    have eb : jl_add (p : Int) 1 = ((p + 1 : Nat) : Int) := by rw [jp_add (by omega) (by omega)]; omega
    have ev : a (2 + p) = kt_pb Z a (4 + p) := (kt_pb_p hp).symm
    have b := hb (4 + p) (by omega)
    refine ⟨jl_up τ 204 (4 + p) (a (2 + p)), ?_, hf.up (by simp [jp_in]), hI.up ev (by omega)⟩
    show jf_X11_image_L28 (g + 1) ((4 + p : Nat) : Int) (p : Int) τ = jf_X11_image_L28 g ((4 + (p + 1) : Nat) : Int) ((p + 1 : Nat) : Int) _
    rw [jf_X11_image_L28, W.g0, W.gr0, W.n2, if_neg (by omega), if_pos (by omega), if_pos (by omega), jp_lm, Int.toNat_natCast, Int.toNat_natCast, A.2.2.1 p (by omega), ea, eb]
  · obtain ⟨hf, hI⟩ := hI
    obtain ⟨W, A⟩ := WA hf
    show jE (jf_X11_image_L28 (g + 1) ((4 + ks_np Z : Nat) : Int) ((ks_np Z : Nat) : Int) τ) _ _ _ _
    rw [jf_X11_image_L28, W.g0, W.gr0, W.n2, if_pos (Int.le_refl _)]
    refine ku_for (α := jl_Mm) (G := fun g l τ => jf_X11_image_L65 g ((4 + ks_np Z + 2 * l : Nat) : Int) ((l : Nat) : Int) τ) (N := ks_nl Z) (P := fun o => jE o ((kt_pn Z + 1 : Nat) : Int) [(204, 0, 0), (0, 13, 14)] s (fun τ => jl_g τ 0 13 = ((kt_pn Z + 1 : Nat) : Int) ∧ kt_PI (kt_pb Z a) 204 (kt_pn Z) τ ∧ jl_g τ 204 (kt_pn Z) = kt_ck (kt_pb Z a) (kt_pn Z))) (I := fun l τ => jp_fr [(204, 0, 0)] s τ ∧ kt_PI (kt_pb Z a) 204 (4 + ks_np Z + 2 * l) τ) (fun g l τ hl hI => Or.inr ?_) (fun g τ hI => ?_) (ks_nl Z) 0 jl_fu τ (Nat.zero_add _) (by show ks_nl Z < 4000; omega) ⟨hf, hI⟩
    · obtain ⟨hf, hI⟩ := hI
      obtain ⟨W, A⟩ := WA hf
      have ea : jl_add ((4 + ks_np Z + 2 * l : Nat) : Int) 1 = ((4 + ks_np Z + (2 * l + 1) : Nat) : Int) := by rw [jp_add (by omega) (by omega)]; omega
      have ea2 : jl_add ((4 + ks_np Z + (2 * l + 1) : Nat) : Int) 1 = ((4 + ks_np Z + 2 * (l + 1) : Nat) : Int) := by rw [jp_add (by omega) (by omega)]; omega
      have eb : jl_add (l : Int) 1 = ((l + 1 : Nat) : Int) := by rw [jp_add (by omega) (by omega)]; omega
      have e1 : a (8 + l) = kt_pb Z a (4 + ks_np Z + 2 * l) := kt_pb_l.1.symm
      have e2 : a (16 + l) = kt_pb Z a (4 + ks_np Z + 2 * l + 1) := kt_pb_l.2.symm
      have b1 := hb (4 + ks_np Z + 2 * l) (by omega)
      have b2 := hb (4 + ks_np Z + 2 * l + 1) (by omega)
      have g43 : jl_g (jl_up τ 204 (4 + ks_np Z + 2 * l) (a (8 + l))) 43 l = a (16 + l) := by rw [jp_g_ne (by decide)]; exact A.2.2.2.2 l (by omega)
      refine ⟨jl_up (jl_up τ 204 (4 + ks_np Z + 2 * l) (a (8 + l))) 204 (4 + ks_np Z + 2 * l + 1) (a (16 + l)), ?_, (hf.up (by simp [jp_in])).up (by simp [jp_in]), (hI.up e1 (by omega)).up e2 (by omega)⟩
      show jf_X11_image_L65 (g + 1) ((4 + ks_np Z + 2 * l : Nat) : Int) (l : Int) τ = jf_X11_image_L65 g ((4 + ks_np Z + 2 * (l + 1) : Nat) : Int) ((l + 1 : Nat) : Int) _
      rw [jf_X11_image_L65, W.g0, W.gr0, W.n3, if_neg (by omega), if_pos (by omega), if_pos (by omega), Int.toNat_natCast, Int.toNat_natCast, show jl_g τ 42 l = a (8 + l) from A.2.2.2.1 l (by omega), jp_lm, if_pos (by omega), ea, if_pos (by omega), Int.toNat_natCast, g43, jp_lm, ea2, eb]
      rfl
    · obtain ⟨hf, hI⟩ := hI
      obtain ⟨W, A⟩ := WA hf
      show jE (jf_X11_image_L65 (g + 1) ((kt_pn Z : Nat) : Int) ((ks_nl Z : Nat) : Int) τ) _ _ _ _
      rw [jf_X11_image_L65, W.g0, W.gr0, W.n3, if_pos (Int.le_refl _)]
      have hI' : kt_PI (kt_pb Z a) 204 (kt_pn Z) τ := hI
      have hc : jf_X11_image_L124 jl_fu ((kt_pn Z : Nat) : Int) 167 0 τ = some (((kt_pn Z + 1 : Nat) : Int), jl_up (jl_up τ 204 (kt_pn Z) (kt_ck (kt_pb Z a) (kt_pn Z))) 0 13 ((kt_pn Z + 1 : Nat) : Int)) := by
        refine ku_forU (G := fun g i => jf_X11_image_L124 g ((kt_pn Z : Nat) : Int) (kt_ck (kt_pb Z a) i) ((i : Nat) : Int) τ) (N := kt_pn Z) (fun g i hi => ?_) (fun g => ?_) (kt_pn Z) 0 jl_fu (Nat.zero_add _) (by show kt_pn Z < 4000; omega)
        · have eb : jl_add (i : Int) 1 = ((i + 1 : Nat) : Int) := by rw [jp_add (by omega) (by omega)]; omega
          show jf_X11_image_L124 (g + 1) ((kt_pn Z : Nat) : Int) (kt_ck (kt_pb Z a) i) (i : Int) τ = jf_X11_image_L124 g ((kt_pn Z : Nat) : Int) (kt_ck (kt_pb Z a) (i + 1)) ((i + 1 : Nat) : Int) τ
          rw [jf_X11_image_L124, if_neg (by omega), if_pos (by omega), Int.toNat_natCast, hI' i hi, ku_ck (kt_ck_b i) (hb i hi), jp_let, eb, kt_ck]
        · have eb : jl_add ((kt_pn Z : Nat) : Int) 1 = ((kt_pn Z + 1 : Nat) : Int) := by rw [jp_add (by omega) (by omega)]; omega
          show jf_X11_image_L124 (g + 1) ((kt_pn Z : Nat) : Int) (kt_ck (kt_pb Z a) (kt_pn Z)) ((kt_pn Z : Nat) : Int) τ = _
          rw [jf_X11_image_L124, if_pos (Int.le_refl _), if_pos (by omega), jp_lm, eb, jp_lm, Int.toNat_natCast]
      have cb := kt_ck_b (b := kt_pb Z a) (kt_pn Z)
      rw [hc]
      refine ⟨_, rfl, ((hf.w (by decide)).up (by simp [jp_in])).up (by decide), jp_g_eq (by omega) (by omega), fun i hi => ?_, ?_⟩
      · rw [jp_g_ne (by decide), jp_g_nei (by omega)]; exact hI' i hi
      · rw [jp_g_ne (by decide), jp_g_eq (by omega) (by omega)]
theorem kr_checked {b : Nat → Int} {q n : Nat} {s : jl_Mm} (hq : (jl_kd q).1 = 20) (hn : n ≤ (jl_kd q).2) (hn2 : n ≤ 1600) (h : kt_PI b q n s) (hb : ∀ i, i < n → 0 ≤ b i ∧ b i ≤ 255) : jf_X12_checked q (n : Int) s = some (kt_ck b n, s) := by
  rw [jf_X12_checked, if_pos hq]
  refine ku_forU (G := fun g i => jf_X12_checked_L6 g q (n : Int) (kt_ck b i) ((i : Nat) : Int) s) (N := n) (fun g i hi => ?_) (fun g => ?_) n 0 jl_fu (Nat.zero_add _) (by show n < 4000; omega)
  · have eb : jl_add (i : Int) 1 = ((i + 1 : Nat) : Int) := by rw [jp_add (by omega) (by omega)]; omega
    show jf_X12_checked_L6 (g + 1) q (n : Int) (kt_ck b i) (i : Int) s = jf_X12_checked_L6 g q (n : Int) (kt_ck b (i + 1)) ((i + 1 : Nat) : Int) s
    rw [jf_X12_checked_L6, if_neg (by omega), if_pos (by omega), Int.toNat_natCast, h i hi, ku_ck (kt_ck_b i) (hb i hi), jp_let, eb, kt_ck]
  · show jf_X12_checked_L6 (g + 1) q (n : Int) (kt_ck b n) (n : Int) s = _
    rw [jf_X12_checked_L6, if_pos (Int.le_refl _)]
abbrev kr_FI : jp_F := [(285, 0, 0), (206, 110, 111)]
theorem kr_FIn {c i : Nat} (h : c ≠ 285) (h2 : c = 206 → i ≠ 110) : jp_in kr_FI c i = false := by simp [jp_in]; omega
def kt_RI (b : Nat → Int) (n : Nat) (s : jl_Mm) : Prop := jl_g s 206 110 = (n : Int) ∧ kt_PI b 285 n s
theorem kr_wr {b : Nat → Int} {n : Nat} {v : Int} {s : jl_Mm} (h : kt_RI b n s) (hn : n < 27) (e : v = b n) (hv : 0 ≤ v ∧ v ≤ 255) : ∃ τ, jf_X12_writes v s = some (0, τ) ∧ jp_fr kr_FI s τ ∧ kt_RI b (n + 1) τ := by
  have ea : jl_add (n : Int) 1 = ((n + 1 : Nat) : Int) := by rw [jp_add (by omega) (by omega)]; omega
  refine ⟨jl_up (jl_up s 285 n v) 206 110 ((n + 1 : Nat) : Int), ?_, (jp_fr.rf.up (by simp [jp_in])).up (by simp [jp_in]), jp_g_eq (by omega) (by omega), fun i hi => ?_⟩
  · rw [jf_X12_writes, h.1, if_pos (by omega), jp_lm, Int.toNat_natCast, jp_g_ne (by decide), h.1, ea, jp_lm]
  · rw [jp_g_ne (by decide)]; exact h.2.up e hv i hi
theorem kr_wr2 {b : Nat → Int} {n : Nat} {v : Int} {s : jl_Mm} (h : kt_RI b n s) (hn : n < 26) (hv : 0 ≤ v ∧ v ≤ 999) (e0 : v / 256 = b n) (e1 : v % 256 = b (n + 1)) : ∃ τ, jf_X12_writesTwo v s = some (0, τ) ∧ jp_fr kr_FI s τ ∧ kt_RI b (n + 2) τ := by
  obtain ⟨-, x1, x2⟩ := ku_256i hv
  obtain ⟨s1, t1, f1, p1⟩ := kr_wr h (by omega) e0 (by omega)
  obtain ⟨s2, t2, f2, p2⟩ := kr_wr p1 (by omega) e1 (by omega)
  exact ⟨s2, by rw [jf_X12_writesTwo, x1, t1, jp_bd, x2, t2, jp_bd], f1.tr f2, p2⟩
theorem kr_image {Z : jz_Z} {Ds : Nat → List Int} {a : Nat → Int} {s : jl_Mm} (hW : kr_W Z s) (hA : kr_A a s) (hV : kz_N Z Ds a) :
    jE (jf_X12_image s) ((kt_pn Z + 1 : Nat) : Int) kr_FI s (fun τ => jl_g τ 206 110 = ((kt_pn Z + 1 : Nat) : Int) ∧ kt_PI (kt_pb Z a) 285 (kt_pn Z) τ ∧ jl_g τ 285 (kt_pn Z) = kt_ck (kt_pb Z a) (kt_pn Z)) := by
  have h6 := hW.1.p
  have h8 := hW.1.l
  have h9 := hV.2.2.1
  have hb := fun i (hi : i < kt_pn Z) => kt_pb_b hW.1 hV hi
  have ep : kt_pn Z = 4 + ks_np Z + 2 * ks_nl Z := rfl
  have WA : ∀ {τ}, jp_fr kr_FI s τ → kr_W Z τ ∧ kr_A a τ := fun f => ⟨hW.fr f (fun c i _ _ => kr_FIn (by omega) (by omega)), hA.fr f (fun i => kr_FIn (by omega) (by omega))⟩
  have f0 : jp_fr kr_FI s (jl_up s 206 110 0) := jp_fr.rf.up (by decide)
  have r0 : kt_RI (kt_pb Z a) 0 (jl_up s 206 110 0) := ⟨jp_g_eq (by decide) (by decide), fun i hi => by omega⟩
  rw [jf_X12_image, jp_lm, show ((0 : Int) : Int).toNat = 0 from rfl, show ((1 : Int) : Int).toNat = 1 from rfl]
  generalize jl_up s 206 110 0 = s0 at *
  obtain ⟨s1, t1, f1, r1⟩ := kr_wr2 (v := a 0) r0 (by decide) (by have := hV.1.1; omega) rfl rfl
  have F1 := f0.tr f1
  obtain ⟨s2, t2, f2, r2⟩ := kr_wr2 (v := a 1) r1 (by decide) (by have := hV.1.2.1; omega) rfl rfl
  have F2 := F1.tr f2
  rw [(WA f0).2 0 (by decide), t1, jp_bd, (WA F1).2 1 (by decide), t2, jp_bd]
  refine ku_for (α := jl_Mm) (G := fun g p τ => jf_X12_image_L27 g ((p : Nat) : Int) τ) (N := ks_np Z) (P := fun o => jE o ((kt_pn Z + 1 : Nat) : Int) kr_FI s (fun τ => jl_g τ 206 110 = ((kt_pn Z + 1 : Nat) : Int) ∧ kt_PI (kt_pb Z a) 285 (kt_pn Z) τ ∧ jl_g τ 285 (kt_pn Z) = kt_ck (kt_pb Z a) (kt_pn Z))) (I := fun p τ => jp_fr kr_FI s τ ∧ kt_RI (kt_pb Z a) (4 + p) τ) (fun g p τ hp hI => Or.inr ?_) (fun g τ hI => ?_) (ks_np Z) 0 jl_fu s2 (Nat.zero_add _) (by show ks_np Z < 4000; omega) ⟨F2, r2⟩
  · obtain ⟨hf, hI⟩ := hI
    obtain ⟨W, A⟩ := WA hf
    have ea : jl_add 2 (p : Int) = ((2 + p : Nat) : Int) := by rw [jp_add (by omega) (by omega)]; omega
    have eb : jl_add (p : Int) 1 = ((p + 1 : Nat) : Int) := by rw [jp_add (by omega) (by omega)]; omega
    have ev : a (2 + p) = kt_pb Z a (4 + p) := (kt_pb_p hp).symm
    obtain ⟨υ, u1, u2, u3⟩ := kr_wr (v := a (2 + p)) hI (by omega) ev (by rw [ev]; exact hb (4 + p) (by omega))
    refine ⟨υ, ?_, hf.tr u2, u3⟩
    show jf_X12_image_L27 (g + 1) (p : Int) τ = jf_X12_image_L27 g ((p + 1 : Nat) : Int) _
    rw [jf_X12_image_L27, W.np, jp_bd, if_neg (by omega), ea, if_pos (by omega), Int.toNat_natCast, A (2 + p) (by omega), u1, jp_bd, eb]
  · obtain ⟨hf, hI⟩ := hI
    obtain ⟨W, A⟩ := WA hf
    show jE (jf_X12_image_L27 (g + 1) ((ks_np Z : Nat) : Int) τ) _ _ _ _
    rw [jf_X12_image_L27, W.np, jp_bd, if_pos (Int.le_refl _)]
    refine ku_for (α := jl_Mm) (G := fun g l τ => jf_X12_image_L55 g ((l : Nat) : Int) τ) (N := ks_nl Z) (P := fun o => jE o ((kt_pn Z + 1 : Nat) : Int) kr_FI s (fun τ => jl_g τ 206 110 = ((kt_pn Z + 1 : Nat) : Int) ∧ kt_PI (kt_pb Z a) 285 (kt_pn Z) τ ∧ jl_g τ 285 (kt_pn Z) = kt_ck (kt_pb Z a) (kt_pn Z))) (I := fun l τ => jp_fr kr_FI s τ ∧ kt_RI (kt_pb Z a) (4 + ks_np Z + 2 * l) τ) (fun g l τ hl hI => Or.inr ?_) (fun g τ hI => ?_) (ks_nl Z) 0 jl_fu τ (Nat.zero_add _) (by show ks_nl Z < 4000; omega) ⟨hf, hI⟩
    · obtain ⟨hf, hI⟩ := hI
      obtain ⟨W, A⟩ := WA hf
      have ea : jl_add 8 (l : Int) = ((8 + l : Nat) : Int) := by rw [jp_add (by omega) (by omega)]; omega
      have ea2 : jl_add 16 (l : Int) = ((16 + l : Nat) : Int) := by rw [jp_add (by omega) (by omega)]; omega
      have eb : jl_add (l : Int) 1 = ((l + 1 : Nat) : Int) := by rw [jp_add (by omega) (by omega)]; omega
      have e1 : a (8 + l) = kt_pb Z a (4 + ks_np Z + 2 * l) := kt_pb_l.1.symm
      have e2 : a (16 + l) = kt_pb Z a (4 + ks_np Z + 2 * l + 1) := kt_pb_l.2.symm
      obtain ⟨υ, u1, u2, u3⟩ := kr_wr (v := a (8 + l)) hI (by omega) e1 (by rw [e1]; exact hb _ (by omega))
      obtain ⟨φ, p1, p2, p3⟩ := kr_wr (v := a (16 + l)) u3 (by omega) e2 (by rw [e2]; exact hb _ (by omega))
      refine ⟨φ, ?_, (hf.tr u2).tr p2, p3⟩
      show jf_X12_image_L55 (g + 1) (l : Int) τ = jf_X12_image_L55 g ((l + 1 : Nat) : Int) _
      rw [jf_X12_image_L55, W.nl, jp_bd, if_neg (by omega), ea, if_pos (by omega), Int.toNat_natCast, A (8 + l) (by omega), u1, jp_bd, ea2, if_pos (by omega), Int.toNat_natCast, (WA (hf.tr u2)).2 (16 + l) (by omega), p1, jp_bd, eb]
    · obtain ⟨hf, hI⟩ := hI
      obtain ⟨W, A⟩ := WA hf
      have hI' : kt_RI (kt_pb Z a) (kt_pn Z) τ := hI
      have cb := kt_ck_b (b := kt_pb Z a) (kt_pn Z)
      obtain ⟨c1, c2⟩ := hI'
      have g285 : jl_g (jl_up τ 285 (kt_pn Z) (kt_ck (kt_pb Z a) (kt_pn Z))) 206 110 = ((kt_pn Z : Nat) : Int) := by rw [jp_g_ne (by decide)]; exact c1
      have eb : jl_add ((kt_pn Z : Nat) : Int) 1 = ((kt_pn Z + 1 : Nat) : Int) := by rw [jp_add (by omega) (by omega)]; omega
      show jE (jf_X12_image_L55 (g + 1) ((ks_nl Z : Nat) : Int) τ) _ _ _ _
      have k285 : (jl_kd 285).1 = 20 ∧ (jl_kd 285).2 = 27 := by decide +kernel
      rw [jf_X12_image_L55, W.nl, jp_bd, if_pos (Int.le_refl _), c1, kr_checked (b := kt_pb Z a) (q := 285) (n := kt_pn Z) k285.1 (by rw [k285.2]; omega) (by omega) c2 hb, jp_bd, jf_X12_writes, c1, if_pos (by omega), jp_lm, Int.toNat_natCast, g285, eb, jp_lm, jp_bd, jp_g_eq (by omega) (by omega)]
      refine ⟨_, rfl, (hf.up (by simp [jp_in])).up (by simp [jp_in]), jp_g_eq (by omega) (by omega), fun i hi => ?_, ?_⟩
      · rw [jp_g_ne (by decide), jp_g_nei (by omega)]; exact c2 i hi
      · rw [jp_g_ne (by decide), jp_g_eq (by omega) (by omega)]
def kd_im (Z : jz_Z) (a : Nat → Int) (d : kD) : kD := fun k => if k = 7 then ks_u (d 7) 0 ((kt_pn Z + 1 : Nat) : Int) else if k = 6 then (fun i => if i < kt_pn Z then kt_pb Z a i else kt_ck (kt_pb Z a) (kt_pn Z)) else d k
theorem kd_im_n {Z : jz_Z} {a : Nat → Int} {d : kD} {k : Nat} (h : k ≠ 6) (h2 : k ≠ 7) : kd_im Z a d k = d k := by rw [kd_im, if_neg h2, if_neg h]
theorem kd_im_v {Z : jz_Z} {a : Nat → Int} {d : kD} {q : Nat} {s : jl_Mm} (h : kt_PI (kt_pb Z a) q (kt_pn Z) s) (h2 : jl_g s q (kt_pn Z) = kt_ck (kt_pb Z a) (kt_pn Z)) : ∀ i : Nat, (i : Int) < kd_im Z a d 7 0 → jl_g s q i = kd_im Z a d 6 i := by
  intro i hi
  have e7 : kd_im Z a d 7 0 = ((kt_pn Z + 1 : Nat) : Int) := rfl
  have e6 : kd_im Z a d 6 i = if i < kt_pn Z then kt_pb Z a i else kt_ck (kt_pb Z a) (kt_pn Z) := rfl
  rw [e7] at hi
  rw [e6]
  by_cases c : i < kt_pn Z
  · rw [if_pos c]; exact h i c
  · rw [if_neg c, show i = kt_pn Z by omega]; exact h2
/-- kI_mk, with what is known of the street -/
theorem kI_mkV {fc fr : jl_Mm → jl_O} (h : ∀ Z Ds a d nx n, kz_V Z → kIv Z Ds a d nx n → ∃ r Fc Fr Z' Ds' a' d' nx' n', (∀ c i, 206 ≤ c → jp_in Fc c i = false) ∧ (∀ c i, c < 206 → jp_in Fr c i = false) ∧ kIv Z' Ds' a' d' nx' n' ∧ (∀ s, kIc Z Ds a d nx n s → jE (fc s) r Fc s (kIc Z' Ds' a' d' nx' n')) ∧ (∀ s, kIr Z Ds a d nx n s → jE (fr s) r Fr s (kIr Z' Ds' a' d' nx' n'))) : kI_call fc fr := by
  rintro s ⟨Z, Ds, a, d, nx, n, hv, hc, hr⟩
  obtain ⟨r, Fc, Fr, Z', Ds', a', d', nx', n', wc, wr, hv', gc, gr⟩ := h Z Ds a d nx n hr.1.1.1 hv
  obtain ⟨τ, t1, t2, t3⟩ := gc s hc
  obtain ⟨υ, u1, u2, u3⟩ := gr τ (hr.lo t2 wc)
  exact ⟨r, τ, υ, t1, u1, Z', Ds', a', d', nx', n', hv', t3.hi u2 wr, u3⟩
theorem kI_image : kI_call jf_X11_image jf_X12_image := kI_mkV (fun Z Ds a d nx n hZ hV => by
  have e : ∀ k, k ≠ 6 → k ≠ 7 → kd_im Z a d k = d k := fun k h h2 => kd_im_n h h2
  have e7 : kd_im Z a d 7 0 = ((kt_pn Z + 1 : Nat) : Int) := rfl
  refine ⟨((kt_pn Z + 1 : Nat) : Int), [(204, 0, 0), (0, 13, 14)], kr_FI, Z, Ds, a, kd_im Z a d, nx, n, by intro c i h; simp [jp_in]; omega, by intro c i h; simp [jp_in]; omega, ?_, fun s hs => ?_, fun s hs => ?_⟩
  · obtain ⟨h1, h2, h3, h4, h5, h6, h7, h8, h9⟩ := hV
    refine ⟨h1, h2, ?_, ?_, ?_, ?_, ?_, ?_, fun j hj => ?_⟩
    · rw [e 3 (by decide) (by decide)]; exact h3
    · rw [e 3 (by decide) (by decide), e 2 (by decide) (by decide)]; exact h4
    · rw [e 5 (by decide) (by decide)]; exact h5
    · rw [e 5 (by decide) (by decide), e 4 (by decide) (by decide)]; exact h6
    · rw [e7]
      have b1 := hZ.p
      have b2 := hZ.l
      have : kt_pn Z = 4 + ks_np Z + 2 * ks_nl Z := rfl
      omega
    · rw [e 8 (by decide) (by decide)]; exact h8
    · rw [e _ (by omega) (by omega)]; exact h9 j hj
  · have M := hs.M
    obtain ⟨H, hN, hG⟩ := hs.nA
    obtain ⟨τ, t1, f, t3, t4, t5⟩ := kc_image hN hV.1
    have nf : ∀ {c i : Nat}, (c = 0 → i ≠ 13) → c ≠ 204 → jp_in [(204, 0, 0), (0, 13, 14)] c i = false := by intro c i h h2; simp [jp_in]; omega
    refine ⟨τ, t1, f, hs.m f (fun c i h1 h2 => nf (by omega) (by omega)) ⟨by decide, by decide⟩ (fun k hk => e k (by omega) (by omega)) ?_⟩
    obtain ⟨h1, h2, h3, h4, h5, h6⟩ := M
    refine ⟨?_, ?_, ?_, ?_, ⟨t3, kd_im_v t4 t5⟩, ?_⟩
    · rw [e 0 (by decide) (by decide)]; intro i hi; rw [f.g _ _ (nf (by intro z; omega) (by decide))]; exact h1 i hi
    · rw [e 1 (by decide) (by decide), f.g _ _ (nf (by omega) (by omega)), f.g _ _ (nf (by omega) (by omega))]; exact h2
    · rw [e 3 (by decide) (by decide), e 2 (by decide) (by decide), f.g _ _ (nf (by omega) (by omega))]; exact ⟨h3.1, fun i hi => (f.g _ _ (nf (by intro z; omega) (by decide))).trans (h3.2 i hi)⟩
    · rw [e 5 (by decide) (by decide), e 4 (by decide) (by decide), f.g _ _ (nf (by omega) (by omega))]; exact ⟨h4.1, fun i hi => (f.g _ _ (nf (by intro z; omega) (by decide))).trans (h4.2 i hi)⟩
    · rw [e 8 (by decide) (by decide), f.g _ _ (nf (by omega) (by omega))]; exact h6
  · have M := hs.2.1
    obtain ⟨τ, t1, f, t3, t4, t5⟩ := kr_image hs.1.1 hs.1.2.2.1 hV.1
    refine ⟨τ, t1, f, hs.m f (fun c i h1 h2 => kr_FIn (by omega) (by omega)) (fun c i h1 h2 => kr_FIn (by omega) (by omega)) ⟨by decide, by decide, by decide, by decide⟩ (fun k hk => e k (by omega) (by omega)) ?_⟩
    obtain ⟨h1, h2, h3, h4, h5, h6⟩ := M
    refine ⟨?_, ?_, ?_, ?_, ⟨t3, kd_im_v t4 t5⟩, ?_⟩
    · rw [e 0 (by decide) (by decide)]; intro i hi; rw [f.g _ _ (kr_FIn (by omega) (by intro z; omega))]; exact h1 i hi
    · rw [e 1 (by decide) (by decide), f.g _ _ (kr_FIn (by omega) (by omega)), f.g _ _ (kr_FIn (by omega) (by omega))]; exact h2
    · rw [e 3 (by decide) (by decide), e 2 (by decide) (by decide), f.g _ _ (kr_FIn (by omega) (by omega))]; exact ⟨h3.1, fun i hi => (f.g _ _ (kr_FIn (by omega) (by intro z; omega))).trans (h3.2 i hi)⟩
    · rw [e 5 (by decide) (by decide), e 4 (by decide) (by decide), f.g _ _ (kr_FIn (by omega) (by omega))]; exact ⟨h4.1, fun i hi => (f.g _ _ (kr_FIn (by omega) (by intro z; omega))).trans (h4.2 i hi)⟩
    · rw [e 8 (by decide) (by decide), f.gl _ _ (kr_FIn (by omega) (by omega))]; exact h6)
