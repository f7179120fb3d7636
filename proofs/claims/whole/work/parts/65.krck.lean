/-! PURE, the class: how draughty, what is reckoned of a LIE, who is believed -/
theorem kc_by (v : Int) (s : jl_Mm) : jf_X5_draughtyBy v s = some (ks_c9 v, s) := by
  rw [jf_X5_draughtyBy, ku_min, jp_bd, ku_max, jp_bd, ks_c9]
  congr 2
  by_cases a : v < 0
  · rw [if_pos (show v < 9 by omega), if_neg (by omega), if_pos a]
  · by_cases b : 9 < v
    · rw [if_neg (show ¬ v < 9 by omega), if_pos (by omega), if_neg a, if_pos b]
    · by_cases c : v < 9
      · rw [if_pos c, if_neg a, if_neg b]
        by_cases d : 0 < v
        · rw [if_pos d]
        · rw [if_neg d]; omega
      · rw [if_neg c, if_pos (by omega), if_neg a, if_neg b]; omega
def kz_K (Z : jz_Z) (Ds : Nat → List Int) : Prop := 0 < ks_nw Z → kv_T 0 false (Ds 0) ∧ kv_T 1 false (Ds 1) ∧ kv_T 2 true (Ds 2)
def kc_K (H : Nat) (Z : jz_Z) (Ds : Nat → List Int) (s : jl_Mm) : Prop := 0 < ks_nw Z → ∀ w, w < 3 → kc_C (H + 10) w (Ds w) s
theorem kc_K.fr {H : Nat} {Z : jz_Z} {Ds : Nat → List Int} {s τ : jl_Mm} {F : jp_F} (h : kc_K H Z Ds s) (hH : jz_Hq H) (f : jp_fr F s τ) (w : ∀ c i, 8 ≤ c → c < 38 → jp_in F c i = false) : kc_K H Z Ds τ := by
  have h8 : 8 ≤ H ∧ H + 14 < 38 := by rcases hH with rfl | rfl <;> decide
  exact fun z v hv => (h z v hv).fr f (fun c i _ _ => w c i (by omega) (by omega))
theorem kz_nw {Z : jz_Z} {a : Nat → Int} {l : Nat} (hZ : kz_V Z) (hV : ks_V Z a) (hl : l < ks_nl Z) : 0 < ks_nw Z := by
  have ho := hZ.o hl
  have h := hV.2.2.1 _ ho.2.1
  have hw := hZ.w
  omega
theorem kc_drun {H q : Nat} {Z : jz_Z} {D : List Int} {s : jl_Mm} (hq : kc_q q) (hW : kc_W H Z s) (hC : kc_C (H + 10) 0 D s) (hT : kv_T 0 false D) {h w : Int} (bh : kv_b h) (bw : kv_b w) (h19 : jl_g s 192 19 = h) (h20 : jl_g s 192 20 = w) : jE (jl_bd (jf_X5_run q (H + 10) 0 s) fun r t => jf_X5_draughtyBy r t) (ks_dr D h w) [(191, 0, 0)] s (fun _ => True) := by
  have h38 := hW.H38
  have kq : (jl_kd (H + 10)).1 = 0 := by rcases hW.2.1 with rfl | rfl <;> decide +kernel
  have r := kc_run (w := 0) (env := fun c => if c = 40 then h else w) (of := fun _ v => v) hq kq (by omega) (by decide) hC hT.1 (fun c hc x y => by
    have z := (kv_cq (hT.2 c hc) x (by omega)).1 rfl
    rcases z with rfl | rfl
    · exact ⟨bh, h19⟩
    · exact ⟨bw, h20⟩) (fun c hc x => by
    have z := (kv_cq (hT.2 c hc) (by omega) (by omega)).1 rfl
    omega)
  refine jE.bd (r' := ks_dr D h w) (Q := fun _ => True) r (by decide) (fun τ f _ => ?_)
  rw [kc_by]
  exact jE.ret trivial
theorem kc_draughty {H q : Nat} {Z : jz_Z} {D : List Int} {s : jl_Mm} (hq : kc_q q) (hW : kc_W H Z s) (hC : kc_C (H + 10) 0 D s) (hT : kv_T 0 false D) {h w : Int} (bh : kv_b h) (bw : kv_b w) : jE (jf_X5_draughty q w h s) (ks_dr D h w) [(191, 0, 0), (192, 0, 0)] s (fun _ => True) := by
  have h38 := hW.H38
  have f : jp_fr [(192, 0, 0)] s (jl_up (jl_up s 192 20 w) 192 19 h) := (jp_fr.rf.up rfl).up rfl
  have v19 : jl_g (jl_up (jl_up s 192 20 w) 192 19 h) 192 19 = h := jp_g_eq (by have := bh.1; omega) (by have := bh.2; omega)
  have v20 : jl_g (jl_up (jl_up s 192 20 w) 192 19 h) 192 20 = w := by rw [jp_g_nei (by decide), jp_g_eq (by have := bw.1; omega) (by have := bw.2; omega)]
  rw [jf_X5_draughty, if_pos (kc_q7 hq), jp_lm, jp_lm, show ((20 : Int) : Int).toNat = 20 from rfl, show ((19 : Int) : Int).toNat = 19 from rfl]
  generalize jl_up (jl_up s 192 20 w) 192 19 h = τ at *
  have n : ∀ c i, c ≠ 192 → jp_in [(192, 0, 0)] c i = false := by intro c i hc; simp [jp_in]; omega
  have hW' := hW.fr f (n _ _ (by decide)) (n _ _ (by decide)) (fun c i _ _ => n _ _ (by omega))
  rw [hW'.g, hW'.gr]
  have r := kc_drun hq hW' (hC.fr f (fun c i _ _ => n _ _ (by omega))) hT bh bw v19 v20
  obtain ⟨υ, u1, u2, -⟩ := r
  have e : (jl_bd (jf_X5_run q (H + 10) 0 τ) fun r4 s5 => jl_bd (jf_X5_draughtyBy r4 s5) fun r6 s7 => some (r6, s7)) = some (ks_dr D h w, υ) := by
    rw [← u1]
    congr 1
    funext r t
    rw [kc_by, jp_bd]
  rw [e]
  exact ⟨υ, rfl, (f.w (by decide)).tr (u2.w (by decide)), trivial⟩
/-- behind near and how draughty it is -/
theorem kc_rck3 {H q1 q3 w : Nat} {Z : jz_Z} {D D0 : List Int} {t : Bool} {a : Nat → Int} {held : Int} {l : Nat} {s : jl_Mm} (hq : kc_q q1) (hW : kc_W H Z s) (hV : ks_V Z a) (hA : kc_A (ks_np Z) q1 a s) (hl : l < ks_nl Z) (hk : (jl_kd q3).1 = 0) (hq3 : q3 + 4 < 38) (hw : w < 3) (hC : kc_C q3 w D s) (hT : jq_ty D [] = some [t]) (hh : 0 ≤ held ∧ held ≤ 1)
    (h49 : 49 ∈ D → jl_g s 192 23 = held) (h40 : jl_g s 192 19 = a 0) (h41 : jl_g s 192 20 = a (2 + ks_ow Z l)) (h43 : 43 ∈ D → jl_g s 192 16 = ks_near Z a l) (h44 : 44 ∈ D → jl_g s 192 17 = ks_dr D0 (a 0) (a (2 + ks_ow Z l)))
    (ho : ∀ c ∈ D, c = 60 ∨ c = 61 → ∀ v, kv_b v → ∀ τ, jp_fr [(191, 0, 0), (192, 0, 0)] s τ → jf_X5_ofOne q1 (c - 36) v τ = some (ks_oo Z a c v, τ)) :
    jE (jf_X5_reckon_B103 q1 (l : Int) q3 (w : Int) ((ks_ow Z l : Nat) : Int) s) (kv_val (ks_env Z D0 a held l) (ks_oo Z a) D) [(191, 0, 0), (192, 0, 0)] s (fun _ => True) := by
  have h8 := hW.1.l
  have hol := hW.1.o hl
  have h38 := hW.H38
  have h3 := hV.2.2.2 l (by omega)
  have hp := hW.1.p
  have htr : jl_g s (H + 3) (ks_ow Z l) = Z.2.1 3 (ks_ow Z l) := (hW.2.2.2.2.2.1 _ (by omega)).2.2.2
  have h46 := (hW.1.2.2.2.2.2.2.1 (ks_ow Z l) (by omega)).2
  have hg := hW.g
  have hgr := hW.gr
  obtain ⟨A0, A1, A2, A3, A4⟩ := hA
  have qn : q1 + 3 ≠ 192 ∧ q1 + 2 ≠ 192 := by rcases hq with rfl | rfl <;> decide
  have f : jp_fr [(192, 0, 0)] s (jl_up (jl_up (jl_up (jl_up (jl_up s 192 15 (a (8 + l))) 192 18 (a (16 + l))) 192 3 (Z.2.1 3 (ks_ow Z l))) 192 21 (l : Int)) 192 22 (if 0 < a (8 + l) then 1 else 0)) := ((((jp_fr.rf.up rfl).up rfl).up rfl).up rfl).up rfl
  have n : ∀ c i, c ≠ 192 → jp_in [(192, 0, 0)] c i = false := by intro c i hc; simp [jp_in]; omega
  have b22 : (-2147483648 : Int) ≤ (if 0 < a (8 + l) then 1 else 0) ∧ (if 0 < a (8 + l) then 1 else 0) < (2147483648 : Int) := by split <;> decide
  have step : jf_X5_reckon_B103 q1 (l : Int) q3 (w : Int) ((ks_ow Z l : Nat) : Int) s = jl_bd (jf_X5_run q1 q3 (w : Int) (jl_up (jl_up (jl_up (jl_up (jl_up s 192 15 (a (8 + l))) 192 18 (a (16 + l))) 192 3 (Z.2.1 3 (ks_ow Z l))) 192 21 (l : Int)) 192 22 (if 0 < a (8 + l) then 1 else 0))) fun r t => some (r, t) := by
    have W14 := hW.fr (F := [(192, 0, 0)]) (τ := jl_up (jl_up s 192 15 (a (8 + l))) 192 18 (a (16 + l))) ((jp_fr.rf.up rfl).up rfl) (n _ _ (by decide)) (n _ _ (by decide)) (fun c i _ _ => n _ _ (by omega))
    rw [jf_X5_reckon_B103, if_pos (by omega), Int.toNat_natCast, A3 l (by omega), jp_lm, if_pos (by omega), show ((15 : Int) : Int).toNat = 15 from rfl, jp_g_ne qn.1, A4 l (by omega), jp_lm, show ((18 : Int) : Int).toNat = 18 from rfl, W14.g, W14.gr, if_pos (by omega), Int.toNat_natCast, jp_g_ne (show H + 3 ≠ 192 by omega), jp_g_ne (show H + 3 ≠ 192 by omega), htr, jp_lm, jp_lm, if_pos (by omega), jp_g_ne qn.2, jp_g_ne qn.2, jp_g_ne qn.2, jp_g_ne qn.2, A3 l (by omega)]
    simp only [jf_X5_reckon_B173]
    by_cases z : 0 < a (8 + l)
    · rw [if_neg (by omega), if_pos (by decide), jp_lm, if_pos z]; rfl
    · rw [if_pos (by omega), if_pos (by decide), jp_lm, if_neg z]; rfl
  rw [step]
  have v40 : jl_g (jl_up (jl_up (jl_up (jl_up (jl_up s 192 15 (a (8 + l))) 192 18 (a (16 + l))) 192 3 (Z.2.1 3 (ks_ow Z l))) 192 21 (l : Int)) 192 22 (if 0 < a (8 + l) then 1 else 0)) 192 19 = a 0 := by
    rw [jp_g_nei (by decide), jp_g_nei (by decide), jp_g_nei (by decide), jp_g_nei (by decide), jp_g_nei (by decide)]; exact h40
  have v41 : jl_g (jl_up (jl_up (jl_up (jl_up (jl_up s 192 15 (a (8 + l))) 192 18 (a (16 + l))) 192 3 (Z.2.1 3 (ks_ow Z l))) 192 21 (l : Int)) 192 22 (if 0 < a (8 + l) then 1 else 0)) 192 20 = a (2 + ks_ow Z l) := by
    rw [jp_g_nei (by decide), jp_g_nei (by decide), jp_g_nei (by decide), jp_g_nei (by decide), jp_g_nei (by decide)]; exact h41
  have v42 : jl_g (jl_up (jl_up (jl_up (jl_up (jl_up s 192 15 (a (8 + l))) 192 18 (a (16 + l))) 192 3 (Z.2.1 3 (ks_ow Z l))) 192 21 (l : Int)) 192 22 (if 0 < a (8 + l) then 1 else 0)) 192 15 = a (8 + l) := by
    rw [jp_g_nei (by decide), jp_g_nei (by decide), jp_g_nei (by decide), jp_g_nei (by decide), jp_g_eq (by omega) (by omega)]
  have v43 : 43 ∈ D → jl_g (jl_up (jl_up (jl_up (jl_up (jl_up s 192 15 (a (8 + l))) 192 18 (a (16 + l))) 192 3 (Z.2.1 3 (ks_ow Z l))) 192 21 (l : Int)) 192 22 (if 0 < a (8 + l) then 1 else 0)) 192 16 = ks_near Z a l := by
    intro m
    rw [jp_g_nei (by decide), jp_g_nei (by decide), jp_g_nei (by decide), jp_g_nei (by decide), jp_g_nei (by decide)]; exact h43 m
  have v44 : 44 ∈ D → jl_g (jl_up (jl_up (jl_up (jl_up (jl_up s 192 15 (a (8 + l))) 192 18 (a (16 + l))) 192 3 (Z.2.1 3 (ks_ow Z l))) 192 21 (l : Int)) 192 22 (if 0 < a (8 + l) then 1 else 0)) 192 17 = ks_dr D0 (a 0) (a (2 + ks_ow Z l)) := by
    intro m
    rw [jp_g_nei (by decide), jp_g_nei (by decide), jp_g_nei (by decide), jp_g_nei (by decide), jp_g_nei (by decide)]; exact h44 m
  have v45 : jl_g (jl_up (jl_up (jl_up (jl_up (jl_up s 192 15 (a (8 + l))) 192 18 (a (16 + l))) 192 3 (Z.2.1 3 (ks_ow Z l))) 192 21 (l : Int)) 192 22 (if 0 < a (8 + l) then 1 else 0)) 192 18 = a (16 + l) := by
    rw [jp_g_nei (by decide), jp_g_nei (by decide), jp_g_nei (by decide), jp_g_eq (by omega) (by omega)]
  have v46 : jl_g (jl_up (jl_up (jl_up (jl_up (jl_up s 192 15 (a (8 + l))) 192 18 (a (16 + l))) 192 3 (Z.2.1 3 (ks_ow Z l))) 192 21 (l : Int)) 192 22 (if 0 < a (8 + l) then 1 else 0)) 192 3 = Z.2.1 3 (ks_ow Z l) := by
    rw [jp_g_nei (by decide), jp_g_nei (by decide), jp_g_eq (by omega) (by omega)]
  have v47 : jl_g (jl_up (jl_up (jl_up (jl_up (jl_up s 192 15 (a (8 + l))) 192 18 (a (16 + l))) 192 3 (Z.2.1 3 (ks_ow Z l))) 192 21 (l : Int)) 192 22 (if 0 < a (8 + l) then 1 else 0)) 192 21 = (l : Int) := by
    rw [jp_g_nei (by decide), jp_g_eq (by omega) (by omega)]
  have v48 : jl_g (jl_up (jl_up (jl_up (jl_up (jl_up s 192 15 (a (8 + l))) 192 18 (a (16 + l))) 192 3 (Z.2.1 3 (ks_ow Z l))) 192 21 (l : Int)) 192 22 (if 0 < a (8 + l) then 1 else 0)) 192 22 = (if 0 < a (8 + l) then 1 else 0) := jp_g_eq b22.1 b22.2
  have v49 : 49 ∈ D → jl_g (jl_up (jl_up (jl_up (jl_up (jl_up s 192 15 (a (8 + l))) 192 18 (a (16 + l))) 192 3 (Z.2.1 3 (ks_ow Z l))) 192 21 (l : Int)) 192 22 (if 0 < a (8 + l) then 1 else 0)) 192 23 = held := by
    intro m
    rw [jp_g_nei (by decide), jp_g_nei (by decide), jp_g_nei (by decide), jp_g_nei (by decide), jp_g_nei (by decide)]; exact h49 m
  generalize jl_up (jl_up (jl_up (jl_up (jl_up s 192 15 (a (8 + l))) 192 18 (a (16 + l))) 192 3 (Z.2.1 3 (ks_ow Z l))) 192 21 (l : Int)) 192 22 (if 0 < a (8 + l) then 1 else 0) = τ at *
  have r := kc_run (env := ks_env Z D0 a held l) (of := ks_oo Z a) hq hk (by omega) hw (hC.fr f (fun c i _ _ => n _ _ (by omega))) hT (fun c hc x y => ⟨ks_env_b hW.1 hV hl hh c, by
    obtain rfl | rfl | rfl | rfl | rfl | rfl | rfl | rfl | rfl | rfl : c = 40 ∨ c = 41 ∨ c = 42 ∨ c = 43 ∨ c = 44 ∨ c = 45 ∨ c = 46 ∨ c = 47 ∨ c = 48 ∨ c = 49 := by omega
    · exact v40
    · exact v41
    · exact v42
    · exact v43 hc
    · exact v44 hc
    · exact v45
    · exact v46
    · exact v47
    · exact v48
    · exact v49 hc⟩) (fun c hc x v hv => ⟨ks_oo_b hW.1 hV c v, fun υ g => ho c hc x v hv υ ((f.w (by decide)).tr (g.w (by decide)))⟩)
  obtain ⟨υ, u1, u2, -⟩ := r
  rw [u1, jp_bd]
  exact ⟨υ, rfl, (f.w (by decide)).tr (u2.w (by decide)), trivial⟩
theorem kc_reckon {H q1 q3 w : Nat} {Z : jz_Z} {D D0 : List Int} {t : Bool} {a : Nat → Int} {held : Int} {l : Nat} {s : jl_Mm} (hq : kc_q q1) (hW : kc_W H Z s) (hV : ks_V Z a) (hA : kc_A (ks_np Z) q1 a s) (hl : l < ks_nl Z) (hk : (jl_kd q3).1 = 0) (hq3 : q3 + 4 < 38) (hw : w < 3) (hC0 : kc_C (H + 10) 0 D0 s) (hT0 : kv_T 0 false D0) (hC : kc_C q3 w D s) (hT : jq_ty D [] = some [t]) (hh : 0 ≤ held ∧ held ≤ 1) (h49 : 49 ∈ D → jl_g s 192 23 = held)
    (ho : ∀ c ∈ D, c = 60 ∨ c = 61 → ∀ v, kv_b v → ∀ τ, jp_fr [(191, 0, 0), (192, 0, 0)] s τ → jf_X5_ofOne q1 (c - 36) v τ = some (ks_oo Z a c v, τ)) :
    jE (jf_X5_reckon q1 (l : Int) q3 (w : Int) s) (kv_val (ks_env Z D0 a held l) (ks_oo Z a) D) [(191, 0, 0), (192, 0, 0)] s (fun _ => True) := by
  have h8 := hW.1.l
  have hol := hW.1.o hl
  have h38 := hW.H38
  have hV0 := hV.1
  have hVh := hV.2.2.1 _ hol.2.1
  have hw30 := hW.1.w
  have qn : ∀ i, i < 4 → q1 + i ≠ 192 ∧ q1 + i ≠ 191 := by intro i hi; rcases hq with rfl | rfl <;> omega
  have hAs := hA
  obtain ⟨A0, A1, A2, A3, A4⟩ := hA
  have n : ∀ c i, c ≠ 192 → jp_in [(192, 0, 0)] c i = false := by intro c i hc; simp [jp_in]; omega
  have n2 : ∀ c i, c ≠ 192 → c ≠ 191 → jp_in [(191, 0, 0), (192, 0, 0)] c i = false := by intro c i h1 h2; simp [jp_in]; omega
  have f8 : jp_fr [(192, 0, 0)] s (jl_up (jl_up s 192 19 (a 0)) 192 20 (a (2 + ks_ow Z l))) := (jp_fr.rf.up rfl).up rfl
  have v19 : jl_g (jl_up (jl_up s 192 19 (a 0)) 192 20 (a (2 + ks_ow Z l))) 192 19 = a 0 := by rw [jp_g_nei (by decide), jp_g_eq (by omega) (by omega)]
  have v20 : jl_g (jl_up (jl_up s 192 19 (a 0)) 192 20 (a (2 + ks_ow Z l))) 192 20 = a (2 + ks_ow Z l) := jp_g_eq (by omega) (by omega)
  have v23 : 49 ∈ D → jl_g (jl_up (jl_up s 192 19 (a 0)) 192 20 (a (2 + ks_ow Z l))) 192 23 = held := by
    intro m; rw [jp_g_nei (by decide), jp_g_nei (by decide)]; exact h49 m
  rw [jf_X5_reckon, if_pos (kc_q7 hq), if_pos hk, hW.g, hW.gr, if_pos (by omega), Int.toNat_natCast, hW.o hl, jp_let, if_pos (by omega), Int.toNat_natCast, jp_let, A0, jp_lm, if_pos (by omega), Int.toNat_natCast, show ((19 : Int) : Int).toNat = 19 from rfl, jp_g_ne (qn 1 (by decide)).1, A2 _ ⟨hol.2.2, hol.2.1⟩, jp_lm, show ((20 : Int) : Int).toNat = 20 from rfl]
  obtain ⟨p, to, h1, h2, h3, h4, h5, h6, h7⟩ := hC
  have hC : kc_C q3 w D s := ⟨p, to, h1, h2, h3, h4, h5, h6, h7⟩
  generalize jl_up (jl_up s 192 19 (a 0)) 192 20 (a (2 + ks_ow Z l)) = s8 at *
  have W8 := hW.fr f8 (n _ _ (by decide)) (n _ _ (by decide)) (fun c i _ _ => n _ _ (by omega))
  have A8 : kc_A (ks_np Z) q1 a s8 := hAs.fr f8 (n _ _ (qn 0 (by decide)).1) (n _ _ (qn 0 (by decide)).1) (fun c i x y => n _ _ (by have := qn (c - q1) (by omega); omega))
  -- near
  have near : ∃ s33, (if jl_and (jl_shr (jl_g s (q3 + 4) w) 16) 1 = 1 then jl_bd (jf_X5_nearTo q1 (l : Int) s8) fun r31 s32 => jl_lm (jl_up s32 192 ((16 : Int) : Int).toNat r31) fun s33 => jf_X5_reckon_B69 q1 (l : Int) q3 (w : Int) ((ks_ow Z l : Nat) : Int) (jl_g s (q3 + 4) w) s33 else jf_X5_reckon_B69 q1 (l : Int) q3 (w : Int) ((ks_ow Z l : Nat) : Int) (jl_g s (q3 + 4) w) s8) = jf_X5_reckon_B69 q1 (l : Int) q3 (w : Int) ((ks_ow Z l : Nat) : Int) (jl_g s (q3 + 4) w) s33 ∧ jp_fr [(192, 16, 17)] s8 s33 ∧ (43 ∈ D → jl_g s33 192 16 = ks_near Z a l) := by
    by_cases z : jl_and (jl_shr (jl_g s (q3 + 4) w) 16) 1 = 1
    · have hg := ku_n_ge (ks_nearP Z a l) (ks_nl Z)
      refine ⟨jl_up s8 192 16 (ks_near Z a l), ?_, jp_fr.rf.up rfl, fun _ => ?_⟩
      · rw [if_pos z, kc_near hq W8 hV A8 hl, jp_bd, jp_lm]; rfl
      · rw [ks_near]; exact jp_g_eq (by omega) (by omega)
    · exact ⟨s8, by rw [if_neg z], jp_fr.rf, fun m => absurd (h6 m) z⟩
  obtain ⟨s33, e33, f33, v16⟩ := near
  have n33 : ∀ c i, c ≠ 192 ∨ i ≠ 16 → jp_in [(192, 16, 17)] c i = false := by intro c i hc; simp [jp_in]; omega
  rw [e33, jf_X5_reckon_B69]
  have fs33 : jp_fr [(192, 0, 0)] s s33 := f8.tr (f33.ws (by intro c i hx; simp [jp_in] at hx ⊢; omega))
  have W33 := hW.fr fs33 (n _ _ (by decide)) (n _ _ (by decide)) (fun c i _ _ => n _ _ (by omega))
  have v19' : jl_g s33 192 19 = a 0 := (f33.g _ _ (n33 _ _ (Or.inr (by decide)))).trans v19
  have v20' : jl_g s33 192 20 = a (2 + ks_ow Z l) := (f33.g _ _ (n33 _ _ (Or.inr (by decide)))).trans v20
  have v23' : 49 ∈ D → jl_g s33 192 23 = held := fun m => (f33.g _ _ (n33 _ _ (Or.inr (by decide)))).trans (v23 m)
  -- how draughty
  have drg : ∃ s30, (if jl_and (jl_shr (jl_g s (q3 + 4) w) 17) 1 = 1 then if 0 ≤ s33 190 0 ∧ (jl_kd (jl_gr s33 190 0)).1 = 8 then jl_bd (jf_X5_run q1 (jl_gr s33 190 0 + 10) 0 s33) fun r26 s27 => jl_bd (jf_X5_draughtyBy r26 s27) fun r28 s29 => jl_lm (jl_up s29 192 ((17 : Int) : Int).toNat r28) fun s30 => jf_X5_reckon_B103 q1 (l : Int) q3 (w : Int) ((ks_ow Z l : Nat) : Int) s30 else none else jf_X5_reckon_B103 q1 (l : Int) q3 (w : Int) ((ks_ow Z l : Nat) : Int) s33) = jf_X5_reckon_B103 q1 (l : Int) q3 (w : Int) ((ks_ow Z l : Nat) : Int) s30 ∧ jp_fr [(191, 0, 0), (192, 17, 18)] s33 s30 ∧ (44 ∈ D → jl_g s30 192 17 = ks_dr D0 (a 0) (a (2 + ks_ow Z l))) := by
    by_cases z : jl_and (jl_shr (jl_g s (q3 + 4) w) 17) 1 = 1
    · obtain ⟨υ, u1, u2, -⟩ := kc_drun hq W33 (hC0.fr fs33 (fun c i _ _ => n _ _ (by omega))) hT0 (h := a 0) (w := a (2 + ks_ow Z l)) ⟨by omega, by omega⟩ ⟨by omega, by omega⟩ v19' v20'
      have hb9 := ks_c9_b (kv_val (fun c => if c = 40 then a 0 else a (2 + ks_ow Z l)) (fun _ v => v) D0)
      refine ⟨jl_up υ 192 17 (ks_dr D0 (a 0) (a (2 + ks_ow Z l))), ?_, (u2.w (by decide)).tr (jp_fr.rf.up (by decide)), fun _ => ?_⟩
      · rw [if_pos z, W33.g, W33.gr, ← jp_ba (f := fun r t => jf_X5_draughtyBy r t), u1, jp_bd, jp_lm]; rfl
      · rw [ks_dr]; exact jp_g_eq (by omega) (by omega)
    · exact ⟨s33, by rw [if_neg z], jp_fr.rf, fun m => absurd (h7 m) z⟩
  obtain ⟨s30, e30, f30, v17⟩ := drg
  rw [e30]
  have n30 : ∀ c i, c ≠ 191 → (c = 192 → i ≠ 17) → jp_in [(191, 0, 0), (192, 17, 18)] c i = false := by intro c i h1 h2; simp [jp_in]; omega
  have fs30 : jp_fr [(191, 0, 0), (192, 0, 0)] s s30 := (fs33.w (by decide)).tr (f30.ws (by intro c i hx; simp [jp_in] at hx ⊢; omega))
  have W30 := hW.fr fs30 (n2 _ _ (by decide) (by decide)) (n2 _ _ (by decide) (by decide)) (fun c i _ _ => n2 _ _ (by omega) (by omega))
  have A30 : kc_A (ks_np Z) q1 a s30 := hAs.fr fs30 (n2 _ _ (qn 0 (by decide)).1 (qn 0 (by decide)).2) (n2 _ _ (qn 0 (by decide)).1 (qn 0 (by decide)).2) (fun c i x y => by have := qn (c - q1) (by omega); exact n2 _ _ (by omega) (by omega))
  exact jE.fr fs30 (kc_rck3 hq W30 hV A30 hl hk hq3 hw (hC.fr fs30 (fun c i _ _ => n2 _ _ (by omega) (by omega))) hT hh
    (fun m => (f30.g _ _ (n30 _ _ (by decide) (fun _ => by decide))).trans (v23' m))
    ((f30.g _ _ (n30 _ _ (by decide) (fun _ => by decide))).trans v19')
    ((f30.g _ _ (n30 _ _ (by decide) (fun _ => by decide))).trans v20')
    (fun m => (f30.g _ _ (n30 _ _ (by decide) (fun _ => by decide))).trans (v16 m)) v17
    (fun c hc x v hv τ g => ho c hc x v hv τ (fs30.tr g)))
/-- a sum, a test of the street's own: no wax, no glow -/
theorem kc_reckonS {H q1 w : Nat} {Z : jz_Z} {Ds : Nat → List Int} {a : Nat → Int} {l : Nat} {s : jl_Mm} (hq : kc_q q1) (hW : kc_W H Z s) (hV : ks_V Z a) (hA : kc_A (ks_np Z) q1 a s) (hl : l < ks_nl Z) (hK : kc_K H Z Ds s) (hT : kz_K Z Ds) (hw : w = 1 ∨ w = 2) :
    jE (jf_X5_reckon q1 (l : Int) (H + 10) (w : Int) s) (kv_val (ks_env Z (Ds 0) a 0 l) (ks_oo Z a) (Ds w)) [(191, 0, 0), (192, 0, 0)] s (fun _ => True) := by
  have hn := kz_nw hW.1 hV hl
  have h38 := hW.H38
  obtain ⟨T0, T1, T2⟩ := hT hn
  have kq : (jl_kd (H + 10)).1 = 0 := by rcases hW.2.1 with rfl | rfl <;> decide +kernel
  have hT' : ∃ t, jq_ty (Ds w) [] = some [t] := hw.elim (fun q => by rw [q]; exact ⟨_, T1.1⟩) (fun q => by rw [q]; exact ⟨_, T2.1⟩)
  obtain ⟨t, hT'⟩ := hT'
  have hcq : ∀ c ∈ Ds w, jq_cq w c := hw.elim (fun q => by rw [q]; exact T1.2) (fun q => by rw [q]; exact T2.2)
  have no : ∀ c ∈ Ds w, 47 ≤ c → c < 1000 → False := by
    intro c hc x y
    have z := kv_cq (hcq c hc) (by omega) y
    rcases hw with rfl | rfl
    · have := z.2.1 rfl; omega
    · have := z.2.2 rfl; omega
  exact kc_reckon hq hW hV hA hl kq (by omega) (by omega) (hK hn 0 (by decide)) T0 (hK hn w (by omega)) hT' ⟨by decide, by decide⟩ (fun m => (no 49 m (by decide) (by decide)).elim) (fun c hc x => (no c hc (by omega) (by omega)).elim)
