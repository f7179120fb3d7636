/-! PURE, the class's street reader: the codes that nobody told -/
def jz_Y (ok : Prop) (q : Nat) (L : List Int) (s : jl_Mm) : Prop :=
  (0 ≤ jl_g s q 4 ∧ jl_g s q 4 ≤ 1608) ∧ (ok → jl_g s q 4 = (L.length : Int) ∧ ∀ i (h : i < L.length), jl_g s (q + 1) i = jq_U L[i])
theorem jz_Y.fr {ok : Prop} {q : Nat} {L : List Int} {s τ : jl_Mm} {F : jp_F} (h : jz_Y ok q L s) (f : jp_fr F s τ) (w1 : jp_in F q 4 = false) (w2 : ∀ i, jp_in F (q + 1) i = false) : jz_Y ok q L τ := by
  obtain ⟨h1, h2⟩ := h
  refine ⟨by rw [f.g _ _ w1]; exact h1, fun z => ⟨(f.g _ _ w1).trans (h2 z).1, fun i hi => (f.g _ _ (w2 i)).trans ((h2 z).2 i hi)⟩⟩
theorem jz_put {ok : Prop} {q w : Nat} {L : List Int} {s : jl_Mm} {c v : Int} (hq : jq_qw q w) (h : jz_Y ok q L s) (h5 : jl_g s q 5 = (w : Int)) (hl : ok → L.length < 1608) (hv : v = jq_U c) (hn : -2147483648 ≤ v ∧ v < 2147483648) : jE (jf_X0_put q v s) 0 [(q, 4, 5), (q + 1, 0, 0), (q + 3, w, w + 1)] s (fun τ => jz_Y ok q (L ++ [c]) τ ∧ jl_g τ q 5 = (w : Int) ∧ (ok → jl_g τ (q + 3) w = (L.length : Int) + 1)) := by
  obtain ⟨h1, h2⟩ := h
  have hw3 : w < 3 := by obtain ⟨-, hw⟩ := hq; omega
  obtain ⟨n1, n2⟩ := hn
  rw [jf_X0_put, if_pos (jq_kdq hq)]
  by_cases hfull : 1608 ≤ jl_g s q 4
  · rw [if_pos hfull, jf_X0_put_B40]
    have hno : ¬ ok := fun z => by have a := h2 z; have b := hl z; omega
    exact jE.ret ⟨⟨h1, fun z => absurd z hno⟩, h5, fun z => absurd z hno⟩
  · rw [if_neg hfull, jp_add (by omega) (by omega)]
    have a5 : jl_g (jl_up (jl_up s q 4 (jl_g s q 4 + 1)) (q + 1) (jl_g s q 4).toNat v) q 5 = (w : Int) := by
      rw [jp_g_ne (by omega), jp_g_nei (by omega), h5]
    have a4 : jl_g (jl_up (jl_up s q 4 (jl_g s q 4 + 1)) (q + 1) (jl_g s q 4).toNat v) q 4 = jl_g s q 4 + 1 := by
      rw [jp_g_ne (by omega), jp_g_eq (by omega) (by omega)]
    rw [jp_lm, if_pos (by omega), jp_lm, a5, a4, if_pos (by omega), jp_lm, jf_X0_put_B40, Int.toNat_natCast]
    refine ⟨_, rfl, ((jp_fr.rf.up (by simp [jp_in])).up (by simp [jp_in])).up (by simp [jp_in]), ⟨⟨?_, fun z => ⟨?_, fun i hi => ?_⟩⟩, ?_, fun z => ?_⟩⟩
    · rw [jp_g_ne (by omega), jp_g_ne (by omega), jp_g_eq (by omega) (by omega)]
      omega
    · rw [jp_g_ne (by omega), jp_g_ne (by omega), jp_g_eq (by omega) (by omega), (h2 z).1, List.length_append]
      rfl
    · obtain ⟨z1, z2⟩ := h2 z
      have hi2 : i < L.length + 1 := by rw [List.length_append] at hi; exact hi
      rw [jp_g_ne (by omega), z1, Int.toNat_natCast]
      by_cases e : i = L.length
      · subst e
        rw [jp_g_eq (by omega) (by omega), hv]
        simp
      · rw [jp_g_nei e, jp_g_ne (by omega), z2 i (by omega), List.getElem_append_left (by omega)]
    · rw [jp_g_ne (by omega), jp_g_ne (by omega), jp_g_nei (by omega), h5]
    · rw [jp_g_eq (by omega) (by omega), (h2 z).1]
theorem jz_putW {ok : Prop} {q w : Nat} {L : List Int} {s : jl_Mm} (hq : jq_qw q w) (h : jz_Y ok q L s) (h5 : jl_g s q 5 = (w : Int)) (hl : ok → L.length < 1608) : jE (jf_X0_putWord q 16 s) 0 [(q, 4, 5), (q + 1, 0, 0), (q + 3, w, w + 1), (q + 4, w, w + 1)] s (fun τ => jz_Y ok q (L ++ [43]) τ ∧ jl_g τ q 5 = (w : Int) ∧ (ok → jl_g τ (q + 3) w = (L.length : Int) + 1) ∧ jl_and (jl_shr (jl_g τ (q + 4) w) 16) 1 = 1) := by
  have hw3 : w < 3 := by obtain ⟨-, hw⟩ := hq; omega
  rw [jf_X0_putWord, if_pos (jq_kdq hq), h5, if_pos (by omega), if_pos (by omega), Int.toNat_natCast]
  have fr : jp_fr [(q + 4, w, w + 1)] s (jl_up s (q + 4) w (jl_or (jl_g s (q + 4) w) (jl_shl 1 16))) := jp_fr.rf.up (by simp [jp_in])
  have ew : jl_g (jl_up s (q + 4) w (jl_or (jl_g s (q + 4) w) (jl_shl 1 16))) (q + 4) w = jl_or (jl_g s (q + 4) w) (jl_shl 1 16) := jp_g_eq (jp_or_n _ _).1 (jp_or_n _ _).2
  refine jE.lm (by simp [jp_in]) ?_
  generalize jl_up s (q + 4) w (jl_or (jl_g s (q + 4) w) (jl_shl 1 16)) = τ at *
  have hn : ∀ c i, c ≠ q + 4 → jp_in [(q + 4, w, w + 1)] c i = false := by
    intro c i hc
    simp [jp_in]
    omega
  have b16 : jl_and (jl_shr (jl_g τ (q + 4) w) 16) 1 = 1 := by
    rw [ew, show (16 : Int) = ((16 : Nat) : Int) from rfl, jp_bit (by decide), jp_tb_or, jp_tb_s1 16 (by decide) 16 (by decide)]
    simp
  have hY : jz_Y ok q L τ := h.fr fr (hn _ _ (by omega)) (fun i => hn _ _ (by omega))
  have h5' : jl_g τ q 5 = (w : Int) := by rw [fr.g _ _ (hn _ _ (by omega))]; exact h5
  have hx : jl_xor 16 (-1) = -17 := by decide +kernel
  rw [hx]
  refine jE.bd (jz_put (c := 43) hq hY h5' hl (by decide) (by decide)) (by simp) (fun υ f z => jE.ret ⟨z.1, z.2.1, z.2.2, ?_⟩)
  have hn2 : jp_in [(q, 4, 5), (q + 1, 0, 0), (q + 3, w, w + 1)] (q + 4) w = false := by
    simp [jp_in]
  rw [f.g _ _ hn2]
  exact b16
theorem jz_start {ok : Prop} {q w : Nat} {L : List Int} {s : jl_Mm} (hq : jq_qw q w) (h : jz_Y ok q L s) : jE (jf_X0_start q (w : Int) s) 0 [(q, 5, 6), (q + 2, w, w + 1), (q + 3, w, w + 1), (q + 4, w, w + 1)] s (fun τ => jz_Y ok q L τ ∧ jl_g τ q 5 = (w : Int) ∧ jl_g τ (q + 2) w = jl_g s q 4) := by
  have hw3 : w < 3 := by obtain ⟨-, hw⟩ := hq; omega
  have hY := h.1
  have e1 : jl_g (jl_up s q 5 (w : Int)) q 4 = jl_g s q 4 := jp_g_nei (by omega)
  have e2 : jl_g (jl_up (jl_up s q 5 (w : Int)) (q + 2) w (jl_g s q 4)) q 4 = jl_g s q 4 := by rw [jp_g_ne (by omega)]; exact e1
  rw [jf_X0_start, if_pos (jq_kdq hq), jp_lm, if_pos (by omega), Int.toNat_natCast, e1, jp_lm, if_pos (by omega), e2, jp_lm, if_pos (by omega), jp_lm]
  have fr : jp_fr [(q, 5, 6), (q + 2, w, w + 1), (q + 3, w, w + 1), (q + 4, w, w + 1)] s (jl_up (jl_up (jl_up (jl_up s q 5 (w : Int)) (q + 2) w (jl_g s q 4)) (q + 3) w (jl_g s q 4)) (q + 4) w 0) := (((jp_fr.rf.up (by simp [jp_in])).up (by simp [jp_in])).up (by simp [jp_in])).up (by simp [jp_in])
  refine ⟨_, rfl, fr, h.fr fr (by simp [jp_in]) (by intro i; simp [jp_in]), ?_, ?_⟩
  · rw [jp_g_ne (by omega), jp_g_ne (by omega), jp_g_ne (by omega), jp_g_eq (by omega) (by omega)]
  · rw [jp_g_ne (by omega), jp_g_ne (by omega), jp_g_eqg]
theorem jz_told {q w : Nat} {s : jl_Mm} (hq : jq_qw q w) : jf_X0_isTold q (w : Int) s = some (if jl_g s (q + 3) w ≤ jl_g s (q + 2) w then 0 else 1, s) := by
  have hw3 : w < 3 := by obtain ⟨-, hw⟩ := hq; omega
  rw [jf_X0_isTold, if_pos (jq_kdq hq), if_pos (by omega), if_pos (by omega), Int.toNat_natCast]
  simp only [jf_X0_isTold_B20]
  by_cases z : jl_g s (q + 3) w ≤ jl_g s (q + 2) w
  · rw [if_pos z, if_pos z, jp_zb0]
  · rw [if_neg z, if_neg z, jp_zb1]
/-- codes of kind w for what nobody told -/
def jz_ut (w : Nat) (cs : List Int) (r : List Int × jz_Z) : List Int × jz_Z :=
  if r.2.1 (10 + w) < r.2.1 (20 + w) then r else (r.1 ++ cs, jz_s (jz_s r.2 (10 + w) (r.1.length : Int)) (20 + w) ((r.1.length + cs.length : Nat) : Int))
def jz_un (r : List Int × jz_Z) : List Int × jz_Z := jz_ut 2 [13] (jz_ut 1 [1001, 43, 1] (jz_ut 0 [1000] r))
def jz_Fw (q w : Nat) : jp_F := [(q, 4, 5), (q, 5, 6), (q + 1, 0, 0), (q + 2, w, w + 1), (q + 3, w, w + 1), (q + 4, w, w + 1)]
theorem jz_D.ap {q w : Nat} {L cs : List Int} {Z : jz_Z} {s τ : jl_Mm} (hw : w < 3) (h : jz_D q L Z s) (fr : jp_fr (jz_Fw q w) s τ) (h2 : jl_g τ (q + 2) w = (L.length : Int)) (h3 : jl_g τ (q + 3) w = ((L.length + cs.length : Nat) : Int)) (h4 : 43 ∈ cs → jl_and (jl_shr (jl_g τ (q + 4) w) 16) 1 = 1) (h5 : 44 ∉ cs) : jz_D q (L ++ cs) (jz_s (jz_s Z (10 + w) (L.length : Int)) (20 + w) ((L.length + cs.length : Nat) : Int)) τ := by
  intro v hv
  by_cases e : v = w
  · subst e
    have z1 : (jz_s (jz_s Z (10 + v) (L.length : Int)) (20 + v) ((L.length + cs.length : Nat) : Int)).1 (10 + v) = (L.length : Int) := by
      simp only [jz_s]; rw [if_neg (by omega), if_pos trivial]
    have z2 : (jz_s (jz_s Z (10 + v) (L.length : Int)) (20 + v) ((L.length + cs.length : Nat) : Int)).1 (20 + v) = ((L.length + cs.length : Nat) : Int) := by
      simp only [jz_s]; rw [if_pos trivial]
    rw [z1, z2, Int.toNat_natCast, Int.toNat_natCast, List.length_append]
    have t : ((L ++ cs).take (L.length + cs.length)).drop L.length = cs := by
      rw [← List.length_append, List.take_length, List.drop_left]
    rw [t]
    exact ⟨h2, h3, by omega, by omega, by omega, h4, fun z => absurd z h5⟩
  · obtain ⟨a1, a2, a3, a4, a5, a6, a7⟩ := h v hv
    have z1 : (jz_s (jz_s Z (10 + w) (L.length : Int)) (20 + w) ((L.length + cs.length : Nat) : Int)).1 (10 + v) = Z.1 (10 + v) := by
      simp only [jz_s]; rw [if_neg (by omega), if_neg (by omega)]
    have z2 : (jz_s (jz_s Z (10 + w) (L.length : Int)) (20 + w) ((L.length + cs.length : Nat) : Int)).1 (20 + v) = Z.1 (20 + v) := by
      simp only [jz_s]; rw [if_neg (by omega), if_neg (by omega)]
    have t : (L ++ cs).take (Z.1 (20 + v)).toNat = L.take (Z.1 (20 + v)).toNat := by
      rw [List.take_append_of_le_length (by omega)]
    have n2 : jp_in (jz_Fw q w) (q + 2) v = false := by simp [jp_in, jz_Fw]; omega
    have n3 : jp_in (jz_Fw q w) (q + 3) v = false := by simp [jp_in, jz_Fw]; omega
    have n4 : jp_in (jz_Fw q w) (q + 4) v = false := by simp [jp_in, jz_Fw]; omega
    rw [z1, z2, t, fr.g _ _ n2, fr.g _ _ n3, fr.g _ _ n4, List.length_append]
    exact ⟨a1, a2, a3, a4, by omega, a6, a7⟩
/-- the Code q holds r (all of it, where ok) -/
def jz_X (ok : Prop) (q : Nat) (r : List Int × jz_Z) (s : jl_Mm) : Prop :=
  jz_Y ok q r.1 s ∧ (ok → jz_D q r.1 r.2 s) ∧ ∃ w : Nat, (w = 0 ∨ w = 1 ∨ w = 2) ∧ jl_g s q 5 = (w : Int)
theorem jz_utS {ok : Prop} {q w : Nat} {cs : List Int} {r : List Int × jz_Z} {s : jl_Mm} {k : jl_Mm → jl_O} (hq : jq_qw q w) (h : jz_X ok q r s) (hc : cs ≠ []) (h44 : 44 ∉ cs) (hk : ∀ s1, jz_Y ok q r.1 s1 → jl_g s1 q 5 = (w : Int) → jE (k s1) 0 [(q, 4, 5), (q + 1, 0, 0), (q + 3, w, w + 1), (q + 4, w, w + 1)] s1 (fun τ => jz_Y ok q (r.1 ++ cs) τ ∧ jl_g τ q 5 = (w : Int) ∧ (ok → jl_g τ (q + 3) w = ((r.1.length + cs.length : Nat) : Int)) ∧ (43 ∈ cs → jl_and (jl_shr (jl_g τ (q + 4) w) 16) 1 = 1))) : jE (jl_bd (jf_X0_isTold q (w : Int) s) fun r1 s2 => if r1 = 0 then (jl_bd (jf_X0_start q (w : Int) s2) fun _ s23 => k s23) else some (0, s2)) 0 (jz_Fw q w) s (fun τ => jz_X ok q (jz_ut w cs r) τ) := by
  have hw := hq.2
  have hw3 : w < 3 := by omega
  obtain ⟨hY, hD, hcur⟩ := h
  rw [jz_told hq, jp_bd]
  by_cases z : jl_g s (q + 3) w ≤ jl_g s (q + 2) w
  · rw [if_pos z, if_pos rfl]
    obtain ⟨a, a1, a2, a3, a4, a5⟩ := jz_start hq hY
    obtain ⟨b, b1, b2, b3, b4, b5, b6⟩ := hk a a3 a4
    rw [a1, jp_bd, b1]
    have fr : jp_fr (jz_Fw q w) s b := (a2.w (by simp [jz_Fw])).tr (b2.w (by simp [jz_Fw]))
    by_cases hok : ok
    · obtain ⟨d1, d2, -⟩ := hD hok w hw3
      rw [jz_ut, if_neg (by omega)]
      have n2 : jp_in [(q, 4, 5), (q + 1, 0, 0), (q + 3, w, w + 1), (q + 4, w, w + 1)] (q + 2) w = false := by simp [jp_in]
      refine ⟨b, rfl, fr, b3, fun _ => (hD hok).ap hw3 fr ?_ (b5 hok) b6 h44, w, hw, b4⟩
      rw [b2.g _ _ n2, a5]
      exact (hY.2 hok).1
    · refine ⟨b, rfl, fr, ⟨b3.1, fun y => absurd y hok⟩, fun y => absurd y hok, w, hw, b4⟩
  · rw [if_neg z, if_neg (by decide)]
    refine jE.ret ?_
    by_cases hok : ok
    · obtain ⟨d1, d2, -⟩ := hD hok w hw3
      rw [jz_ut, if_pos (by omega)]
      exact ⟨hY, hD, hcur⟩
    · exact ⟨⟨hY.1, fun y => absurd y hok⟩, fun y => absurd y hok, hcur⟩
theorem jp_ba {o : jl_O} {f g : Int → jl_Mm → jl_O} : jl_bd (jl_bd o f) g = jl_bd o (fun r s => jl_bd (f r s) g) := by
  cases o with
  | none => rfl
  | some x => rfl
theorem jp_fr.ws {F E : jp_F} {s τ : jl_Mm} (h : ∀ c i, jp_in F c i = true → jp_in E c i = true) (f : jp_fr F s τ) : jp_fr E s τ := fun c i hE => f c i (Classical.byContradiction fun z => by
  have z2 : jp_in F c i = true := by simpa using z
  rw [h c i z2] at hE
  cases hE)
theorem jE.ws {o : jl_O} {r : Int} {F E : jp_F} {s : jl_Mm} {Q : jl_Mm → Prop} (h : ∀ c i, jp_in F c i = true → jp_in E c i = true) (f : jE o r F s Q) : jE o r E s Q := by
  obtain ⟨τ, a, b, c⟩ := f
  exact ⟨τ, a, b.ws h, c⟩
theorem jz_utE {o : jl_O} {st k K : jl_Mm → jl_O} : (jl_bd o fun r s2 => if r = 0 then (jl_bd (st s2) fun _ s3 => jl_bd (k s3) fun _ s4 => K s4) else K s2) = jl_bd (jl_bd o fun r s2 => if r = 0 then (jl_bd (st s2) fun _ s3 => k s3) else some (0, s2)) fun _ s => K s := by
  rw [jp_ba]
  congr 1
  funext r s
  by_cases h : r = 0
  · rw [if_pos h, if_pos h, jp_ba]
  · rw [if_neg h, if_neg h, jp_bd]
def jz_FU (q : Nat) : jp_F := [(q, 4, 5), (q, 5, 6), (q + 1, 0, 0), (q + 2, 0, 0), (q + 3, 0, 0), (q + 4, 0, 0)]
theorem jz_FwU {q w : Nat} (c i : Nat) (h : jp_in (jz_Fw q w) c i = true) : jp_in (jz_FU q) c i = true := by
  simp [jp_in, jz_Fw, jz_FU] at h ⊢
  omega
theorem jz_ut_len {w : Nat} {cs : List Int} {r : List Int × jz_Z} : (jz_ut w cs r).1.length ≤ r.1.length + cs.length := by
  rw [jz_ut]; split
  · omega
  · simp only [List.length_append]; omega
theorem jx0_untold {ok : Prop} {q : Nat} {r : List Int × jz_Z} {s : jl_Mm} (hq : q = 3 ∨ q = 18 ∨ q = 33) (h : jz_X ok q r s) (hl : ok → r.1.length ≤ 1600) : jE (jf_X0_putUntold q s) 0 (jz_FU q) s (fun τ => jz_X ok q (jz_un r) τ) := by
  have q0 : jq_qw q 0 := ⟨hq, Or.inl rfl⟩
  have q1 : jq_qw q 1 := ⟨hq, Or.inr (Or.inl rfl)⟩
  have q2 : jq_qw q 2 := ⟨hq, Or.inr (Or.inr rfl)⟩
  have self : ((jz_FU q).all fun x => (jz_FU q).contains x) = true := by simp [jz_FU]
  rw [jf_X0_putUntold, if_pos (jq_kdq q0)]
  have e1 := jz_utE (o := jf_X0_isTold q 0 s) (st := fun s2 => jf_X0_start q 0 s2) (k := fun s3 => jf_X0_put q 0 s3) (K := fun s4 => jf_X0_putUntold_B18 q s4)
  rw [e1]
  have l1 := jz_ut_len (w := 0) (cs := [1000]) (r := r)
  refine jE.bd (jE.ws jz_FwU (jz_utS (w := 0) (cs := [1000]) q0 h (by simp) (by simp) (fun s1 y1 y2 => ?_))) self (fun τ _ X1 => ?_)
  · refine jE.mono (jz_put (c := 1000) q0 y1 y2 (fun z => by have := hl z; omega) (by decide) (by decide)) (by simp) (fun υ _ z => ⟨z.1, z.2.1, fun y => ?_, fun y => by simp at y⟩)
    exact (z.2.2 y).trans (by simp)
  clear h
  rw [jz_un]
  generalize jz_ut 0 [1000] r = r1 at *
  simp only [jf_X0_putUntold_B18]
  have e2 := jz_utE (o := jf_X0_isTold q 1 τ) (st := fun s2 => jf_X0_start q 1 s2) (k := fun s3 => jl_bd (jf_X0_put q 1 s3) fun _ s17 => jl_bd (jf_X0_putWord q 16 s17) fun _ s19 => jf_X0_put q (-44) s19) (K := fun s4 => jf_X0_putUntold_B48 q s4)
  simp only [jp_ba] at e2
  rw [e2]
  rw [← jp_ba]
  have l2 := jz_ut_len (w := 1) (cs := [1001, 43, 1]) (r := r1)
  have ll1 : ok → r1.1.length ≤ 1601 := fun z => by have := hl z; simp at l1; omega
  refine jE.bd (jE.ws jz_FwU (jz_utS (w := 1) (cs := [1001, 43, 1]) q1 X1 (by simp) (by simp) (fun s1 y1 y2 => ?_))) self (fun τ2 _ X2 => ?_)
  · refine jE.bd (jz_put (c := 1001) q1 y1 y2 (fun z => by have := ll1 z; omega) (by decide) (by decide)) (by simp) (fun a _ z => ?_)
    refine jE.bd (jz_putW q1 z.1 z.2.1 (fun y => by have := ll1 y; rw [List.length_append]; simp; omega)) (by simp) (fun b _ z2 => ?_)
    refine jE.mono (jz_put (c := 1) q1 z2.1 z2.2.1 (fun y => by have := ll1 y; rw [List.length_append, List.length_append]; simp; omega) (by decide) (by decide)) (by simp) (fun c fc z3 => ⟨?_, z3.2.1, fun y => ?_, fun _ => ?_⟩)
    · have := z3.1
      rw [List.append_assoc, List.append_assoc] at this
      exact this
    · rw [z3.2.2 y]; simp; omega
    · rw [fc.g _ _ (by simp [jp_in])]
      exact z2.2.2.2
  clear X1
  generalize jz_ut 1 [1001, 43, 1] r1 = r2 at *
  have ll2 : ok → r2.1.length ≤ 1604 := fun z => by have := ll1 z; simp at l2; omega
  simp only [jf_X0_putUntold_B48]
  have e3 := jz_utE (o := jf_X0_isTold q 2 τ2) (st := fun s2 => jf_X0_start q 2 s2) (k := fun s3 => jf_X0_put q 1 s3) (K := fun s4 => jf_X0_putUntold_B66 s4)
  rw [e3]
  refine jE.bd (jE.ws jz_FwU (jz_utS (w := 2) (cs := [13]) q2 X2 (by simp) (by simp) (fun s1 y1 y2 => ?_))) self (fun τ3 _ X3 => jE.ret X3)
  refine jE.mono (jz_put (c := 13) q2 y1 y2 (fun z => by have := ll2 z; omega) (by decide) (by decide)) (by simp) (fun υ _ z => ⟨z.1, z.2.1, fun y => ?_, fun y => by simp at y⟩)
  exact (z.2.2 y).trans (by simp)
