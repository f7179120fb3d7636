/-! PURE: how a sum and a test are read. A state: (fault, place, codes told so far); without a fault the place stands behind blanks. -/
abbrev jq_S : Type := Nat × Nat × List Int
def jq_at (e : Nat) (st : jq_S) : Nat := if st.1 = 0 then st.2.1 else e
def jq_mv (T : Nat → Int) (e p : Nat) (st : jq_S) : jq_S := if st.1 = 0 then (0, jq_sk T e p, st.2.2) else st
def jq_fl (k p : Nat) (st : jq_S) : jq_S := if st.1 = 0 then (k, p, st.2.2) else st
def jq_em (c : Int) (st : jq_S) : jq_S := (st.1, st.2.1, st.2.2 ++ [c])
def jq_pc (T : Nat → Int) (e : Nat) (st : jq_S) : Int := jq_pk T e (jq_at e st)
def jq_pn (T : Nat → Int) (e : Nat) (st : jq_S) : Int := jq_wn T e (jq_at e st)
def jq_pb (T : Nat → Int) (e : Nat) (st : jq_S) : Nat := jq_wb T e (jq_at e st)
def jq_xs (T : Nat → Int) (e : Nat) (c : Int) (st : jq_S) : jq_S := if jq_pc T e st = c then jq_mv T e (jq_at e st + 1) st else jq_fl 1 (jq_at e st) st
/-- digits: where they end (k at most), what they are -/
def jq_ne (T : Nat → Int) (e : Nat) : Nat → Nat → Nat
  | 0, a => a
  | k + 1, a => if a < e ∧ jq_dg (T a) then jq_ne T e k (a + 1) else a
def jq_nv (T : Nat → Int) : Nat → Nat → Int → Int
  | 0, _, v => v
  | n + 1, a, v => jq_nv T n (a + 1) (10 * v + T a - 48)
/-- a number: its fault (0: none), its place (or where it ends), itself -/
def jq_nm (T : Nat → Int) (e : Nat) (lo hi : Int) (a : Nat) : Nat × Nat × Int :=
  if ¬ (a < e ∧ jq_dg (T a)) ∨ jq_pw T a then (1, a, lo)
  else if jq_ne T e 4 a < e ∧ jq_dg (T (jq_ne T e 4 a)) then (1, jq_ne T e 4 a, lo)
  else if jq_nv T (jq_ne T e 4 a - a) a 0 < lo ∨ hi < jq_nv T (jq_ne T e 4 a - a) a 0 then (2, a, lo)
  else (0, jq_ne T e 4 a, jq_nv T (jq_ne T e 4 a - a) a 0)
/-- which words may be a part, by kind of text -/
def jq_al (kind : Nat) (w : Int) : Bool := match kind with
  | 0 => [19, 20].contains w
  | 1 => [19, 15, 16, 17, 18].contains w
  | 2 => [19, 15, 16, 17, 18, 3].contains w
  | _ => [19, 15, 16, 17, 18, 3, 20, 21, 22, 23, 24, 25].contains w
def jq_cd (w : Int) : Int := if w = 19 then 40 else if w = 20 then 41 else if w = 15 then 42 else if w = 16 then 43 else if w = 17 then 44 else if w = 18 then 45 else if w = 3 then 46 else if w = 21 then 47 else if w = 22 then 48 else if w = 23 then 49 else if w = 24 then 60 else if w = 25 then 61 else if w = 30 then 5 else 6
def jq_cs (c : Int) : Int := if c = 43 then 1 else if c = 45 then 2 else if c = 42 then 3 else if c = 47 then 4 else if c = 60 then 7 else if c = 62 then 8 else 9
def jq_orL (T : Nat → Int) (e : Nat) (f : jq_S → jq_S) (w c : Int) : Nat → jq_S → jq_S
  | 0, st => st
  | n + 1, st => if jq_pn T e st = w then jq_orL T e f w c n (jq_em c (f (jq_mv T e (jq_pb T e st) st))) else st
def jq_smL (T : Nat → Int) (e : Nat) (f : jq_S → jq_S) (c1 c2 : Int) : Nat → jq_S → jq_S
  | 0, st => st
  | n + 1, st => if jq_pc T e st = c1 ∨ jq_pc T e st = c2 then jq_smL T e f c1 c2 n (jq_em (jq_cs (jq_pc T e st)) (f (jq_mv T e (jq_at e st + 1) st))) else st
abbrev jq_RC : Type := Nat → Int → Nat → jq_S → jq_S
def jq_cmp (T : Nat → Int) (e : Nat) (f : jq_S → jq_S) (st : jq_S) : jq_S :=
  if jq_pc T e st = 60 ∨ jq_pc T e st = 62 ∨ jq_pc T e st = 61 then jq_em (jq_cs (jq_pc T e st)) (f (jq_mv T e (jq_at e st + 1) st)) else jq_fl 1 (jq_at e st) st
def jq_fact (T : Nat → Int) (e : Nat) (rc : jq_RC) (o : Nat) (st : jq_S) : jq_S :=
  if jq_pn T e st = 28 then (if o < 6 then jq_em 12 (rc 2 0 (o + 1) (jq_mv T e (jq_pb T e st) st)) else jq_fl 4 (jq_at e st) st)
  else if jq_pn T e st = 29 then jq_em 13 (jq_mv T e (jq_pb T e st) st)
  else if jq_pc T e st = 91 then (if o < 6 then jq_xs T e 93 (rc 0 0 (o + 1) (jq_mv T e (jq_at e st + 1) st)) else jq_fl 4 (jq_at e st) st)
  else jq_cmp T e (rc 3 0 o) (rc 3 0 o st)
def jq_numP (T : Nat → Int) (e : Nat) (st : jq_S) : jq_S :=
  if (jq_nm T e 0 9999 (jq_at e st)).1 = 0 then jq_em (1000 + (jq_nm T e 0 9999 (jq_at e st)).2.2) (jq_mv T e (jq_nm T e 0 9999 (jq_at e st)).2.1 st)
  else jq_fl (jq_nm T e 0 9999 (jq_at e st)).1 (jq_nm T e 0 9999 (jq_at e st)).2.1 st
def jq_part (T : Nat → Int) (e : Nat) (rc : jq_RC) (o : Nat) (st : jq_S) : jq_S :=
  if jq_dg (jq_pc T e st) then jq_numP T e st
  else if jq_pc T e st = 40 then (if o < 6 then jq_xs T e 41 (rc 3 0 (o + 1) (jq_mv T e (jq_at e st + 1) st)) else jq_fl 4 (jq_at e st) st)
  else rc 6 (jq_pn T e st) o st
def jq_word (T : Nat → Int) (e kind : Nat) (rc : jq_RC) (w : Int) (o : Nat) (st : jq_S) : jq_S :=
  if w = 30 ∨ w = 31 then rc 7 w o (jq_mv T e (jq_pb T e st) st)
  else if w < 0 ∨ 31 < w ∨ jq_al kind w = false then jq_fl 1 (jq_at e st) st
  else if w = 24 ∨ w = 25 then (if o < 6 then jq_em (jq_cd w) (rc 5 0 (o + 1) (jq_mv T e (jq_pb T e st) st)) else jq_fl 4 (jq_at e st) st)
  else jq_em (jq_cd w) (jq_mv T e (jq_pb T e st) st)
def jq_pair (T : Nat → Int) (e : Nat) (rc : jq_RC) (w : Int) (o : Nat) (st : jq_S) : jq_S :=
  if jq_pc T e st = 40 then (if o < 6 then jq_em (jq_cd w) (jq_xs T e 41 (rc 3 0 (o + 1) (jq_xs T e 44 (rc 3 0 (o + 1) (jq_mv T e (jq_at e st + 1) st))))) else jq_fl 4 (jq_at e st) st)
  else jq_fl 1 (jq_at e st) st
def jq_g (T : Nat → Int) (e kind : Nat) : Nat → jq_RC
  | 0, _, _, _, st => st
  | d + 1, t, a, o, st =>
    if t = 0 then jq_orL T e (jq_g T e kind d 1 0 o) 26 11 1600 (jq_g T e kind d 1 0 o st)
    else if t = 1 then jq_orL T e (jq_g T e kind d 2 0 o) 27 10 1600 (jq_g T e kind d 2 0 o st)
    else if t = 2 then jq_fact T e (jq_g T e kind d) o st
    else if t = 3 then jq_smL T e (jq_g T e kind d 4 0 o) 43 45 1600 (jq_g T e kind d 4 0 o st)
    else if t = 4 then jq_smL T e (jq_g T e kind d 5 0 o) 42 47 1600 (jq_g T e kind d 5 0 o st)
    else if t = 5 then jq_part T e (jq_g T e kind d) o st
    else if t = 6 then jq_word T e kind (jq_g T e kind d) a o st
    else jq_pair T e (jq_g T e kind d) a o st
/-! what codes do to a stack of kinds (true: a test) -/
def jq_t1 (c : Int) (ts : List Bool) : Option (List Bool) :=
  if 1000 ≤ c then (if c ≤ 10999 then some (false :: ts) else none)
  else if 62 ≤ c then none
  else if 60 ≤ c then (match ts with | false :: r => some (false :: r) | _ => none)
  else if 50 ≤ c then none
  else if 40 ≤ c then some (false :: ts)
  else if c = 13 then some (true :: ts)
  else if c = 12 then (match ts with | true :: r => some (true :: r) | _ => none)
  else if c = 10 ∨ c = 11 then (match ts with | true :: true :: r => some (true :: r) | _ => none)
  else if 7 ≤ c ∧ c ≤ 9 then (match ts with | false :: false :: r => some (true :: r) | _ => none)
  else if 1 ≤ c ∧ c ≤ 6 then (match ts with | false :: false :: r => some (false :: r) | _ => none)
  else none
def jq_ty : List Int → List Bool → Option (List Bool)
  | [], ts => some ts
  | c :: cs, ts => (jq_t1 c ts).bind (fun q => if q.length ≤ 128 then jq_ty cs q else none)
theorem jq_ty_app : ∀ (a b : List Int) (ts : List Bool), jq_ty (a ++ b) ts = (jq_ty a ts).bind (jq_ty b) := by
  intro a
  induction a with
  | nil => intro b ts; rfl
  | cons c a ih =>
    intro b ts
    rw [List.cons_append, jq_ty, jq_ty]
    cases jq_t1 c ts with
    | none => rfl
    | some q =>
      simp only [Option.bind_some]
      by_cases h : q.length ≤ 128
      · rw [if_pos h, if_pos h, ih]
      · rw [if_neg h, if_neg h]; rfl
/-- codes that put one of kind t upon any stack, rising by h at most -/
def jq_sg (t : Bool) (h : Nat) (c : List Int) : Prop := ∀ ts : List Bool, ts.length + h ≤ 128 → jq_ty c ts = some (t :: ts)
theorem jq_sg.w {t : Bool} {h h' : Nat} {c : List Int} (q : jq_sg t h c) (w : h ≤ h') : jq_sg t h' c := fun ts l => q ts (by omega)
theorem jq_sg.one {t : Bool} {h : Nat} {c : Int} (h1 : 1 ≤ h) (q : ∀ ts, jq_t1 c ts = some (t :: ts)) : jq_sg t h [c] := by
  intro ts l
  rw [jq_ty, q, Option.bind_some, if_pos (by simp only [List.length_cons]; omega), jq_ty]
theorem jq_sg.un {t u : Bool} {h : Nat} {a : List Int} {c : Int} (h1 : 1 ≤ h) (q : jq_sg t h a) (k : ∀ ts, jq_t1 c (t :: ts) = some (u :: ts)) : jq_sg u h (a ++ [c]) := by
  intro ts l
  rw [jq_ty_app, q ts l, Option.bind_some, jq_ty, k, Option.bind_some, if_pos (by simp only [List.length_cons]; omega), jq_ty]
theorem jq_sg.bin {t u v : Bool} {h h' H : Nat} {a b : List Int} {c : Int} (q : jq_sg t h a) (q' : jq_sg u h' b) (w : h ≤ H) (w' : h' + 1 ≤ H) (k : ∀ ts, jq_t1 c (u :: t :: ts) = some (v :: ts)) : jq_sg v H (a ++ b ++ [c]) := by
  intro ts l
  rw [jq_ty_app, jq_ty_app, q ts (by omega), Option.bind_some, q' (t :: ts) (by simp only [List.length_cons]; omega), Option.bind_some, jq_ty, k, Option.bind_some, if_pos (by simp only [List.length_cons]; omega), jq_ty]
/-- a code that may stand in a text of a kind -/
def jq_cq (kind : Nat) (c : Int) : Prop := 1 ≤ c ∧ (c < 40 ∨ 1000 ≤ c ∨ ∃ w : Int, jq_al kind w = true ∧ c = jq_cd w)
/-- a state that can be -/
def jq_wf (T : Nat → Int) (e : Nat) (st : jq_S) : Prop := st.2.1 ≤ e ∧ (st.1 = 0 → jq_sk T e st.2.1 = st.2.1)
/-- what is read between two states: codes of kind t -/
def jq_rl (kind : Nat) (t : Bool) (h : Nat) (st r : jq_S) : Prop :=
  (st.1 ≠ 0 → r.1 = st.1 ∧ r.2.1 = st.2.1) ∧ (st.1 = 0 → r.1 = 0 → ∃ c, r.2.2 = st.2.2 ++ c ∧ c.length + st.2.1 ≤ r.2.1 ∧ st.2.1 < r.2.1 ∧ jq_sg t h c ∧ ∀ x ∈ c, jq_cq kind x)
theorem jq_wf.at {T : Nat → Int} {e : Nat} {st : jq_S} (h : jq_wf T e st) : jq_at e st ≤ e := by
  rw [jq_at]; split
  · exact h.1
  · exact Nat.le_refl _
theorem jq_at0 {e : Nat} {st : jq_S} (h : st.1 = 0) : jq_at e st = st.2.1 := if_pos h
theorem jq_atk {e : Nat} {st : jq_S} (h : st.1 ≠ 0) : jq_at e st = e := if_neg h
theorem jq_wf.mv {T : Nat → Int} {e p : Nat} {st : jq_S} (h : jq_wf T e st) (hp : p ≤ e) : jq_wf T e (jq_mv T e p st) := by
  rw [jq_mv]; split
  · exact ⟨jq_sk_ub hp, fun _ => jq_sk_idem⟩
  · exact h
theorem jq_wf.fl {T : Nat → Int} {e k p : Nat} {st : jq_S} (h : jq_wf T e st) (hp : p ≤ e) (hk : k ≠ 0) : jq_wf T e (jq_fl k p st) := by
  rw [jq_fl]; split
  · exact ⟨hp, fun q => absurd q hk⟩
  · exact h
theorem jq_wf.em {T : Nat → Int} {e : Nat} {c : Int} {st : jq_S} (h : jq_wf T e st) : jq_wf T e (jq_em c st) := h
theorem jq_pc_in {T : Nat → Int} {e : Nat} {st : jq_S} {c : Int} (h : jq_pc T e st = c) (hc : c ≠ -1) : st.1 = 0 ∧ st.2.1 < e ∧ T st.2.1 = c := by
  by_cases h0 : st.1 = 0
  · rw [jq_pc, jq_at0 h0, jq_pk] at h
    by_cases h1 : st.2.1 < e
    · rw [if_pos h1] at h; exact ⟨h0, h1, h⟩
    · rw [if_neg h1] at h; exact absurd h.symm hc
  · rw [jq_pc, jq_atk h0, jq_pk, if_neg (by omega)] at h
    exact absurd h.symm hc
theorem jq_bg_k {T : Nat → Int} {e : Nat} {st : jq_S} (h : jq_bg T e (jq_at e st)) : st.1 = 0 := by
  by_cases h0 : st.1 = 0
  · exact h0
  · rw [jq_atk h0] at h; exact absurd h.1 (by omega)
theorem jq_pn_in {T : Nat → Int} {e : Nat} {st : jq_S} {w : Int} (h : jq_pn T e st = w) (hw : w ≠ -1) : st.1 = 0 ∧ jq_bg T e st.2.1 ∧ jq_pb T e st = jq_we T e st.2.1 ∧ st.2.1 < jq_we T e st.2.1 := by
  rw [jq_pn, jq_wn] at h
  by_cases h1 : jq_bg T e (jq_at e st)
  · have h0 := jq_bg_k h1
    rw [jq_at0 h0] at h1
    refine ⟨h0, h1, ?_, ?_⟩
    · rw [jq_pb, jq_at0 h0, jq_wb, if_pos h1]
    · rw [jq_we_step h1.1 h1.2.1]
      exact Nat.lt_of_lt_of_le (Nat.lt_succ_self _) jq_we_ge
  · rw [if_neg h1] at h; exact absurd h.symm hw
