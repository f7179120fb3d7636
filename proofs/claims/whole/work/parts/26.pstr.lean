/-! PURE: how a street is read. Z: numbers (0 statements, 1 windows, 2 people, 3 lies, 4 rows, 5 tallow, 6 gust, 10.. where the codes begin, 20.. where they end), rows of numbers (2 homes, 3 trusts, 5 owners, 6 bases, 7, 8, 9 plan), names (1 people, 4 lies) -/
abbrev jz_Z : Type := (Nat → Int) × (Nat → Nat → Int) × (Nat → Nat → List Int)
def jz_s (Z : jz_Z) (k : Nat) (v : Int) : jz_Z := (fun j => if j = k then v else Z.1 j, Z.2.1, Z.2.2)
def jz_a (Z : jz_Z) (k : Nat) (i : Int) (v : Int) : jz_Z := (Z.1, fun j m => if j = k ∧ (m : Int) = i then v else Z.2.1 j m, Z.2.2)
def jz_n (Z : jz_Z) (k : Nat) (i : Int) (u : List Int) : jz_Z := (Z.1, Z.2.1, fun j m => if j = k ∧ (m : Int) = i then u else Z.2.2 j m)
def jz_0 : jz_Z := (fun k => if k = 5 then 100 else 0, fun _ _ => 0, fun _ _ => [])
/-- the first of n that is u -/
def jz_fi (f : Nat → List Int) (u : List Int) : Nat → Nat → Int
  | 0, _ => -1
  | n + 1, i => if f i = u then (i : Int) else jz_fi f u n (i + 1)
def jz_find (Z : jz_Z) (k : Nat) (u : List Int) : Int := jz_fi (Z.2.2 k) u (Z.1 (if k = 1 then 2 else 3)).toNat 0
def jz_name (T : Nat → Int) (e : Nat) (st : jq_S) : jq_S × List Int :=
  if jq_pb T e st = jq_at e st ∨ (0 ≤ jq_pn T e st ∧ jq_pn T e st ≤ 31) then (jq_fl 1 (jq_at e st) st, [])
  else if 6 < jq_pb T e st - jq_at e st then (jq_fl 1 (jq_at e st + 6) st, [])
  else (jq_mv T e (jq_pb T e st) st, jq_sl T (jq_at e st) (jq_pb T e st))
def jz_num (T : Nat → Int) (e : Nat) (lo hi : Int) (st : jq_S) : jq_S × Int :=
  (if (jq_nm T e lo hi (jq_at e st)).1 = 0 then jq_mv T e (jq_nm T e lo hi (jq_at e st)).2.1 st else jq_fl (jq_nm T e lo hi (jq_at e st)).1 (jq_nm T e lo hi (jq_at e st)).2.1 st, (jq_nm T e lo hi (jq_at e st)).2.2)
def jz_ew (T : Nat → Int) (e : Nat) (w : Int) (st : jq_S) : jq_S := if jq_pn T e st = w then jq_mv T e (jq_pb T e st) st else jq_fl 1 (jq_at e st) st
/-- refused: known already; none -/
def jz_rk (Z : jz_Z) (u : List Int) (na : Nat) (st : jq_S) : jq_S := if jz_find Z 1 u ≠ -1 ∨ jz_find Z 4 u ≠ -1 then jq_fl 3 na st else st
def jz_rn (i : Int) (na : Nat) (st : jq_S) : jq_S := if i = -1 then jq_fl 3 na st else st
def jz_person (T : Nat → Int) (e : Nat) (Z : jz_Z) (st : jq_S) : jq_S × jz_Z :=
  let n1 := jz_name T e st
  let st2 := jz_rk Z n1.2 (jq_at e st) n1.1
  let st3 := jz_ew T e 2 st2
  let w4 := jz_num T e 0 (Z.1 1 - 1) st3
  let st5 := jz_ew T e 3 w4.1
  let t6 := jz_num T e 0 9 st5
  (t6.1, jz_s (jz_a (jz_a (jz_n Z 1 (Z.1 2) n1.2) 2 (Z.1 2) w4.2) 3 (Z.1 2) t6.2) 2 (Z.1 2 + 1))
def jz_lie (T : Nat → Int) (e : Nat) (Z : jz_Z) (st : jq_S) : jq_S × jz_Z :=
  let n1 := jz_name T e st
  let st2 := jz_rk Z n1.2 (jq_at e st) n1.1
  let st3 := jz_ew T e 5 st2
  let n4 := jz_name T e st3
  let st5 := jz_rn (jz_find Z 1 n4.2) (jq_at e st3) n4.1
  (st5, jz_s (jz_a (jz_a (jz_n Z 4 (Z.1 3) n1.2) 5 (Z.1 3) (jz_find Z 1 n4.2)) 6 (Z.1 3) (-1)) 3 (Z.1 3 + 1))
def jz_hangs (T : Nat → Int) (e : Nat) (Z : jz_Z) (st : jq_S) : jq_S × jz_Z :=
  let n1 := jz_name T e st
  let i := jz_find Z 4 n1.2
  let st2 := jz_rn i (jq_at e st) n1.1
  let st3 := if 0 ≤ i ∧ Z.2.1 6 i.toNat ≠ -1 then jq_fl 3 (jq_at e st) st2 else st2
  let st4 := jz_ew T e 7 st3
  let n5 := jz_name T e st4
  let b := jz_find Z 4 n5.2
  let st6 := jz_rn b (jq_at e st4) n5.1
  let st7 := if i ≤ b then jq_fl 3 (jq_at e st4) st6 else st6
  (st7, jz_a Z 6 i b)
def jz_light (T : Nat → Int) (e : Nat) (Z : jz_Z) (st : jq_S) : jq_S × jz_Z :=
  let n1 := jz_name T e st
  let i := jz_find Z 4 n1.2
  let st2 := jz_rn i (jq_at e st) n1.1
  let st3 := jz_ew T e 2 st2
  let h4 := jz_num T e 0 999 st3
  let st5 := jz_ew T e 9 h4.1
  let w6 := jz_num T e 1 99 st5
  (w6.1, jz_s (jz_a (jz_a (jz_a Z 7 (Z.1 4) i) 8 (Z.1 4) h4.2) 9 (Z.1 4) w6.2) 4 (Z.1 4 + 1))
/-- the codes of kind w -/
def jz_codes (T : Nat → Int) (e w : Nat) (Z : jz_Z) (st : jq_S) : jq_S × jz_Z :=
  let r := jq_g T e w 60 (if w = 2 then 0 else 3) 0 0 st
  (r, jz_s (jz_s Z (10 + w) (st.2.2.length : Int)) (20 + w) (r.2.2.length : Int))
def jz_full (Z : jz_Z) (w : Int) : Bool :=
  if w = 1 then decide (6 ≤ Z.1 2) else if w = 4 then decide (8 ≤ Z.1 3) else if w = 8 then decide (16 ≤ Z.1 4)
  else if w = 11 then decide (Z.1 10 < Z.1 20) else if w = 12 then decide (Z.1 11 < Z.1 21) else if w = 13 then decide (Z.1 12 < Z.1 22) else false
/-- a statement behind its word w, at p its first byte -/
def jz_one (T : Nat → Int) (e : Nat) (w : Int) (p : Nat) (Z : jz_Z) (st : jq_S) : jq_S × jz_Z :=
  if w = 0 then ((jz_num T e 2 30 st).1, jz_s Z 1 (jz_num T e 2 30 st).2)
  else if w = 1 then jz_person T e Z st
  else if w = 4 then jz_lie T e Z st
  else if w = 6 then jz_hangs T e Z st
  else if w = 8 then jz_light T e Z st
  else if w = 10 then ((jz_num T e 0 999 st).1, jz_s Z 5 (jz_num T e 0 999 st).2)
  else if w = 11 then jz_codes T e 0 Z st
  else if w = 12 then jz_codes T e 1 Z st
  else if w = 13 then jz_codes T e 2 Z st
  else if w = 14 then ((jz_num T e 0 100 st).1, jz_s Z 6 (jz_num T e 0 100 st).2)
  else (jq_fl 1 p st, Z)
/-- the k-th statement -/
def jz_stm (T : Nat → Int) (e k : Nat) (Z : jz_Z) (st : jq_S) : jq_S × jz_Z :=
  if 60 ≤ k ∨ jz_full Z (jq_pn T e st) = true then (jq_fl 5 (jq_at e st) st, Z)
  else if (jq_pn T e st = 0) ↔ (k = 0) then
    (jq_xs T e 59 (jz_one T e (jq_pn T e st) (jq_at e st) Z (jq_mv T e (jq_pb T e st) st)).1, jz_s (jz_one T e (jq_pn T e st) (jq_at e st) Z (jq_mv T e (jq_pb T e st) st)).2 0 (Z.1 0 + 1))
  else (jq_fl 1 (jq_at e st) st, Z)
def jz_loop (T : Nat → Int) (e : Nat) : Nat → Nat → jq_S × jz_Z → jq_S × jz_Z
  | 0, _, r => r
  | n + 1, k, r => if jq_pc T e r.1 = -1 then r else jz_loop T e n (k + 1) (jz_stm T e k r.2 r.1)
def jz_first (T : Nat → Int) (e : Nat) : jq_S := if jq_pc T e (0, jq_sk T e 0, []) = -1 then (1, jq_sk T e 0, []) else (0, jq_sk T e 0, [])
def jz_street (T : Nat → Int) (e : Nat) : jq_S × jz_Z := jz_loop T e 61 0 (jz_first T e, jz_0)
