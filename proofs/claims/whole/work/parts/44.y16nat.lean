/-! PURE: codes told before do not matter -/
def jh_P (cs : List Int) (st : jq_S) : jq_S := (st.1, st.2.1, cs ++ st.2.2)
def jh_N (f : jq_S → jq_S) : Prop := ∀ cs st, f (jh_P cs st) = jh_P cs (f st)
theorem jh_Nmv {T : Nat → Int} {e p : Nat} (cs : List Int) (st : jq_S) : jq_mv T e p (jh_P cs st) = jh_P cs (jq_mv T e p st) := by
  rw [jq_mv, jq_mv]
  by_cases h : st.1 = 0
  · rw [if_pos h, if_pos (show (jh_P cs st).1 = 0 from h)]; rfl
  · rw [if_neg h, if_neg (show ¬ (jh_P cs st).1 = 0 from h)]
theorem jh_Nfl {k p : Nat} (cs : List Int) (st : jq_S) : jq_fl k p (jh_P cs st) = jh_P cs (jq_fl k p st) := by
  rw [jq_fl, jq_fl]
  by_cases h : st.1 = 0
  · rw [if_pos h, if_pos (show (jh_P cs st).1 = 0 from h)]; rfl
  · rw [if_neg h, if_neg (show ¬ (jh_P cs st).1 = 0 from h)]
theorem jh_Nem {c : Int} (cs : List Int) (st : jq_S) : jq_em c (jh_P cs st) = jh_P cs (jq_em c st) := by
  simp only [jq_em, jh_P, List.append_assoc]
theorem jh_Nat {e : Nat} (cs : List Int) (st : jq_S) : jq_at e (jh_P cs st) = jq_at e st := rfl
theorem jh_Npc {T : Nat → Int} {e : Nat} (cs : List Int) (st : jq_S) : jq_pc T e (jh_P cs st) = jq_pc T e st := rfl
theorem jh_Npn {T : Nat → Int} {e : Nat} (cs : List Int) (st : jq_S) : jq_pn T e (jh_P cs st) = jq_pn T e st := rfl
theorem jh_Npb {T : Nat → Int} {e : Nat} (cs : List Int) (st : jq_S) : jq_pb T e (jh_P cs st) = jq_pb T e st := rfl
theorem jh_Nxs {T : Nat → Int} {e : Nat} {c : Int} (cs : List Int) (st : jq_S) : jq_xs T e c (jh_P cs st) = jh_P cs (jq_xs T e c st) := by
  rw [jq_xs, jq_xs, jh_Npc, jh_Nat]
  split
  · exact jh_Nmv _ _
  · exact jh_Nfl _ _
theorem jh_NorL {T : Nat → Int} {e : Nat} {f : jq_S → jq_S} {w c : Int} (hf : jh_N f) : ∀ n, jh_N (jq_orL T e f w c n) := by
  intro n
  induction n with
  | zero => intro cs st; rfl
  | succ n ih =>
    intro cs st
    rw [jq_orL, jq_orL, jh_Npn, jh_Npb]
    split
    · rw [jh_Nmv, hf, jh_Nem, ih]
    · rfl
theorem jh_NsmL {T : Nat → Int} {e : Nat} {f : jq_S → jq_S} {c1 c2 : Int} (hf : jh_N f) : ∀ n, jh_N (jq_smL T e f c1 c2 n) := by
  intro n
  induction n with
  | zero => intro cs st; rfl
  | succ n ih =>
    intro cs st
    rw [jq_smL, jq_smL, jh_Npc, jh_Nat]
    split
    · rw [jh_Nmv, hf, jh_Nem, ih]
    · rfl
theorem jh_Ng {T : Nat → Int} {e kind : Nat} : ∀ (d t : Nat) (a : Int) (o : Nat), jh_N (jq_g T e kind d t a o) := by
  intro d
  induction d with
  | zero => intro t a o cs st; rfl
  | succ d ih =>
    intro t a o cs st
    rw [jq_g, jq_g]
    split
    · rw [ih, jh_NorL (ih 1 0 o)]
    · split
      · rw [ih, jh_NorL (ih 2 0 o)]
      · split
        · rw [jq_fact, jq_fact, jh_Npn, jh_Npc, jh_Npb, jh_Nat]
          split
          · split
            · rw [jh_Nmv, ih, jh_Nem]
            · exact jh_Nfl _ _
          · split
            · rw [jh_Nmv, jh_Nem]
            · split
              · split
                · rw [jh_Nmv, ih, jh_Nxs]
                · exact jh_Nfl _ _
              · rw [ih, jq_cmp, jq_cmp, jh_Npc, jh_Nat]
                split
                · rw [jh_Nmv, ih, jh_Nem]
                · exact jh_Nfl _ _
        · split
          · rw [ih, jh_NsmL (ih 4 0 o)]
          · split
            · rw [ih, jh_NsmL (ih 5 0 o)]
            · split
              · rw [jq_part, jq_part, jh_Npc, jh_Npn, jh_Nat]
                split
                · rw [jq_numP, jq_numP, jh_Nat]
                  split
                  · rw [jh_Nmv, jh_Nem]
                  · exact jh_Nfl _ _
                · split
                  · split
                    · rw [jh_Nmv, ih, jh_Nxs]
                    · exact jh_Nfl _ _
                  · exact ih _ _ _ _ _
              · split
                · rw [jq_word, jq_word, jh_Npb, jh_Nat]
                  split
                  · rw [jh_Nmv, ih]
                  · split
                    · exact jh_Nfl _ _
                    · split
                      · split
                        · rw [jh_Nmv, ih, jh_Nem]
                        · exact jh_Nfl _ _
                      · rw [jh_Nmv, jh_Nem]
                · rw [jq_pair, jq_pair, jh_Npc, jh_Nat]
                  split
                  · split
                    · rw [jh_Nmv, ih, jh_Nxs, ih, jh_Nxs, jh_Nem]
                    · exact jh_Nfl _ _
                  · exact jh_Nfl _ _
/-- codes read behind codes -/
theorem jh_g0 {T : Nat → Int} {e kind d t o : Nat} {a : Int} {st : jq_S} (h0 : st.1 = 0) : jq_g T e kind d t a o st = jh_P st.2.2 (jq_g T e kind d t a o (0, st.2.1, [])) := by
  rw [← jh_Ng]
  congr 1
  simp only [jh_P, List.append_nil]
  rw [← h0]
