theorem jl_all {Q : Nat → Prop} [DecidablePred Q] (h : ∀ x, x < 286 → Q x) {x : Nat} (hx : x < 286) : Q x := h x hx
theorem js7n_0 {x : Nat} (h : (jl_kd x).1 = 7) : jl_lk x 0 = none := (by decide +kernel : ∀ x, x < 286 → (jl_kd x).1 = 7 → jl_lk x 0 = none) x (jl_kdlt h (by decide)) h
theorem js7n_1 {x : Nat} (h : (jl_kd x).1 = 7) : jl_lk x 1 = none := (by decide +kernel : ∀ x, x < 286 → (jl_kd x).1 = 7 → jl_lk x 1 = none) x (jl_kdlt h (by decide)) h
theorem js7_2 {x : Nat} (h : (jl_kd x).1 = 7) : jl_lk x 2 = some (x + 1) := (by decide +kernel : ∀ x, x < 286 → (jl_kd x).1 = 7 → jl_lk x 2 = some (x + 1)) x (jl_kdlt h (by decide)) h
theorem js7k_2 {x : Nat} (h : (jl_kd x).1 = 7) : jl_kd (x + 1) = (20, 6) := (by decide +kernel : ∀ x, x < 286 → (jl_kd x).1 = 7 → jl_kd (x + 1) = (20, 6)) x (jl_kdlt h (by decide)) h
theorem js7_3 {x : Nat} (h : (jl_kd x).1 = 7) : jl_lk x 3 = some (x + 2) := (by decide +kernel : ∀ x, x < 286 → (jl_kd x).1 = 7 → jl_lk x 3 = some (x + 2)) x (jl_kdlt h (by decide)) h
theorem js7k_3 {x : Nat} (h : (jl_kd x).1 = 7) : jl_kd (x + 2) = (20, 8) := (by decide +kernel : ∀ x, x < 286 → (jl_kd x).1 = 7 → jl_kd (x + 2) = (20, 8)) x (jl_kdlt h (by decide)) h
theorem js7_4 {x : Nat} (h : (jl_kd x).1 = 7) : jl_lk x 4 = some (x + 3) := (by decide +kernel : ∀ x, x < 286 → (jl_kd x).1 = 7 → jl_lk x 4 = some (x + 3)) x (jl_kdlt h (by decide)) h
theorem js7k_4 {x : Nat} (h : (jl_kd x).1 = 7) : jl_kd (x + 3) = (20, 8) := (by decide +kernel : ∀ x, x < 286 → (jl_kd x).1 = 7 → jl_kd (x + 3) = (20, 8)) x (jl_kdlt h (by decide)) h
theorem js2_0 {x : Nat} (h : (jl_kd x).1 = 2) : jl_lk x 0 = some (x + 1) := (by decide +kernel : ∀ x, x < 286 → (jl_kd x).1 = 2 → jl_lk x 0 = some (x + 1)) x (jl_kdlt h (by decide)) h
theorem js2k_0 {x : Nat} (h : (jl_kd x).1 = 2) : jl_kd (x + 1) = (20, 40) := (by decide +kernel : ∀ x, x < 286 → (jl_kd x).1 = 2 → jl_kd (x + 1) = (20, 40)) x (jl_kdlt h (by decide)) h
theorem js2_1 {x : Nat} (h : (jl_kd x).1 = 2) : jl_lk x 1 = some (x + 2) := (by decide +kernel : ∀ x, x < 286 → (jl_kd x).1 = 2 → jl_lk x 1 = some (x + 2)) x (jl_kdlt h (by decide)) h
theorem js2k_1 {x : Nat} (h : (jl_kd x).1 = 2) : jl_kd (x + 2) = (20, 40) := (by decide +kernel : ∀ x, x < 286 → (jl_kd x).1 = 2 → jl_kd (x + 2) = (20, 40)) x (jl_kdlt h (by decide)) h
theorem js2n_2 {x : Nat} (h : (jl_kd x).1 = 2) : jl_lk x 2 = none := (by decide +kernel : ∀ x, x < 286 → (jl_kd x).1 = 2 → jl_lk x 2 = none) x (jl_kdlt h (by decide)) h
theorem js2n_3 {x : Nat} (h : (jl_kd x).1 = 2) : jl_lk x 3 = none := (by decide +kernel : ∀ x, x < 286 → (jl_kd x).1 = 2 → jl_lk x 3 = none) x (jl_kdlt h (by decide)) h
theorem js0_0 {x : Nat} (h : (jl_kd x).1 = 0) : jl_lk x 0 = some (x + 1) := (by decide +kernel : ∀ x, x < 286 → (jl_kd x).1 = 0 → jl_lk x 0 = some (x + 1)) x (jl_kdlt h (by decide)) h
theorem js0k_0 {x : Nat} (h : (jl_kd x).1 = 0) : jl_kd (x + 1) = (20, 1608) := (by decide +kernel : ∀ x, x < 286 → (jl_kd x).1 = 0 → jl_kd (x + 1) = (20, 1608)) x (jl_kdlt h (by decide)) h
theorem js0_1 {x : Nat} (h : (jl_kd x).1 = 0) : jl_lk x 1 = some (x + 2) := (by decide +kernel : ∀ x, x < 286 → (jl_kd x).1 = 0 → jl_lk x 1 = some (x + 2)) x (jl_kdlt h (by decide)) h
theorem js0k_1 {x : Nat} (h : (jl_kd x).1 = 0) : jl_kd (x + 2) = (20, 3) := (by decide +kernel : ∀ x, x < 286 → (jl_kd x).1 = 0 → jl_kd (x + 2) = (20, 3)) x (jl_kdlt h (by decide)) h
theorem js0_2 {x : Nat} (h : (jl_kd x).1 = 0) : jl_lk x 2 = some (x + 3) := (by decide +kernel : ∀ x, x < 286 → (jl_kd x).1 = 0 → jl_lk x 2 = some (x + 3)) x (jl_kdlt h (by decide)) h
theorem js0k_2 {x : Nat} (h : (jl_kd x).1 = 0) : jl_kd (x + 3) = (20, 3) := (by decide +kernel : ∀ x, x < 286 → (jl_kd x).1 = 0 → jl_kd (x + 3) = (20, 3)) x (jl_kdlt h (by decide)) h
theorem js0_3 {x : Nat} (h : (jl_kd x).1 = 0) : jl_lk x 3 = some (x + 4) := (by decide +kernel : ∀ x, x < 286 → (jl_kd x).1 = 0 → jl_lk x 3 = some (x + 4)) x (jl_kdlt h (by decide)) h
theorem js0k_3 {x : Nat} (h : (jl_kd x).1 = 0) : jl_kd (x + 4) = (20, 3) := (by decide +kernel : ∀ x, x < 286 → (jl_kd x).1 = 0 → jl_kd (x + 4) = (20, 3)) x (jl_kdlt h (by decide)) h
theorem js0n_4 {x : Nat} (h : (jl_kd x).1 = 0) : jl_lk x 4 = none := (by decide +kernel : ∀ x, x < 286 → (jl_kd x).1 = 0 → jl_lk x 4 = none) x (jl_kdlt h (by decide)) h
theorem js0n_5 {x : Nat} (h : (jl_kd x).1 = 0) : jl_lk x 5 = none := (by decide +kernel : ∀ x, x < 286 → (jl_kd x).1 = 0 → jl_lk x 5 = none) x (jl_kdlt h (by decide)) h
theorem js8n_0 {x : Nat} (h : (jl_kd x).1 = 8) : jl_lk x 0 = none := (by decide +kernel : ∀ x, x < 286 → (jl_kd x).1 = 8 → jl_lk x 0 = none) x (jl_kdlt h (by decide)) h
theorem js8n_1 {x : Nat} (h : (jl_kd x).1 = 8) : jl_lk x 1 = none := (by decide +kernel : ∀ x, x < 286 → (jl_kd x).1 = 8 → jl_lk x 1 = none) x (jl_kdlt h (by decide)) h
theorem js8n_2 {x : Nat} (h : (jl_kd x).1 = 8) : jl_lk x 2 = none := (by decide +kernel : ∀ x, x < 286 → (jl_kd x).1 = 8 → jl_lk x 2 = none) x (jl_kdlt h (by decide)) h
theorem js8n_3 {x : Nat} (h : (jl_kd x).1 = 8) : jl_lk x 3 = none := (by decide +kernel : ∀ x, x < 286 → (jl_kd x).1 = 8 → jl_lk x 3 = none) x (jl_kdlt h (by decide)) h
theorem js8n_4 {x : Nat} (h : (jl_kd x).1 = 8) : jl_lk x 4 = none := (by decide +kernel : ∀ x, x < 286 → (jl_kd x).1 = 8 → jl_lk x 4 = none) x (jl_kdlt h (by decide)) h
theorem js8n_5 {x : Nat} (h : (jl_kd x).1 = 8) : jl_lk x 5 = none := (by decide +kernel : ∀ x, x < 286 → (jl_kd x).1 = 8 → jl_lk x 5 = none) x (jl_kdlt h (by decide)) h
theorem js8n_6 {x : Nat} (h : (jl_kd x).1 = 8) : jl_lk x 6 = none := (by decide +kernel : ∀ x, x < 286 → (jl_kd x).1 = 8 → jl_lk x 6 = none) x (jl_kdlt h (by decide)) h
theorem js8_7 {x : Nat} (h : (jl_kd x).1 = 8) : jl_lk x 7 = some (x + 1) := (by decide +kernel : ∀ x, x < 286 → (jl_kd x).1 = 8 → jl_lk x 7 = some (x + 1)) x (jl_kdlt h (by decide)) h
theorem js8k_7 {x : Nat} (h : (jl_kd x).1 = 8) : jl_kd (x + 1) = (20, 6) := (by decide +kernel : ∀ x, x < 286 → (jl_kd x).1 = 8 → jl_kd (x + 1) = (20, 6)) x (jl_kdlt h (by decide)) h
theorem js8_8 {x : Nat} (h : (jl_kd x).1 = 8) : jl_lk x 8 = some (x + 2) := (by decide +kernel : ∀ x, x < 286 → (jl_kd x).1 = 8 → jl_lk x 8 = some (x + 2)) x (jl_kdlt h (by decide)) h
theorem js8k_8 {x : Nat} (h : (jl_kd x).1 = 8) : jl_kd (x + 2) = (20, 6) := (by decide +kernel : ∀ x, x < 286 → (jl_kd x).1 = 8 → jl_kd (x + 2) = (20, 6)) x (jl_kdlt h (by decide)) h
theorem js8_9 {x : Nat} (h : (jl_kd x).1 = 8) : jl_lk x 9 = some (x + 3) := (by decide +kernel : ∀ x, x < 286 → (jl_kd x).1 = 8 → jl_lk x 9 = some (x + 3)) x (jl_kdlt h (by decide)) h
theorem js8k_9 {x : Nat} (h : (jl_kd x).1 = 8) : jl_kd (x + 3) = (20, 6) := (by decide +kernel : ∀ x, x < 286 → (jl_kd x).1 = 8 → jl_kd (x + 3) = (20, 6)) x (jl_kdlt h (by decide)) h
theorem js8_10 {x : Nat} (h : (jl_kd x).1 = 8) : jl_lk x 10 = some (x + 4) := (by decide +kernel : ∀ x, x < 286 → (jl_kd x).1 = 8 → jl_lk x 10 = some (x + 4)) x (jl_kdlt h (by decide)) h
theorem js8k_10 {x : Nat} (h : (jl_kd x).1 = 8) : jl_kd (x + 4) = (20, 8) := (by decide +kernel : ∀ x, x < 286 → (jl_kd x).1 = 8 → jl_kd (x + 4) = (20, 8)) x (jl_kdlt h (by decide)) h
theorem js8_11 {x : Nat} (h : (jl_kd x).1 = 8) : jl_lk x 11 = some (x + 5) := (by decide +kernel : ∀ x, x < 286 → (jl_kd x).1 = 8 → jl_lk x 11 = some (x + 5)) x (jl_kdlt h (by decide)) h
theorem js8k_11 {x : Nat} (h : (jl_kd x).1 = 8) : jl_kd (x + 5) = (20, 8) := (by decide +kernel : ∀ x, x < 286 → (jl_kd x).1 = 8 → jl_kd (x + 5) = (20, 8)) x (jl_kdlt h (by decide)) h
theorem js8_12 {x : Nat} (h : (jl_kd x).1 = 8) : jl_lk x 12 = some (x + 6) := (by decide +kernel : ∀ x, x < 286 → (jl_kd x).1 = 8 → jl_lk x 12 = some (x + 6)) x (jl_kdlt h (by decide)) h
theorem js8k_12 {x : Nat} (h : (jl_kd x).1 = 8) : jl_kd (x + 6) = (20, 8) := (by decide +kernel : ∀ x, x < 286 → (jl_kd x).1 = 8 → jl_kd (x + 6) = (20, 8)) x (jl_kdlt h (by decide)) h
theorem js8_13 {x : Nat} (h : (jl_kd x).1 = 8) : jl_lk x 13 = some (x + 7) := (by decide +kernel : ∀ x, x < 286 → (jl_kd x).1 = 8 → jl_lk x 13 = some (x + 7)) x (jl_kdlt h (by decide)) h
theorem js8k_13 {x : Nat} (h : (jl_kd x).1 = 8) : jl_kd (x + 7) = (20, 16) := (by decide +kernel : ∀ x, x < 286 → (jl_kd x).1 = 8 → jl_kd (x + 7) = (20, 16)) x (jl_kdlt h (by decide)) h
theorem js8_14 {x : Nat} (h : (jl_kd x).1 = 8) : jl_lk x 14 = some (x + 8) := (by decide +kernel : ∀ x, x < 286 → (jl_kd x).1 = 8 → jl_lk x 14 = some (x + 8)) x (jl_kdlt h (by decide)) h
theorem js8k_14 {x : Nat} (h : (jl_kd x).1 = 8) : jl_kd (x + 8) = (20, 16) := (by decide +kernel : ∀ x, x < 286 → (jl_kd x).1 = 8 → jl_kd (x + 8) = (20, 16)) x (jl_kdlt h (by decide)) h
theorem js8_15 {x : Nat} (h : (jl_kd x).1 = 8) : jl_lk x 15 = some (x + 9) := (by decide +kernel : ∀ x, x < 286 → (jl_kd x).1 = 8 → jl_lk x 15 = some (x + 9)) x (jl_kdlt h (by decide)) h
theorem js8k_15 {x : Nat} (h : (jl_kd x).1 = 8) : jl_kd (x + 9) = (20, 16) := (by decide +kernel : ∀ x, x < 286 → (jl_kd x).1 = 8 → jl_kd (x + 9) = (20, 16)) x (jl_kdlt h (by decide)) h
theorem js8_16 {x : Nat} (h : (jl_kd x).1 = 8) : jl_lk x 16 = some (x + 10) := (by decide +kernel : ∀ x, x < 286 → (jl_kd x).1 = 8 → jl_lk x 16 = some (x + 10)) x (jl_kdlt h (by decide)) h
theorem js8k_16 {x : Nat} (h : (jl_kd x).1 = 8) : (jl_kd (x + 10)).1 = 0 := (by decide +kernel : ∀ x, x < 286 → (jl_kd x).1 = 8 → (jl_kd (x + 10)).1 = 0) x (jl_kdlt h (by decide)) h
theorem ja48 {i : Int} (h : 0 ≤ i ∧ i < ((20 : Nat) : Int)) : jl_lk 48 i.toNat = some (50 + 7 * i.toNat) := (by decide +kernel : ∀ j, j < 20 → jl_lk 48 j = some (50 + 7 * j)) i.toNat (by omega)
theorem ja48k {i : Int} (h : 0 ≤ i ∧ i < ((20 : Nat) : Int)) : (jl_kd (50 + 7 * i.toNat)).1 = 7 := (by decide +kernel : ∀ j, j < 20 → (jl_kd (50 + 7 * j)).1 = 7) i.toNat (by omega)
theorem ja49 {i : Int} (h : 0 ≤ i ∧ i < ((20 : Nat) : Int)) : jl_lk 49 i.toNat = some (54 + 7 * i.toNat) := (by decide +kernel : ∀ j, j < 20 → jl_lk 49 j = some (54 + 7 * j)) i.toNat (by omega)
theorem ja49k {i : Int} (h : 0 ≤ i ∧ i < ((20 : Nat) : Int)) : (jl_kd (54 + 7 * i.toNat)).1 = 2 := (by decide +kernel : ∀ j, j < 20 → (jl_kd (54 + 7 * j)).1 = 2) i.toNat (by omega)
theorem jl_klen (x : Nat) : jl_n3 (((jl_kd x).2 : Nat) : Int) := by
  have h : (jl_kd x).2 ≤ 93000 := by
    rcases Nat.lt_or_ge x 286 with q | q
    · exact (by decide +kernel : ∀ x, x < 286 → (jl_kd x).2 ≤ 93000) x q
    · rw [jl_kd_big q]; exact Nat.zero_le _
  exact ⟨by omega, by omega⟩
theorem jlk_0_0 : jl_lk 0 0 = some 1 := by decide +kernel
theorem jlk_0_1 : jl_lk 0 1 = some 3 := by decide +kernel
theorem jlk_0_2 : jl_lk 0 2 = none := by decide +kernel
theorem jlk_0_3 : jl_lk 0 3 = none := by decide +kernel
theorem jlk_0_4 : jl_lk 0 4 = some 38 := by decide +kernel
theorem jlk_0_5 : jl_lk 0 5 = some 39 := by decide +kernel
theorem jlk_0_6 : jl_lk 0 6 = some 40 := by decide +kernel
theorem jlk_0_7 : jl_lk 0 7 = some 44 := by decide +kernel
theorem jlk_0_8 : jl_lk 0 8 = some 47 := by decide +kernel
theorem jlk_0_9 : jl_lk 0 9 = some 190 := by decide +kernel
theorem jlk_0_10 : jl_lk 0 10 = some 195 := by decide +kernel
theorem jlk_0_11 : jl_lk 0 11 = some 200 := by decide +kernel
theorem jlk_0_12 : jl_lk 0 12 = some 204 := by decide +kernel
theorem jlk_0_13 : jl_lk 0 13 = none := by decide +kernel
theorem jlk_0_14 : jl_lk 0 14 = some 205 := by decide +kernel
theorem jlk_0_15 : jl_lk 0 15 = none := by decide +kernel
theorem jlk_0_16 : jl_lk 0 16 = none := by decide +kernel
theorem jlk_0_17 : jl_lk 0 17 = none := by decide +kernel
theorem jlk_1_0 : jl_lk 1 0 = some 2 := by decide +kernel
theorem jlk_1_1 : jl_lk 1 1 = none := by decide +kernel
theorem jlk_38_0 : jl_lk 38 0 = some 1 := by decide +kernel
theorem jlk_38_1 : jl_lk 38 1 = none := by decide +kernel
theorem jlk_38_2 : jl_lk 38 2 = none := by decide +kernel
theorem jlk_38_3 : jl_lk 38 3 = none := by decide +kernel
theorem jlk_38_4 : jl_lk 38 4 = none := by decide +kernel
theorem jlk_38_5 : jl_lk 38 5 = none := by decide +kernel
theorem jlk_38_6 : jl_lk 38 6 = none := by decide +kernel
theorem jlk_38_7 : jl_lk 38 7 = none := by decide +kernel
theorem jlk_38_8 : jl_lk 38 8 = none := by decide +kernel
theorem jlk_39_0 : jl_lk 39 0 = some 38 := by decide +kernel
theorem jlk_39_1 : jl_lk 39 1 = none := by decide +kernel
theorem jlk_40_0 : jl_lk 40 0 = none := by decide +kernel
theorem jlk_40_1 : jl_lk 40 1 = none := by decide +kernel
theorem jlk_40_2 : jl_lk 40 2 = some 41 := by decide +kernel
theorem jlk_40_3 : jl_lk 40 3 = some 42 := by decide +kernel
theorem jlk_40_4 : jl_lk 40 4 = some 43 := by decide +kernel
theorem jlk_44_3 : jl_lk 44 3 = none := by decide +kernel
theorem jlk_47_0 : jl_lk 47 0 = some 48 := by decide +kernel
theorem jlk_47_1 : jl_lk 47 1 = some 49 := by decide +kernel
theorem jlk_47_2 : jl_lk 47 2 = none := by decide +kernel
theorem jlk_47_3 : jl_lk 47 3 = none := by decide +kernel
theorem jlk_190_0 : jl_lk 190 0 = none := by decide +kernel
theorem jlk_190_1 : jl_lk 190 1 = some 191 := by decide +kernel
theorem jlk_190_2 : jl_lk 190 2 = some 192 := by decide +kernel
theorem jlk_190_3 : jl_lk 190 3 = some 193 := by decide +kernel
theorem jlk_190_4 : jl_lk 190 4 = some 194 := by decide +kernel
theorem jlk_195_0 : jl_lk 195 0 = some 190 := by decide +kernel
theorem jlk_195_1 : jl_lk 195 1 = some 40 := by decide +kernel
theorem jlk_195_2 : jl_lk 195 2 = some 196 := by decide +kernel
theorem jlk_195_3 : jl_lk 195 3 = none := by decide +kernel
theorem jlk_195_4 : jl_lk 195 4 = none := by decide +kernel
theorem jlk_195_5 : jl_lk 195 5 = none := by decide +kernel
theorem jlk_195_6 : jl_lk 195 6 = none := by decide +kernel
theorem jlk_195_7 : jl_lk 195 7 = none := by decide +kernel
theorem jlk_196_2 : jl_lk 196 2 = some 197 := by decide +kernel
theorem jlk_196_3 : jl_lk 196 3 = some 198 := by decide +kernel
theorem jlk_200_0 : jl_lk 200 0 = some 195 := by decide +kernel
theorem jlk_200_1 : jl_lk 200 1 = some 190 := by decide +kernel
theorem jlk_200_2 : jl_lk 200 2 = some 196 := by decide +kernel
theorem jlk_200_3 : jl_lk 200 3 = some 201 := by decide +kernel
theorem jlk_200_4 : jl_lk 200 4 = none := by decide +kernel
theorem jlk_200_5 : jl_lk 200 5 = some 202 := by decide +kernel
theorem jlk_200_6 : jl_lk 200 6 = none := by decide +kernel
theorem jlk_200_7 : jl_lk 200 7 = some 203 := by decide +kernel
theorem jlk_200_8 : jl_lk 200 8 = none := by decide +kernel
theorem jlk_200_9 : jl_lk 200 9 = none := by decide +kernel
theorem jlk_200_10 : jl_lk 200 10 = none := by decide +kernel
theorem jlk_206_0 : jl_lk 206 0 = some 207 := by decide +kernel
theorem jlk_206_1 : jl_lk 206 1 = none := by decide +kernel
theorem jlk_206_2 : jl_lk 206 2 = none := by decide +kernel
theorem jlk_206_3 : jl_lk 206 3 = none := by decide +kernel
theorem jlk_206_4 : jl_lk 206 4 = none := by decide +kernel
theorem jlk_206_5 : jl_lk 206 5 = none := by decide +kernel
theorem jlk_206_6 : jl_lk 206 6 = none := by decide +kernel
theorem jlk_206_7 : jl_lk 206 7 = none := by decide +kernel
theorem jlk_206_8 : jl_lk 206 8 = none := by decide +kernel
theorem jlk_206_9 : jl_lk 206 9 = some 208 := by decide +kernel
theorem jlk_206_10 : jl_lk 206 10 = none := by decide +kernel
theorem jlk_206_11 : jl_lk 206 11 = some 209 := by decide +kernel
theorem jlk_206_12 : jl_lk 206 12 = some 210 := by decide +kernel
theorem jlk_206_13 : jl_lk 206 13 = some 211 := by decide +kernel
theorem jlk_206_14 : jl_lk 206 14 = some 212 := by decide +kernel
theorem jlk_206_15 : jl_lk 206 15 = some 213 := by decide +kernel
theorem jlk_206_16 : jl_lk 206 16 = some 214 := by decide +kernel
theorem jlk_206_17 : jl_lk 206 17 = some 215 := by decide +kernel
theorem jlk_206_18 : jl_lk 206 18 = some 216 := by decide +kernel
theorem jlk_206_19 : jl_lk 206 19 = some 217 := by decide +kernel
theorem jlk_206_20 : jl_lk 206 20 = some 218 := by decide +kernel
theorem jlk_206_21 : jl_lk 206 21 = some 219 := by decide +kernel
theorem jlk_206_22 : jl_lk 206 22 = some 220 := by decide +kernel
theorem jlk_206_23 : jl_lk 206 23 = some 221 := by decide +kernel
theorem jlk_206_24 : jl_lk 206 24 = some 222 := by decide +kernel
theorem jlk_206_25 : jl_lk 206 25 = some 223 := by decide +kernel
theorem jlk_206_26 : jl_lk 206 26 = some 224 := by decide +kernel
theorem jlk_206_27 : jl_lk 206 27 = some 225 := by decide +kernel
theorem jlk_206_28 : jl_lk 206 28 = some 226 := by decide +kernel
theorem jlk_206_29 : jl_lk 206 29 = some 227 := by decide +kernel
theorem jlk_206_30 : jl_lk 206 30 = some 228 := by decide +kernel
theorem jlk_206_31 : jl_lk 206 31 = some 229 := by decide +kernel
theorem jlk_206_32 : jl_lk 206 32 = some 230 := by decide +kernel
theorem jlk_206_33 : jl_lk 206 33 = some 231 := by decide +kernel
theorem jlk_206_34 : jl_lk 206 34 = some 232 := by decide +kernel
theorem jlk_206_35 : jl_lk 206 35 = some 233 := by decide +kernel
theorem jlk_206_36 : jl_lk 206 36 = some 234 := by decide +kernel
theorem jlk_206_37 : jl_lk 206 37 = some 235 := by decide +kernel
theorem jlk_206_38 : jl_lk 206 38 = some 236 := by decide +kernel
theorem jlk_206_39 : jl_lk 206 39 = some 237 := by decide +kernel
theorem jlk_206_40 : jl_lk 206 40 = some 238 := by decide +kernel
theorem jlk_206_41 : jl_lk 206 41 = some 239 := by decide +kernel
theorem jlk_206_42 : jl_lk 206 42 = some 240 := by decide +kernel
theorem jlk_206_43 : jl_lk 206 43 = none := by decide +kernel
theorem jlk_206_44 : jl_lk 206 44 = some 241 := by decide +kernel
theorem jlk_206_45 : jl_lk 206 45 = some 242 := by decide +kernel
theorem jlk_206_46 : jl_lk 206 46 = some 243 := by decide +kernel
theorem jlk_206_47 : jl_lk 206 47 = some 244 := by decide +kernel
theorem jlk_206_48 : jl_lk 206 48 = some 245 := by decide +kernel
theorem jlk_206_49 : jl_lk 206 49 = some 246 := by decide +kernel
theorem jlk_206_50 : jl_lk 206 50 = some 247 := by decide +kernel
theorem jlk_206_51 : jl_lk 206 51 = some 248 := by decide +kernel
theorem jlk_206_52 : jl_lk 206 52 = none := by decide +kernel
theorem jlk_206_53 : jl_lk 206 53 = none := by decide +kernel
theorem jlk_206_54 : jl_lk 206 54 = none := by decide +kernel
theorem jlk_206_55 : jl_lk 206 55 = none := by decide +kernel
theorem jlk_206_56 : jl_lk 206 56 = some 249 := by decide +kernel
theorem jlk_206_57 : jl_lk 206 57 = none := by decide +kernel
theorem jlk_206_58 : jl_lk 206 58 = none := by decide +kernel
theorem jlk_206_59 : jl_lk 206 59 = none := by decide +kernel
theorem jlk_206_60 : jl_lk 206 60 = some 250 := by decide +kernel
theorem jlk_206_61 : jl_lk 206 61 = none := by decide +kernel
theorem jlk_206_62 : jl_lk 206 62 = some 251 := by decide +kernel
theorem jlk_206_63 : jl_lk 206 63 = none := by decide +kernel
theorem jlk_206_64 : jl_lk 206 64 = some 252 := by decide +kernel
theorem jlk_206_65 : jl_lk 206 65 = none := by decide +kernel
theorem jlk_206_66 : jl_lk 206 66 = some 253 := by decide +kernel
theorem jlk_206_67 : jl_lk 206 67 = some 254 := by decide +kernel
theorem jlk_206_68 : jl_lk 206 68 = none := by decide +kernel
theorem jlk_206_69 : jl_lk 206 69 = some 255 := by decide +kernel
theorem jlk_206_70 : jl_lk 206 70 = some 256 := by decide +kernel
theorem jlk_206_71 : jl_lk 206 71 = some 257 := by decide +kernel
theorem jlk_206_72 : jl_lk 206 72 = none := by decide +kernel
theorem jlk_206_73 : jl_lk 206 73 = none := by decide +kernel
theorem jlk_206_74 : jl_lk 206 74 = none := by decide +kernel
theorem jlk_206_75 : jl_lk 206 75 = some 258 := by decide +kernel
theorem jlk_206_76 : jl_lk 206 76 = some 259 := by decide +kernel
theorem jlk_206_77 : jl_lk 206 77 = some 260 := by decide +kernel
theorem jlk_206_78 : jl_lk 206 78 = some 261 := by decide +kernel
theorem jlk_206_79 : jl_lk 206 79 = some 262 := by decide +kernel
theorem jlk_206_80 : jl_lk 206 80 = some 263 := by decide +kernel
theorem jlk_206_81 : jl_lk 206 81 = some 264 := by decide +kernel
theorem jlk_206_82 : jl_lk 206 82 = some 265 := by decide +kernel
theorem jlk_206_83 : jl_lk 206 83 = some 266 := by decide +kernel
theorem jlk_206_84 : jl_lk 206 84 = some 267 := by decide +kernel
theorem jlk_206_85 : jl_lk 206 85 = some 268 := by decide +kernel
theorem jlk_206_86 : jl_lk 206 86 = some 269 := by decide +kernel
theorem jlk_206_87 : jl_lk 206 87 = some 270 := by decide +kernel
theorem jlk_206_88 : jl_lk 206 88 = some 271 := by decide +kernel
theorem jlk_206_89 : jl_lk 206 89 = some 272 := by decide +kernel
theorem jlk_206_90 : jl_lk 206 90 = some 273 := by decide +kernel
theorem jlk_206_91 : jl_lk 206 91 = some 274 := by decide +kernel
theorem jlk_206_92 : jl_lk 206 92 = some 275 := by decide +kernel
theorem jlk_206_93 : jl_lk 206 93 = some 276 := by decide +kernel
theorem jlk_206_94 : jl_lk 206 94 = some 277 := by decide +kernel
theorem jlk_206_95 : jl_lk 206 95 = some 278 := by decide +kernel
theorem jlk_206_96 : jl_lk 206 96 = some 279 := by decide +kernel
theorem jlk_206_97 : jl_lk 206 97 = some 280 := by decide +kernel
theorem jlk_206_98 : jl_lk 206 98 = some 281 := by decide +kernel
theorem jlk_206_99 : jl_lk 206 99 = some 282 := by decide +kernel
theorem jlk_206_100 : jl_lk 206 100 = none := by decide +kernel
theorem jlk_206_101 : jl_lk 206 101 = some 283 := by decide +kernel
theorem jlk_206_102 : jl_lk 206 102 = none := by decide +kernel
theorem jlk_206_103 : jl_lk 206 103 = none := by decide +kernel
theorem jlk_206_104 : jl_lk 206 104 = none := by decide +kernel
theorem jlk_206_105 : jl_lk 206 105 = some 284 := by decide +kernel
theorem jlk_206_106 : jl_lk 206 106 = none := by decide +kernel
theorem jlk_206_107 : jl_lk 206 107 = none := by decide +kernel
theorem jlk_206_108 : jl_lk 206 108 = none := by decide +kernel
theorem jlk_206_109 : jl_lk 206 109 = some 285 := by decide +kernel
theorem jlk_206_110 : jl_lk 206 110 = none := by decide +kernel
theorem jft_0_4 : jl_ft 0 4 = 0 := by decide +kernel
theorem jft_0_5 : jl_ft 0 5 = 0 := by decide +kernel
theorem jft_1_3 : jl_ft 1 3 = 0 := by decide +kernel
theorem jft_1_4 : jl_ft 1 4 = 0 := by decide +kernel
theorem jft_1_5 : jl_ft 1 5 = 0 := by decide +kernel
theorem jft_1_6 : jl_ft 1 6 = 0 := by decide +kernel
theorem jft_1_7 : jl_ft 1 7 = 0 := by decide +kernel
theorem jft_2_2 : jl_ft 2 2 = 0 := by decide +kernel
theorem jft_2_3 : jl_ft 2 3 = 0 := by decide +kernel
theorem jft_3_2 : jl_ft 3 2 = 0 := by decide +kernel
theorem jft_3_3 : jl_ft 3 3 = 0 := by decide +kernel
theorem jft_4_1 : jl_ft 4 1 = 2 := by decide +kernel
theorem jft_4_2 : jl_ft 4 2 = 0 := by decide +kernel
theorem jft_4_3 : jl_ft 4 3 = 0 := by decide +kernel
theorem jft_4_4 : jl_ft 4 4 = 0 := by decide +kernel
theorem jft_4_5 : jl_ft 4 5 = 0 := by decide +kernel
theorem jft_4_6 : jl_ft 4 6 = 0 := by decide +kernel
theorem jft_4_7 : jl_ft 4 7 = 0 := by decide +kernel
theorem jft_4_8 : jl_ft 4 8 = 0 := by decide +kernel
theorem jft_5_0 : jl_ft 5 0 = 2 := by decide +kernel
theorem jft_6_4 : jl_ft 6 4 = 0 := by decide +kernel
theorem jft_6_6 : jl_ft 6 6 = 0 := by decide +kernel
theorem jft_6_8 : jl_ft 6 8 = 0 := by decide +kernel
theorem jft_6_9 : jl_ft 6 9 = 0 := by decide +kernel
theorem jft_6_10 : jl_ft 6 10 = 0 := by decide +kernel
theorem jft_7_0 : jl_ft 7 0 = 0 := by decide +kernel
theorem jft_7_1 : jl_ft 7 1 = 0 := by decide +kernel
theorem jft_8_0 : jl_ft 8 0 = 0 := by decide +kernel
theorem jft_8_1 : jl_ft 8 1 = 0 := by decide +kernel
theorem jft_8_2 : jl_ft 8 2 = 0 := by decide +kernel
theorem jft_8_3 : jl_ft 8 3 = 0 := by decide +kernel
theorem jft_8_4 : jl_ft 8 4 = 0 := by decide +kernel
theorem jft_8_5 : jl_ft 8 5 = 0 := by decide +kernel
theorem jft_8_6 : jl_ft 8 6 = 0 := by decide +kernel
theorem jft_9_1 : jl_ft 9 1 = 2 := by decide +kernel
theorem jft_10_1 : jl_ft 10 1 = 0 := by decide +kernel
theorem jft_11_2 : jl_ft 11 2 = 2 := by decide +kernel
theorem jft_11_3 : jl_ft 11 3 = 2 := by decide +kernel
theorem jft_11_13 : jl_ft 11 13 = 0 := by decide +kernel
theorem jft_11_15 : jl_ft 11 15 = 0 := by decide +kernel
theorem jft_11_16 : jl_ft 11 16 = 0 := by decide +kernel
theorem jft_11_17 : jl_ft 11 17 = 0 := by decide +kernel
theorem jft_12_1 : jl_ft 12 1 = 0 := by decide +kernel
theorem jft_12_2 : jl_ft 12 2 = 0 := by decide +kernel
theorem jft_12_3 : jl_ft 12 3 = 0 := by decide +kernel
theorem jft_12_4 : jl_ft 12 4 = 0 := by decide +kernel
theorem jft_12_5 : jl_ft 12 5 = 0 := by decide +kernel
theorem jft_12_6 : jl_ft 12 6 = 0 := by decide +kernel
theorem jft_12_7 : jl_ft 12 7 = 0 := by decide +kernel
theorem jft_12_8 : jl_ft 12 8 = 0 := by decide +kernel
theorem jft_12_10 : jl_ft 12 10 = 0 := by decide +kernel
theorem jft_12_43 : jl_ft 12 43 = 0 := by decide +kernel
theorem jft_12_52 : jl_ft 12 52 = 0 := by decide +kernel
theorem jft_12_53 : jl_ft 12 53 = 0 := by decide +kernel
theorem jft_12_54 : jl_ft 12 54 = 0 := by decide +kernel
theorem jft_12_55 : jl_ft 12 55 = 0 := by decide +kernel
theorem jft_12_57 : jl_ft 12 57 = 0 := by decide +kernel
theorem jft_12_58 : jl_ft 12 58 = 0 := by decide +kernel
theorem jft_12_59 : jl_ft 12 59 = 0 := by decide +kernel
theorem jft_12_61 : jl_ft 12 61 = 0 := by decide +kernel
theorem jft_12_63 : jl_ft 12 63 = 0 := by decide +kernel
theorem jft_12_65 : jl_ft 12 65 = 0 := by decide +kernel
theorem jft_12_68 : jl_ft 12 68 = 0 := by decide +kernel
theorem jft_12_72 : jl_ft 12 72 = 0 := by decide +kernel
theorem jft_12_73 : jl_ft 12 73 = 0 := by decide +kernel
theorem jft_12_74 : jl_ft 12 74 = 1 := by decide +kernel
theorem jft_12_100 : jl_ft 12 100 = 0 := by decide +kernel
theorem jft_12_102 : jl_ft 12 102 = 0 := by decide +kernel
theorem jft_12_103 : jl_ft 12 103 = 0 := by decide +kernel
theorem jft_12_104 : jl_ft 12 104 = 0 := by decide +kernel
theorem jft_12_106 : jl_ft 12 106 = 0 := by decide +kernel
theorem jft_12_107 : jl_ft 12 107 = 1 := by decide +kernel
theorem jft_12_108 : jl_ft 12 108 = 0 := by decide +kernel
theorem jft_12_110 : jl_ft 12 110 = 0 := by decide +kernel
def jM_X10_append : jl_MC := (yX10_append, cX10_append, 3, none, { frames := 1, cells := 0, slots := 0, locals := 100 })
theorem jv_X10_append : jl_MV jM_X10_append 1 := ⟨jw_488, jw_489, jw_2, jw_490, by (show "LieCandles$Tape" ≠ _; decide +kernel), by (show "LieCandles$Tape" ≠ _; decide +kernel), by (show (parseMethodDescriptor "(I)V").map _ = _; decide +kernel)⟩
def jM_X11_refuse : jl_MC := (yX11_refuse, cX11_refuse, 2, some .int, { frames := 1, cells := 0, slots := 0, locals := 100 })
theorem jv_X11_refuse : jl_MV jM_X11_refuse 1 := ⟨jw_485, jwp_0, jw_1, jw_486, by (show "LieCandles" ≠ _; decide +kernel), by (show "LieCandles" ≠ _; decide +kernel), by (show (parseMethodDescriptor "(I)I").map _ = _; decide +kernel)⟩
def jM_X11_feed : jl_MC := (yX11_feed, cX11_feed, 6, some .int, { frames := 2, cells := 0, slots := 0, locals := 200 })
theorem jv_X11_feed : jl_MV jM_X11_feed 5 := ⟨jw_480, jw_481, jw_1, jw_482, by (show "LieCandles" ≠ _; decide +kernel), by (show "LieCandles" ≠ _; decide +kernel), by (show (parseMethodDescriptor "(IIIII)I").map _ = _; decide +kernel)⟩
def jM_X11_deny : jl_MC := (yX11_deny, cX11_deny, 2, some .boolean, { frames := 1, cells := 0, slots := 0, locals := 100 })
theorem jv_X11_deny : jl_MV jM_X11_deny 1 := ⟨jw_497, jwp_1, jw_1, jw_498, by (show "LieCandles" ≠ _; decide +kernel), by (show "LieCandles" ≠ _; decide +kernel), by (show (parseMethodDescriptor "(I)Z").map _ = _; decide +kernel)⟩
def jM_X11_end : jl_MC := (yX11_end, cX11_end, 2, some .boolean, { frames := 2, cells := 0, slots := 0, locals := 200 })
theorem jv_X11_end : jl_MV jM_X11_end 1 := ⟨jw_492, jw_493, jw_1, jw_494, by (show "LieCandles" ≠ _; decide +kernel), by (show "LieCandles" ≠ _; decide +kernel), by (show (parseMethodDescriptor "(I)Z").map _ = _; decide +kernel)⟩
def jM_X11_forgetActs : jl_MC := (yX11_forgetActs, cX11_forgetActs, 1, none, { frames := 1, cells := 0, slots := 0, locals := 100 })
theorem jv_X11_forgetActs : jl_MV jM_X11_forgetActs 0 := ⟨jw_768, jwp_22, jw_1, jw_769, by (show "LieCandles" ≠ _; decide +kernel), by (show "LieCandles" ≠ _; decide +kernel), by (show (parseMethodDescriptor "()V").map _ = _; decide +kernel)⟩
def jM_X11_takeFault : jl_MC := (yX11_takeFault, cX11_takeFault, 1, none, { frames := 1, cells := 0, slots := 0, locals := 100 })
theorem jv_X11_takeFault : jl_MV jM_X11_takeFault 0 := ⟨jw_749, jwp_21, jw_1, jw_750, by (show "LieCandles" ≠ _; decide +kernel), by (show "LieCandles" ≠ _; decide +kernel), by (show (parseMethodDescriptor "()V").map _ = _; decide +kernel)⟩
def jM_X7_setCandle : jl_MC := (yX7_setCandle, cX7_setCandle, 3, none, { frames := 1, cells := 0, slots := 0, locals := 100 })
theorem jv_X7_setCandle : jl_MV jM_X7_setCandle 2 := ⟨jw_763, jw_764, jw_7, jw_765, by (show "LieCandles$State" ≠ _; decide +kernel), by (show "LieCandles$State" ≠ _; decide +kernel), by (show (parseMethodDescriptor "(II)V").map _ = _; decide +kernel)⟩
def jM_X7_putOut : jl_MC := (yX7_putOut, cX7_putOut, 2, none, { frames := 2, cells := 0, slots := 0, locals := 200 })
theorem jv_X7_putOut : jl_MV jM_X7_putOut 1 := ⟨jw_759, jw_760, jw_7, jw_761, by (show "LieCandles$State" ≠ _; decide +kernel), by (show "LieCandles$State" ≠ _; decide +kernel), by (show (parseMethodDescriptor "(I)V").map _ = _; decide +kernel)⟩
def jM_X7_beginAt : jl_MC := (yX7_beginAt, cX7_beginAt, 3, none, { frames := 3, cells := 0, slots := 0, locals := 300 })
theorem jv_X7_beginAt : jl_MV jM_X7_beginAt 1 := ⟨jw_752, jw_753, jw_7, jw_754, by (show "LieCandles$State" ≠ _; decide +kernel), by (show "LieCandles$State" ≠ _; decide +kernel), by (show (parseMethodDescriptor "(LLieCandles$Street;)V").map _ = _; decide +kernel)⟩
def jM_X0_isTold : jl_MC := (yX0_isTold, cX0_isTold, 2, some .boolean, { frames := 1, cells := 0, slots := 0, locals := 100 })
theorem jv_X0_isTold : jl_MV jM_X0_isTold 1 := ⟨jw_604, jw_605, jw_3, jw_606, by (show "LieCandles$Code" ≠ _; decide +kernel), by (show "LieCandles$Code" ≠ _; decide +kernel), by (show (parseMethodDescriptor "(I)Z").map _ = _; decide +kernel)⟩
def jM_X0_put : jl_MC := (yX0_put, cX0_put, 2, none, { frames := 1, cells := 0, slots := 0, locals := 100 })
theorem jv_X0_put : jl_MV jM_X0_put 1 := ⟨jw_695, jw_696, jw_3, jw_697, by (show "LieCandles$Code" ≠ _; decide +kernel), by (show "LieCandles$Code" ≠ _; decide +kernel), by (show (parseMethodDescriptor "(I)V").map _ = _; decide +kernel)⟩
def jM_X0_putWord : jl_MC := (yX0_putWord, cX0_putWord, 2, none, { frames := 2, cells := 0, slots := 0, locals := 200 })
theorem jv_X0_putWord : jl_MV jM_X0_putWord 1 := ⟨jw_716, jw_717, jw_3, jw_718, by (show "LieCandles$Code" ≠ _; decide +kernel), by (show "LieCandles$Code" ≠ _; decide +kernel), by (show (parseMethodDescriptor "(I)V").map _ = _; decide +kernel)⟩
def jM_X0_start : jl_MC := (yX0_start, cX0_start, 2, none, { frames := 1, cells := 0, slots := 0, locals := 100 })
theorem jv_X0_start : jl_MV jM_X0_start 1 := ⟨jw_678, jw_679, jw_3, jw_680, by (show "LieCandles$Code" ≠ _; decide +kernel), by (show "LieCandles$Code" ≠ _; decide +kernel), by (show (parseMethodDescriptor "(I)V").map _ = _; decide +kernel)⟩
def jM_X0_putUntold : jl_MC := (yX0_putUntold, cX0_putUntold, 1, none, { frames := 3, cells := 0, slots := 0, locals := 300 })
theorem jv_X0_putUntold : jl_MV jM_X0_putUntold 0 := ⟨jw_741, jw_742, jw_3, jw_743, by (show "LieCandles$Code" ≠ _; decide +kernel), by (show "LieCandles$Code" ≠ _; decide +kernel), by (show (parseMethodDescriptor "()V").map _ = _; decide +kernel)⟩
def jM_X4_fail : jl_MC := (yX4_fail, cX4_fail, 3, none, { frames := 1, cells := 0, slots := 0, locals := 100 })
theorem jv_X4_fail : jl_MV jM_X4_fail 2 := ⟨jw_524, jw_525, jw_5, jw_526, by (show "LieCandles$Reader" ≠ _; decide +kernel), by (show "LieCandles$Reader" ≠ _; decide +kernel), by (show (parseMethodDescriptor "(II)V").map _ = _; decide +kernel)⟩
def jM_X4_peek : jl_MC := (yX4_peek, cX4_peek, 2, some .int, { frames := 1, cells := 0, slots := 0, locals := 100 })
theorem jv_X4_peek : jl_MV jM_X4_peek 0 := ⟨jw_520, jw_521, jw_5, jw_522, by (show "LieCandles$Reader" ≠ _; decide +kernel), by (show "LieCandles$Reader" ≠ _; decide +kernel), by (show (parseMethodDescriptor "()I").map _ = _; decide +kernel)⟩
def jM_X4_expectSign : jl_MC := (yX4_expectSign, cX4_expectSign, 2, none, { frames := 2, cells := 0, slots := 0, locals := 200 })
theorem jv_X4_expectSign : jl_MV jM_X4_expectSign 1 := ⟨jw_704, jw_705, jw_5, jw_706, by (show "LieCandles$Reader" ≠ _; decide +kernel), by (show "LieCandles$Reader" ≠ _; decide +kernel), by (show (parseMethodDescriptor "(I)V").map _ = _; decide +kernel)⟩
def jM_X10_byteAt : jl_MC := (yX10_byteAt, cX10_byteAt, 2, some .int, { frames := 1, cells := 0, slots := 0, locals := 100 })
theorem jv_X10_byteAt : jl_MV jM_X10_byteAt 1 := ⟨jw_536, jw_537, jw_2, jw_538, by (show "LieCandles$Tape" ≠ _; decide +kernel), by (show "LieCandles$Tape" ≠ _; decide +kernel), by (show (parseMethodDescriptor "(I)I").map _ = _; decide +kernel)⟩
def jM_X4_isInWord : jl_MC := (yX4_isInWord, cX4_isInWord, 1, some .boolean, { frames := 1, cells := 0, slots := 0, locals := 100 })
theorem jv_X4_isInWord : jl_MS jM_X4_isInWord 1 := ⟨jw_540, jw_5, jw_541, by decide +kernel, by decide +kernel, by decide +kernel⟩
def jM_X4_isLetter : jl_MC := (yX4_isLetter, cX4_isLetter, 1, some .boolean, { frames := 1, cells := 0, slots := 0, locals := 100 })
theorem jv_X4_isLetter : jl_MS jM_X4_isLetter 1 := ⟨jw_533, jw_5, jw_534, by decide +kernel, by decide +kernel, by decide +kernel⟩
def jM_X4_wordNumber : jl_MC := (yX4_wordNumber, cX4_wordNumber, 6, some .int, { frames := 6, cells := 0, slots := 0, locals := 600 })
theorem jv_X4_wordNumber : jl_MV jM_X4_wordNumber 0 := ⟨jw_544, jwp_2, jw_5, jw_545, by (show "LieCandles$Reader" ≠ _; decide +kernel), by (show "LieCandles$Reader" ≠ _; decide +kernel), by (show (parseMethodDescriptor "()I").map _ = _; decide +kernel)⟩
def jM_X4_peekWord : jl_MC := (yX4_peekWord, cX4_peekWord, 2, some .int, { frames := 7, cells := 0, slots := 0, locals := 700 })
theorem jv_X4_peekWord : jl_MV jM_X4_peekWord 0 := ⟨jw_528, jw_529, jw_5, jw_530, by (show "LieCandles$Reader" ≠ _; decide +kernel), by (show "LieCandles$Reader" ≠ _; decide +kernel), by (show (parseMethodDescriptor "()I").map _ = _; decide +kernel)⟩
def jM_X0_clear : jl_MC := (yX0_clear, cX0_clear, 2, none, { frames := 1, cells := 0, slots := 0, locals := 100 })
theorem jv_X0_clear : jl_MV jM_X0_clear 0 := ⟨jw_516, jw_517, jw_3, jw_518, by (show "LieCandles$Code" ≠ _; decide +kernel), by (show "LieCandles$Code" ≠ _; decide +kernel), by (show (parseMethodDescriptor "()V").map _ = _; decide +kernel)⟩
def jM_X4_start : jl_MC := (yX4_start, cX4_start, 2, none, { frames := 2, cells := 0, slots := 0, locals := 200 })
theorem jv_X4_start : jl_MV jM_X4_start 1 := ⟨jw_512, jw_513, jw_5, jw_514, by (show "LieCandles$Reader" ≠ _; decide +kernel), by (show "LieCandles$Reader" ≠ _; decide +kernel), by (show (parseMethodDescriptor "(LLieCandles$Code;)V").map _ = _; decide +kernel)⟩
def jM_X8_clear : jl_MC := (yX8_clear, cX8_clear, 1, none, { frames := 1, cells := 0, slots := 0, locals := 100 })
theorem jv_X8_clear : jl_MV jM_X8_clear 0 := ⟨jw_508, jw_509, jw_4, jw_510, by (show "LieCandles$Street" ≠ _; decide +kernel), by (show "LieCandles$Street" ≠ _; decide +kernel), by (show (parseMethodDescriptor "()V").map _ = _; decide +kernel)⟩
def jM_X9_isTooMany : jl_MC := (yX9_isTooMany, cX9_isTooMany, 2, some .boolean, { frames := 2, cells := 0, slots := 0, locals := 200 })
theorem jv_X9_isTooMany : jl_MV jM_X9_isTooMany 1 := ⟨jw_601, jwp_4, jw_6, jw_602, by (show "LieCandles$StreetReader" ≠ _; decide +kernel), by (show "LieCandles$StreetReader" ≠ _; decide +kernel), by (show (parseMethodDescriptor "(I)Z").map _ = _; decide +kernel)⟩
def jM_X9_faultOf : jl_MC := (yX9_faultOf, cX9_faultOf, 3, some .int, { frames := 3, cells := 0, slots := 0, locals := 300 })
theorem jv_X9_faultOf : jl_MV jM_X9_faultOf 2 := ⟨jw_597, jwp_3, jw_6, jw_598, by (show "LieCandles$StreetReader" ≠ _; decide +kernel), by (show "LieCandles$StreetReader" ≠ _; decide +kernel), by (show (parseMethodDescriptor "(II)I").map _ = _; decide +kernel)⟩
def jM_X4_allow : jl_MC := (yX4_allow, cX4_allow, 3, none, { frames := 2, cells := 0, slots := 0, locals := 200 })
theorem jv_X4_allow : jl_MV jM_X4_allow 2 := ⟨jw_674, jw_675, jw_5, jw_676, by (show "LieCandles$Reader" ≠ _; decide +kernel), by (show "LieCandles$Reader" ≠ _; decide +kernel), by (show (parseMethodDescriptor "(II)V").map _ = _; decide +kernel)⟩
def jM_X4_takeWord : jl_MC := (yX4_takeWord, cX4_takeWord, 2, some .boolean, { frames := 8, cells := 0, slots := 0, locals := 800 })
theorem jv_X4_takeWord : jl_MV jM_X4_takeWord 1 := ⟨jw_736, jw_737, jw_5, jw_738, by (show "LieCandles$Reader" ≠ _; decide +kernel), by (show "LieCandles$Reader" ≠ _; decide +kernel), by (show (parseMethodDescriptor "(I)Z").map _ = _; decide +kernel)⟩
def jM_X4_open : jl_MC := (yX4_open, cX4_open, 2, some .boolean, { frames := 2, cells := 0, slots := 0, locals := 200 })
theorem jv_X4_open : jl_MV jM_X4_open 1 := ⟨jw_700, jwp_15, jw_5, jw_701, by (show "LieCandles$Reader" ≠ _; decide +kernel), by (show "LieCandles$Reader" ≠ _; decide +kernel), by (show (parseMethodDescriptor "(I)Z").map _ = _; decide +kernel)⟩
def jM_X4_isDigit : jl_MC := (yX4_isDigit, cX4_isDigit, 1, some .boolean, { frames := 1, cells := 0, slots := 0, locals := 100 })
theorem jv_X4_isDigit : jl_MS jM_X4_isDigit 1 := ⟨jw_616, jw_5, jw_617, by decide +kernel, by decide +kernel, by decide +kernel⟩
def jM_X4_takeNumber : jl_MC := (yX4_takeNumber, cX4_takeNumber, 6, some .int, { frames := 2, cells := 0, slots := 0, locals := 200 })
theorem jv_X4_takeNumber : jl_MV jM_X4_takeNumber 2 := ⟨jw_612, jw_613, jw_5, jw_614, by (show "LieCandles$Reader" ≠ _; decide +kernel), by (show "LieCandles$Reader" ≠ _; decide +kernel), by (show (parseMethodDescriptor "(II)I").map _ = _; decide +kernel)⟩
def jM_X4_test (d : Nat) : jl_MC := (yX4_test, cX4_test, 2, none, { frames := 9 + d, cells := 0, slots := 0, locals := 100 * (9 + d) })
theorem jv_X4_test (d : Nat) : jl_MV (jM_X4_test d) 0 := ⟨jw_724, jwp_18, jw_5, jw_725, by (show "LieCandles$Reader" ≠ _; decide +kernel), by (show "LieCandles$Reader" ≠ _; decide +kernel), by (show (parseMethodDescriptor "()V").map _ = _; decide +kernel)⟩
def jM_X4_both (d : Nat) : jl_MC := (yX4_both, cX4_both, 2, none, { frames := 9 + d, cells := 0, slots := 0, locals := 100 * (9 + d) })
theorem jv_X4_both (d : Nat) : jl_MV (jM_X4_both d) 0 := ⟨jw_728, jwp_19, jw_5, jw_729, by (show "LieCandles$Reader" ≠ _; decide +kernel), by (show "LieCandles$Reader" ≠ _; decide +kernel), by (show (parseMethodDescriptor "()V").map _ = _; decide +kernel)⟩
def jM_X4_fact (d : Nat) : jl_MC := (yX4_fact, cX4_fact, 3, none, { frames := 9 + d, cells := 0, slots := 0, locals := 100 * (9 + d) })
theorem jv_X4_fact (d : Nat) : jl_MV (jM_X4_fact d) 0 := ⟨jw_732, jwp_20, jw_5, jw_733, by (show "LieCandles$Reader" ≠ _; decide +kernel), by (show "LieCandles$Reader" ≠ _; decide +kernel), by (show (parseMethodDescriptor "()V").map _ = _; decide +kernel)⟩
def jM_X4_sum (d : Nat) : jl_MC := (yX4_sum, cX4_sum, 3, none, { frames := 9 + d, cells := 0, slots := 0, locals := 100 * (9 + d) })
theorem jv_X4_sum (d : Nat) : jl_MV (jM_X4_sum d) 0 := ⟨jw_683, jwp_12, jw_5, jw_684, by (show "LieCandles$Reader" ≠ _; decide +kernel), by (show "LieCandles$Reader" ≠ _; decide +kernel), by (show (parseMethodDescriptor "()V").map _ = _; decide +kernel)⟩
def jM_X4_product (d : Nat) : jl_MC := (yX4_product, cX4_product, 3, none, { frames := 9 + d, cells := 0, slots := 0, locals := 100 * (9 + d) })
theorem jv_X4_product (d : Nat) : jl_MV (jM_X4_product d) 0 := ⟨jw_687, jwp_13, jw_5, jw_688, by (show "LieCandles$Reader" ≠ _; decide +kernel), by (show "LieCandles$Reader" ≠ _; decide +kernel), by (show (parseMethodDescriptor "()V").map _ = _; decide +kernel)⟩
def jM_X4_part (d : Nat) : jl_MC := (yX4_part, cX4_part, 2, none, { frames := 9 + d, cells := 0, slots := 0, locals := 100 * (9 + d) })
theorem jv_X4_part (d : Nat) : jl_MV (jM_X4_part d) 0 := ⟨jw_691, jwp_14, jw_5, jw_692, by (show "LieCandles$Reader" ≠ _; decide +kernel), by (show "LieCandles$Reader" ≠ _; decide +kernel), by (show (parseMethodDescriptor "()V").map _ = _; decide +kernel)⟩
def jM_X4_wordPart (d : Nat) : jl_MC := (yX4_wordPart, cX4_wordPart, 2, none, { frames := 9 + d, cells := 0, slots := 0, locals := 100 * (9 + d) })
theorem jv_X4_wordPart (d : Nat) : jl_MV (jM_X4_wordPart d) 1 := ⟨jw_709, jwp_16, jw_5, jw_710, by (show "LieCandles$Reader" ≠ _; decide +kernel), by (show "LieCandles$Reader" ≠ _; decide +kernel), by (show (parseMethodDescriptor "(I)V").map _ = _; decide +kernel)⟩
def jM_X4_pairPart (d : Nat) : jl_MC := (yX4_pairPart, cX4_pairPart, 2, none, { frames := 9 + d, cells := 0, slots := 0, locals := 100 * (9 + d) })
theorem jv_X4_pairPart (d : Nat) : jl_MV (jM_X4_pairPart d) 1 := ⟨jw_713, jwp_17, jw_5, jw_714, by (show "LieCandles$Reader" ≠ _; decide +kernel), by (show "LieCandles$Reader" ≠ _; decide +kernel), by (show (parseMethodDescriptor "(I)V").map _ = _; decide +kernel)⟩
def jM_X4_expectWord : jl_MC := (yX4_expectWord, cX4_expectWord, 2, none, { frames := 8, cells := 0, slots := 0, locals := 800 })
theorem jv_X4_expectWord : jl_MV jM_X4_expectWord 1 := ⟨jw_641, jw_642, jw_5, jw_643, by (show "LieCandles$Reader" ≠ _; decide +kernel), by (show "LieCandles$Reader" ≠ _; decide +kernel), by (show (parseMethodDescriptor "(I)V").map _ = _; decide +kernel)⟩
def jM_X4_takeName : jl_MC := (yX4_takeName, cX4_takeName, 4, some .int, { frames := 8, cells := 0, slots := 0, locals := 800 })
theorem jv_X4_takeName : jl_MV jM_X4_takeName 0 := ⟨jw_624, jw_625, jw_5, jw_626, by (show "LieCandles$Reader" ≠ _; decide +kernel), by (show "LieCandles$Reader" ≠ _; decide +kernel), by (show (parseMethodDescriptor "()I").map _ = _; decide +kernel)⟩
def jM_X8_lieNamed : jl_MC := (yX8_lieNamed, cX8_lieNamed, 3, some .int, { frames := 1, cells := 0, slots := 0, locals := 100 })
theorem jv_X8_lieNamed : jl_MV jM_X8_lieNamed 1 := ⟨jw_637, jw_638, jw_4, jw_639, by (show "LieCandles$Street" ≠ _; decide +kernel), by (show "LieCandles$Street" ≠ _; decide +kernel), by (show (parseMethodDescriptor "(I)I").map _ = _; decide +kernel)⟩
def jM_X9_refuseNone : jl_MC := (yX9_refuseNone, cX9_refuseNone, 2, none, { frames := 2, cells := 0, slots := 0, locals := 200 })
theorem jv_X9_refuseNone : jl_MV jM_X9_refuseNone 1 := ⟨jw_654, jwp_9, jw_6, jw_655, by (show "LieCandles$StreetReader" ≠ _; decide +kernel), by (show "LieCandles$StreetReader" ≠ _; decide +kernel), by (show (parseMethodDescriptor "(I)V").map _ = _; decide +kernel)⟩
def jM_X9_readHangs : jl_MC := (yX9_readHangs, cX9_readHangs, 3, none, { frames := 9, cells := 0, slots := 0, locals := 900 })
theorem jv_X9_readHangs : jl_MV jM_X9_readHangs 0 := ⟨jw_662, jwp_10, jw_6, jw_663, by (show "LieCandles$StreetReader" ≠ _; decide +kernel), by (show "LieCandles$StreetReader" ≠ _; decide +kernel), by (show (parseMethodDescriptor "()V").map _ = _; decide +kernel)⟩
def jM_X8_addLie : jl_MC := (yX8_addLie, cX8_addLie, 3, none, { frames := 1, cells := 0, slots := 0, locals := 100 })
theorem jv_X8_addLie : jl_MV jM_X8_addLie 2 := ⟨jw_657, jw_658, jw_4, jw_659, by (show "LieCandles$Street" ≠ _; decide +kernel), by (show "LieCandles$Street" ≠ _; decide +kernel), by (show (parseMethodDescriptor "(II)V").map _ = _; decide +kernel)⟩
def jM_X8_personNamed : jl_MC := (yX8_personNamed, cX8_personNamed, 3, some .int, { frames := 1, cells := 0, slots := 0, locals := 100 })
theorem jv_X8_personNamed : jl_MV jM_X8_personNamed 1 := ⟨jw_633, jw_634, jw_4, jw_635, by (show "LieCandles$Street" ≠ _; decide +kernel), by (show "LieCandles$Street" ≠ _; decide +kernel), by (show (parseMethodDescriptor "(I)I").map _ = _; decide +kernel)⟩
def jM_X9_refuseKnown : jl_MC := (yX9_refuseKnown, cX9_refuseKnown, 2, none, { frames := 2, cells := 0, slots := 0, locals := 200 })
theorem jv_X9_refuseKnown : jl_MV jM_X9_refuseKnown 1 := ⟨jw_630, jwp_7, jw_6, jw_631, by (show "LieCandles$StreetReader" ≠ _; decide +kernel), by (show "LieCandles$StreetReader" ≠ _; decide +kernel), by (show (parseMethodDescriptor "(I)V").map _ = _; decide +kernel)⟩
def jM_X9_readLie : jl_MC := (yX9_readLie, cX9_readLie, 3, none, { frames := 9, cells := 0, slots := 0, locals := 900 })
theorem jv_X9_readLie : jl_MV jM_X9_readLie 0 := ⟨jw_650, jwp_8, jw_6, jw_651, by (show "LieCandles$StreetReader" ≠ _; decide +kernel), by (show "LieCandles$StreetReader" ≠ _; decide +kernel), by (show (parseMethodDescriptor "()V").map _ = _; decide +kernel)⟩
def jM_X8_addRow : jl_MC := (yX8_addRow, cX8_addRow, 4, none, { frames := 1, cells := 0, slots := 0, locals := 100 })
theorem jv_X8_addRow : jl_MV jM_X8_addRow 3 := ⟨jw_669, jw_670, jw_4, jw_671, by (show "LieCandles$Street" ≠ _; decide +kernel), by (show "LieCandles$Street" ≠ _; decide +kernel), by (show (parseMethodDescriptor "(III)V").map _ = _; decide +kernel)⟩
def jM_X9_readLight : jl_MC := (yX9_readLight, cX9_readLight, 4, none, { frames := 9, cells := 0, slots := 0, locals := 900 })
theorem jv_X9_readLight : jl_MV jM_X9_readLight 0 := ⟨jw_666, jwp_11, jw_6, jw_667, by (show "LieCandles$StreetReader" ≠ _; decide +kernel), by (show "LieCandles$StreetReader" ≠ _; decide +kernel), by (show (parseMethodDescriptor "()V").map _ = _; decide +kernel)⟩
def jM_X8_addPerson : jl_MC := (yX8_addPerson, cX8_addPerson, 4, none, { frames := 1, cells := 0, slots := 0, locals := 100 })
theorem jv_X8_addPerson : jl_MV jM_X8_addPerson 3 := ⟨jw_645, jw_646, jw_4, jw_647, by (show "LieCandles$Street" ≠ _; decide +kernel), by (show "LieCandles$Street" ≠ _; decide +kernel), by (show (parseMethodDescriptor "(III)V").map _ = _; decide +kernel)⟩
def jM_X9_readPerson : jl_MC := (yX9_readPerson, cX9_readPerson, 4, none, { frames := 9, cells := 0, slots := 0, locals := 900 })
theorem jv_X9_readPerson : jl_MV jM_X9_readPerson 0 := ⟨jw_621, jwp_6, jw_6, jw_622, by (show "LieCandles$StreetReader" ≠ _; decide +kernel), by (show "LieCandles$StreetReader" ≠ _; decide +kernel), by (show (parseMethodDescriptor "()V").map _ = _; decide +kernel)⟩
def jM_X9_readOne : jl_MC := (yX9_readOne, cX9_readOne, 3, none, { frames := 71, cells := 0, slots := 0, locals := 7100 })
theorem jv_X9_readOne : jl_MV jM_X9_readOne 1 := ⟨jw_609, jwp_5, jw_6, jw_610, by (show "LieCandles$StreetReader" ≠ _; decide +kernel), by (show "LieCandles$StreetReader" ≠ _; decide +kernel), by (show (parseMethodDescriptor "(I)V").map _ = _; decide +kernel)⟩
def jM_X9_readAll : jl_MC := (yX9_readAll, cX9_readAll, 5, none, { frames := 72, cells := 0, slots := 0, locals := 7200 })
theorem jv_X9_readAll : jl_MV jM_X9_readAll 1 := ⟨jw_504, jw_505, jw_6, jw_506, by (show "LieCandles$StreetReader" ≠ _; decide +kernel), by (show "LieCandles$StreetReader" ≠ _; decide +kernel), by (show (parseMethodDescriptor "(LLieCandles$Street;)V").map _ = _; decide +kernel)⟩
def jM_X11_street : jl_MC := (yX11_street, cX11_street, 2, some .int, { frames := 73, cells := 0, slots := 0, locals := 7300 })
theorem jv_X11_street : jl_MV jM_X11_street 0 := ⟨jw_500, jw_501, jw_1, jw_502, by (show "LieCandles" ≠ _; decide +kernel), by (show "LieCandles" ≠ _; decide +kernel), by (show (parseMethodDescriptor "()I").map _ = _; decide +kernel)⟩
def jM_X11_fault : jl_MC := (yX11_fault, cX11_fault, 2, some .int, { frames := 1, cells := 0, slots := 0, locals := 100 })
theorem jv_X11_fault : jl_MV jM_X11_fault 1 := ⟨jw_772, jw_773, jw_1, jw_774, by (show "LieCandles" ≠ _; decide +kernel), by (show "LieCandles" ≠ _; decide +kernel), by (show (parseMethodDescriptor "(I)I").map _ = _; decide +kernel)⟩
def jM_J6_bitCount_0f7a4 : jl_MC := (yJ6_bitCount_0f7a4, cJ6_bitCount_0f7a4, 1, some .int, { frames := 1, cells := 0, slots := 0, locals := 100 })
theorem jv_J6_bitCount_0f7a4 : jl_MS jM_J6_bitCount_0f7a4 1 := ⟨jw_784, jw_19, jw_785, by decide +kernel, by decide +kernel, by decide +kernel⟩
def jM_J9_max_7cf53 : jl_MC := (yJ9_max_7cf53, cJ9_max_7cf53, 2, some .int, { frames := 1, cells := 0, slots := 0, locals := 100 })
theorem jv_J9_max_7cf53 : jl_MS jM_J9_max_7cf53 2 := ⟨jw_824, jw_20, jw_825, by decide +kernel, by decide +kernel, by decide +kernel⟩
def jM_J9_min_7cf53 : jl_MC := (yJ9_min_7cf53, cJ9_min_7cf53, 2, some .int, { frames := 1, cells := 0, slots := 0, locals := 100 })
theorem jv_J9_min_7cf53 : jl_MS jM_J9_min_7cf53 2 := ⟨jw_821, jw_20, jw_822, by decide +kernel, by decide +kernel, by decide +kernel⟩
def jM_X5_draughtyBy : jl_MC := (yX5_draughtyBy, cX5_draughtyBy, 1, some .int, { frames := 2, cells := 0, slots := 0, locals := 200 })
theorem jv_X5_draughtyBy : jl_MS jM_X5_draughtyBy 1 := ⟨jw_818, jw_10, jw_819, by decide +kernel, by decide +kernel, by decide +kernel⟩
def jM_X5_nearTo : jl_MC := (yX5_nearTo, cX5_nearTo, 7, some .int, { frames := 1, cells := 0, slots := 0, locals := 100 })
theorem jv_X5_nearTo : jl_MV jM_X5_nearTo 2 := ⟨jw_798, jw_799, jw_10, jw_800, by (show "LieCandles$Reckoner" ≠ _; decide +kernel), by (show "LieCandles$Reckoner" ≠ _; decide +kernel), by (show (parseMethodDescriptor "(LLieCandles$State;I)I").map _ = _; decide +kernel)⟩
def jM_X5_ofOne : jl_MC := (yX5_ofOne, cX5_ofOne, 4, some .int, { frames := 1, cells := 0, slots := 0, locals := 100 })
theorem jv_X5_ofOne : jl_MV jM_X5_ofOne 3 := ⟨jw_807, jwp_25, jw_10, jw_808, by (show "LieCandles$Reckoner" ≠ _; decide +kernel), by (show "LieCandles$Reckoner" ≠ _; decide +kernel), by (show (parseMethodDescriptor "(LLieCandles$State;II)I").map _ = _; decide +kernel)⟩
def jM_J9_floorDiv_7cf53 : jl_MC := (yJ9_floorDiv_7cf53, cJ9_floorDiv_7cf53, 3, some .int, { frames := 1, cells := 0, slots := 0, locals := 100 })
theorem jv_J9_floorDiv_7cf53 : jl_MS jM_J9_floorDiv_7cf53 2 := ⟨jw_813, jw_20, jw_814, by decide +kernel, by decide +kernel, by decide +kernel⟩
def jM_X5_ofTwo : jl_MC := (yX5_ofTwo, cX5_ofTwo, 5, some .int, { frames := 2, cells := 0, slots := 0, locals := 200 })
theorem jv_X5_ofTwo : jl_MS jM_X5_ofTwo 3 := ⟨jw_810, jw_10, jw_811, by decide +kernel, by decide +kernel, by decide +kernel⟩
def jM_X5_run : jl_MC := (yX5_run, cX5_run, 8, some .int, { frames := 3, cells := 0, slots := 0, locals := 300 })
theorem jv_X5_run : jl_MV jM_X5_run 3 := ⟨jw_803, jwp_24, jw_10, jw_804, by (show "LieCandles$Reckoner" ≠ _; decide +kernel), by (show "LieCandles$Reckoner" ≠ _; decide +kernel), by (show (parseMethodDescriptor "(LLieCandles$State;LLieCandles$Code;I)I").map _ = _; decide +kernel)⟩
def jM_X5_reckon : jl_MC := (yX5_reckon, cX5_reckon, 7, some .int, { frames := 4, cells := 0, slots := 0, locals := 400 })
theorem jv_X5_reckon : jl_MV jM_X5_reckon 4 := ⟨jw_795, jwp_23, jw_10, jw_796, by (show "LieCandles$Reckoner" ≠ _; decide +kernel), by (show "LieCandles$Reckoner" ≠ _; decide +kernel), by (show (parseMethodDescriptor "(LLieCandles$State;ILLieCandles$Code;I)I").map _ = _; decide +kernel)⟩
def jM_X5_believed : jl_MC := (yX5_believed, cX5_believed, 6, some .int, { frames := 5, cells := 0, slots := 0, locals := 500 })
theorem jv_X5_believed : jl_MV jM_X5_believed 1 := ⟨jw_790, jw_791, jw_10, jw_792, by (show "LieCandles$Reckoner" ≠ _; decide +kernel), by (show "LieCandles$Reckoner" ≠ _; decide +kernel), by (show (parseMethodDescriptor "(LLieCandles$State;)I").map _ = _; decide +kernel)⟩
def jM_X5_litLies : jl_MC := (yX5_litLies, cX5_litLies, 4, some .int, { frames := 1, cells := 0, slots := 0, locals := 100 })
theorem jv_X5_litLies : jl_MV jM_X5_litLies 1 := ⟨jw_780, jw_781, jw_10, jw_782, by (show "LieCandles$Reckoner" ≠ _; decide +kernel), by (show "LieCandles$Reckoner" ≠ _; decide +kernel), by (show (parseMethodDescriptor "(LLieCandles$State;)I").map _ = _; decide +kernel)⟩
def jM_X11_has : jl_MC := (yX11_has, cX11_has, 2, some .int, { frames := 6, cells := 0, slots := 0, locals := 600 })
theorem jv_X11_has : jl_MV jM_X11_has 1 := ⟨jw_776, jw_777, jw_1, jw_778, by (show "LieCandles" ≠ _; decide +kernel), by (show "LieCandles" ≠ _; decide +kernel), by (show (parseMethodDescriptor "(I)I").map _ = _; decide +kernel)⟩
def jM_X11_isLie : jl_MC := (yX11_isLie, cX11_isLie, 2, some .boolean, { frames := 1, cells := 0, slots := 0, locals := 100 })
theorem jv_X11_isLie : jl_MV jM_X11_isLie 1 := ⟨jw_839, jwp_27, jw_1, jw_840, by (show "LieCandles" ≠ _; decide +kernel), by (show "LieCandles" ≠ _; decide +kernel), by (show (parseMethodDescriptor "(I)Z").map _ = _; decide +kernel)⟩
def jM_X11_isPerson : jl_MC := (yX11_isPerson, cX11_isPerson, 2, some .boolean, { frames := 1, cells := 0, slots := 0, locals := 100 })
theorem jv_X11_isPerson : jl_MV jM_X11_isPerson 1 := ⟨jw_832, jwp_26, jw_1, jw_833, by (show "LieCandles" ≠ _; decide +kernel), by (show "LieCandles" ≠ _; decide +kernel), by (show (parseMethodDescriptor "(I)Z").map _ = _; decide +kernel)⟩
def jM_X11_letterOf : jl_MC := (yX11_letterOf, cX11_letterOf, 2, some .int, { frames := 1, cells := 0, slots := 0, locals := 100 })
theorem jv_X11_letterOf : jl_MS jM_X11_letterOf 2 := ⟨jw_835, jw_1, jw_836, by decide +kernel, by decide +kernel, by decide +kernel⟩
def jM_X11_letter : jl_MC := (yX11_letter, cX11_letter, 4, some .int, { frames := 2, cells := 0, slots := 0, locals := 200 })
theorem jv_X11_letter : jl_MV jM_X11_letter 3 := ⟨jw_827, jw_828, jw_1, jw_829, by (show "LieCandles" ≠ _; decide +kernel), by (show "LieCandles" ≠ _; decide +kernel), by (show (parseMethodDescriptor "(III)I").map _ = _; decide +kernel)⟩
def jM_X5_litOf : jl_MC := (yX5_litOf, cX5_litOf, 5, some .int, { frames := 1, cells := 0, slots := 0, locals := 100 })
theorem jv_X5_litOf : jl_MV jM_X5_litOf 2 := ⟨jw_846, jw_847, jw_10, jw_848, by (show "LieCandles$Reckoner" ≠ _; decide +kernel), by (show "LieCandles$Reckoner" ≠ _; decide +kernel), by (show (parseMethodDescriptor "(LLieCandles$State;I)I").map _ = _; decide +kernel)⟩
def jM_X11_person : jl_MC := (yX11_person, cX11_person, 3, some .int, { frames := 2, cells := 0, slots := 0, locals := 200 })
theorem jv_X11_person : jl_MV jM_X11_person 2 := ⟨jw_842, jw_843, jw_1, jw_844, by (show "LieCandles" ≠ _; decide +kernel), by (show "LieCandles" ≠ _; decide +kernel), by (show (parseMethodDescriptor "(II)I").map _ = _; decide +kernel)⟩
def jM_X8_hanging : jl_MC := (yX8_hanging, cX8_hanging, 4, some .int, { frames := 1, cells := 0, slots := 0, locals := 100 })
theorem jv_X8_hanging : jl_MV jM_X8_hanging 1 := ⟨jw_854, jw_855, jw_4, jw_856, by (show "LieCandles$Street" ≠ _; decide +kernel), by (show "LieCandles$Street" ≠ _; decide +kernel), by (show (parseMethodDescriptor "(I)I").map _ = _; decide +kernel)⟩
def jM_X11_lie : jl_MC := (yX11_lie, cX11_lie, 3, some .int, { frames := 6, cells := 0, slots := 0, locals := 600 })
theorem jv_X11_lie : jl_MV jM_X11_lie 2 := ⟨jw_850, jw_851, jw_1, jw_852, by (show "LieCandles" ≠ _; decide +kernel), by (show "LieCandles" ≠ _; decide +kernel), by (show (parseMethodDescriptor "(II)I").map _ = _; decide +kernel)⟩
def jM_X1_reach : jl_MC := (yX1_reach, cX1_reach, 2, some .int, { frames := 2, cells := 0, slots := 0, locals := 200 })
theorem jv_X1_reach : jl_MV jM_X1_reach 1 := ⟨jw_871, jw_872, jw_11, jw_873, by (show "LieCandles$Foresight" ≠ _; decide +kernel), by (show "LieCandles$Foresight" ≠ _; decide +kernel), by (show (parseMethodDescriptor "(I)I").map _ = _; decide +kernel)⟩
def jM_X1_comes : jl_MC := (yX1_comes, cX1_comes, 4, some .boolean, { frames := 3, cells := 0, slots := 0, locals := 300 })
theorem jv_X1_comes : jl_MV jM_X1_comes 3 := ⟨jw_867, jw_868, jw_11, jw_869, by (show "LieCandles$Foresight" ≠ _; decide +kernel), by (show "LieCandles$Foresight" ≠ _; decide +kernel), by (show (parseMethodDescriptor "(III)Z").map _ = _; decide +kernel)⟩
def jM_X11_isWindow : jl_MC := (yX11_isWindow, cX11_isWindow, 2, some .boolean, { frames := 1, cells := 0, slots := 0, locals := 100 })
theorem jv_X11_isWindow : jl_MV jM_X11_isWindow 1 := ⟨jw_864, jwp_28, jw_1, jw_865, by (show "LieCandles" ≠ _; decide +kernel), by (show "LieCandles" ≠ _; decide +kernel), by (show (parseMethodDescriptor "(I)Z").map _ = _; decide +kernel)⟩
def jM_X5_draughty : jl_MC := (yX5_draughty, cX5_draughty, 4, some .int, { frames := 4, cells := 0, slots := 0, locals := 400 })
theorem jv_X5_draughty : jl_MV jM_X5_draughty 3 := ⟨jw_876, jw_877, jw_10, jw_878, by (show "LieCandles$Reckoner" ≠ _; decide +kernel), by (show "LieCandles$Reckoner" ≠ _; decide +kernel), by (show (parseMethodDescriptor "(LLieCandles$State;II)I").map _ = _; decide +kernel)⟩
def jM_X11_draft : jl_MC := (yX11_draft, cX11_draft, 3, some .int, { frames := 5, cells := 0, slots := 0, locals := 500 })
theorem jv_X11_draft : jl_MV jM_X11_draft 2 := ⟨jw_859, jw_860, jw_1, jw_861, by (show "LieCandles" ≠ _; decide +kernel), by (show "LieCandles" ≠ _; decide +kernel), by (show (parseMethodDescriptor "(II)I").map _ = _; decide +kernel)⟩
def jM_X11_plan : jl_MC := (yX11_plan, cX11_plan, 3, some .int, { frames := 1, cells := 0, slots := 0, locals := 100 })
theorem jv_X11_plan : jl_MV jM_X11_plan 2 := ⟨jw_880, jw_881, jw_1, jw_882, by (show "LieCandles" ≠ _; decide +kernel), by (show "LieCandles" ≠ _; decide +kernel), by (show (parseMethodDescriptor "(II)I").map _ = _; decide +kernel)⟩
def jM_X2_hourOf : jl_MC := (yX2_hourOf, cX2_hourOf, 2, some .int, { frames := 1, cells := 0, slots := 0, locals := 100 })
theorem jv_X2_hourOf : jl_MV jM_X2_hourOf 1 := ⟨jw_888, jw_889, jw_8, jw_890, by (show "LieCandles$Log" ≠ _; decide +kernel), by (show "LieCandles$Log" ≠ _; decide +kernel), by (show (parseMethodDescriptor "(I)I").map _ = _; decide +kernel)⟩
def jM_X2_lieOf : jl_MC := (yX2_lieOf, cX2_lieOf, 2, some .int, { frames := 1, cells := 0, slots := 0, locals := 100 })
theorem jv_X2_lieOf : jl_MV jM_X2_lieOf 1 := ⟨jw_892, jw_893, jw_8, jw_894, by (show "LieCandles$Log" ≠ _; decide +kernel), by (show "LieCandles$Log" ≠ _; decide +kernel), by (show (parseMethodDescriptor "(I)I").map _ = _; decide +kernel)⟩
def jM_X11_kept : jl_MC := (yX11_kept, cX11_kept, 3, some .int, { frames := 2, cells := 0, slots := 0, locals := 200 })
theorem jv_X11_kept : jl_MV jM_X11_kept 2 := ⟨jw_884, jw_885, jw_1, jw_886, by (show "LieCandles" ≠ _; decide +kernel), by (show "LieCandles" ≠ _; decide +kernel), by (show (parseMethodDescriptor "(II)I").map _ = _; decide +kernel)⟩
def jM_X7_copyFrom : jl_MC := (yX7_copyFrom, cX7_copyFrom, 2, none, { frames := 2, cells := 0, slots := 0, locals := 200 })
theorem jv_X7_copyFrom : jl_MV jM_X7_copyFrom 1 := ⟨jw_904, jw_905, jw_7, jw_906, by (show "LieCandles$State" ≠ _; decide +kernel), by (show "LieCandles$State" ≠ _; decide +kernel), by (show (parseMethodDescriptor "(LLieCandles$State;)V").map _ = _; decide +kernel)⟩
def jM_X1_restart : jl_MC := (yX1_restart, cX1_restart, 1, some (.object "LieCandles$State"), { frames := 3, cells := 0, slots := 0, locals := 300 })
theorem jv_X1_restart : jl_MV jM_X1_restart 0 := ⟨jw_900, jw_901, jw_11, jw_902, by (show "LieCandles$Foresight" ≠ _; decide +kernel), by (show "LieCandles$Foresight" ≠ _; decide +kernel), by (show (parseMethodDescriptor "()LLieCandles$State;").map _ = _; decide +kernel)⟩
def jM_X7_kindle : jl_MC := (yX7_kindle, cX7_kindle, 3, none, { frames := 2, cells := 0, slots := 0, locals := 200 })
theorem jv_X7_kindle : jl_MV jM_X7_kindle 2 := ⟨jw_916, jw_917, jw_7, jw_918, by (show "LieCandles$State" ≠ _; decide +kernel), by (show "LieCandles$State" ≠ _; decide +kernel), by (show (parseMethodDescriptor "(II)V").map _ = _; decide +kernel)⟩
def jM_X5_lightPlanned : jl_MC := (yX5_lightPlanned, cX5_lightPlanned, 5, none, { frames := 3, cells := 0, slots := 0, locals := 300 })
theorem jv_X5_lightPlanned : jl_MV jM_X5_lightPlanned 1 := ⟨jw_913, jwp_29, jw_10, jw_914, by (show "LieCandles$Reckoner" ≠ _; decide +kernel), by (show "LieCandles$Reckoner" ≠ _; decide +kernel), by (show (parseMethodDescriptor "(LLieCandles$State;)V").map _ = _; decide +kernel)⟩
def jM_X7_burn : jl_MC := (yX7_burn, cX7_burn, 3, none, { frames := 2, cells := 0, slots := 0, locals := 200 })
theorem jv_X7_burn : jl_MV jM_X7_burn 2 := ⟨jw_920, jw_921, jw_7, jw_922, by (show "LieCandles$State" ≠ _; decide +kernel), by (show "LieCandles$State" ≠ _; decide +kernel), by (show (parseMethodDescriptor "(II)V").map _ = _; decide +kernel)⟩
def jM_X5_pass : jl_MC := (yX5_pass, cX5_pass, 4, some .int, { frames := 5, cells := 0, slots := 0, locals := 500 })
theorem jv_X5_pass : jl_MV jM_X5_pass 1 := ⟨jw_908, jw_909, jw_10, jw_910, by (show "LieCandles$Reckoner" ≠ _; decide +kernel), by (show "LieCandles$Reckoner" ≠ _; decide +kernel), by (show (parseMethodDescriptor "(LLieCandles$State;)I").map _ = _; decide +kernel)⟩
def jM_X11_later : jl_MC := (yX11_later, cX11_later, 5, some .int, { frames := 6, cells := 0, slots := 0, locals := 600 })
theorem jv_X11_later : jl_MV jM_X11_later 2 := ⟨jw_896, jw_897, jw_1, jw_898, by (show "LieCandles" ≠ _; decide +kernel), by (show "LieCandles" ≠ _; decide +kernel), by (show (parseMethodDescriptor "(II)I").map _ = _; decide +kernel)⟩
def jM_X1_believedBehind : jl_MC := (yX1_believedBehind, cX1_believedBehind, 3, some .int, { frames := 6, cells := 0, slots := 0, locals := 600 })
theorem jv_X1_believedBehind : jl_MV jM_X1_believedBehind 1 := ⟨jw_931, jw_932, jw_11, jw_933, by (show "LieCandles$Foresight" ≠ _; decide +kernel), by (show "LieCandles$Foresight" ≠ _; decide +kernel), by (show (parseMethodDescriptor "(I)I").map _ = _; decide +kernel)⟩
def jM_X11_held : jl_MC := (yX11_held, cX11_held, 3, some .int, { frames := 7, cells := 0, slots := 0, locals := 700 })
theorem jv_X11_held : jl_MV jM_X11_held 2 := ⟨jw_927, jw_928, jw_1, jw_929, by (show "LieCandles" ≠ _; decide +kernel), by (show "LieCandles" ≠ _; decide +kernel), by (show (parseMethodDescriptor "(II)I").map _ = _; decide +kernel)⟩
def jM_X1_firstUnlit : jl_MC := (yX1_firstUnlit, cX1_firstUnlit, 4, some .int, { frames := 6, cells := 0, slots := 0, locals := 600 })
theorem jv_X1_firstUnlit : jl_MV jM_X1_firstUnlit 1 := ⟨jw_945, jw_946, jw_11, jw_947, by (show "LieCandles$Foresight" ≠ _; decide +kernel), by (show "LieCandles$Foresight" ≠ _; decide +kernel), by (show (parseMethodDescriptor "(I)I").map _ = _; decide +kernel)⟩
def jM_X11_isLit : jl_MC := (yX11_isLit, cX11_isLit, 2, some .boolean, { frames := 2, cells := 0, slots := 0, locals := 200 })
theorem jv_X11_isLit : jl_MV jM_X11_isLit 1 := ⟨jw_942, jwp_30, jw_1, jw_943, by (show "LieCandles" ≠ _; decide +kernel), by (show "LieCandles" ≠ _; decide +kernel), by (show (parseMethodDescriptor "(I)Z").map _ = _; decide +kernel)⟩
def jM_X11_out : jl_MC := (yX11_out, cX11_out, 2, some .int, { frames := 7, cells := 0, slots := 0, locals := 700 })
theorem jv_X11_out : jl_MV jM_X11_out 1 := ⟨jw_937, jw_938, jw_1, jw_939, by (show "LieCandles" ≠ _; decide +kernel), by (show "LieCandles" ≠ _; decide +kernel), by (show (parseMethodDescriptor "(I)I").map _ = _; decide +kernel)⟩
def jM_X1_firstTrust : jl_MC := (yX1_firstTrust, cX1_firstTrust, 7, some .int, { frames := 6, cells := 0, slots := 0, locals := 600 })
theorem jv_X1_firstTrust : jl_MV jM_X1_firstTrust 2 := ⟨jw_954, jw_955, jw_11, jw_956, by (show "LieCandles$Foresight" ≠ _; decide +kernel), by (show "LieCandles$Foresight" ≠ _; decide +kernel), by (show (parseMethodDescriptor "(IZ)I").map _ = _; decide +kernel)⟩
def jM_X11_trusted : jl_MC := (yX11_trusted, cX11_trusted, 3, some .int, { frames := 7, cells := 0, slots := 0, locals := 700 })
theorem jv_X11_trusted : jl_MV jM_X11_trusted 2 := ⟨jw_950, jw_951, jw_1, jw_952, by (show "LieCandles" ≠ _; decide +kernel), by (show "LieCandles" ≠ _; decide +kernel), by (show (parseMethodDescriptor "(II)I").map _ = _; decide +kernel)⟩
def jM_X1_shortCandle : jl_MC := (yX1_shortCandle, cX1_shortCandle, 7, some .int, { frames := 7, cells := 0, slots := 0, locals := 700 })
theorem jv_X1_shortCandle : jl_MV jM_X1_shortCandle 2 := ⟨jw_962, jw_963, jw_11, jw_964, by (show "LieCandles$Foresight" ≠ _; decide +kernel), by (show "LieCandles$Foresight" ≠ _; decide +kernel), by (show (parseMethodDescriptor "(II)I").map _ = _; decide +kernel)⟩
def jM_X11_shorts : jl_MC := (yX11_shorts, cX11_shorts, 3, some .int, { frames := 8, cells := 0, slots := 0, locals := 800 })
theorem jv_X11_shorts : jl_MV jM_X11_shorts 2 := ⟨jw_958, jw_959, jw_1, jw_960, by (show "LieCandles" ≠ _; decide +kernel), by (show "LieCandles" ≠ _; decide +kernel), by (show (parseMethodDescriptor "(II)I").map _ = _; decide +kernel)⟩
def jM_X11_together : jl_MC := (yX11_together, cX11_together, 3, some .int, { frames := 8, cells := 0, slots := 0, locals := 800 })
theorem jv_X11_together : jl_MV jM_X11_together 2 := ⟨jw_969, jw_970, jw_1, jw_971, by (show "LieCandles" ≠ _; decide +kernel), by (show "LieCandles" ≠ _; decide +kernel), by (show (parseMethodDescriptor "(II)I").map _ = _; decide +kernel)⟩
def jM_X7_addTallow : jl_MC := (yX7_addTallow, cX7_addTallow, 2, none, { frames := 2, cells := 0, slots := 0, locals := 200 })
theorem jv_X7_addTallow : jl_MV jM_X7_addTallow 1 := ⟨jw_985, jw_986, jw_7, jw_987, by (show "LieCandles$State" ≠ _; decide +kernel), by (show "LieCandles$State" ≠ _; decide +kernel), by (show (parseMethodDescriptor "(I)V").map _ = _; decide +kernel)⟩
def jM_X7_quench : jl_MC := (yX7_quench, cX7_quench, 3, some .int, { frames := 3, cells := 0, slots := 0, locals := 300 })
theorem jv_X7_quench : jl_MV jM_X7_quench 1 := ⟨jw_981, jw_982, jw_7, jw_983, by (show "LieCandles$State" ≠ _; decide +kernel), by (show "LieCandles$State" ≠ _; decide +kernel), by (show (parseMethodDescriptor "(I)I").map _ = _; decide +kernel)⟩
def jM_X1_searchKeystone : jl_MC := (yX1_searchKeystone, cX1_searchKeystone, 4, none, { frames := 7, cells := 0, slots := 0, locals := 700 })
theorem jv_X1_searchKeystone : jl_MV jM_X1_searchKeystone 1 := ⟨jw_977, jw_978, jw_11, jw_979, by (show "LieCandles$Foresight" ≠ _; decide +kernel), by (show "LieCandles$Foresight" ≠ _; decide +kernel), by (show (parseMethodDescriptor "(I)V").map _ = _; decide +kernel)⟩
def jM_X11_keystone : jl_MC := (yX11_keystone, cX11_keystone, 3, some .int, { frames := 8, cells := 0, slots := 0, locals := 800 })
theorem jv_X11_keystone : jl_MV jM_X11_keystone 2 := ⟨jw_973, jw_974, jw_1, jw_975, by (show "LieCandles" ≠ _; decide +kernel), by (show "LieCandles" ≠ _; decide +kernel), by (show (parseMethodDescriptor "(II)I").map _ = _; decide +kernel)⟩
def jM_X7_swapHomes : jl_MC := (yX7_swapHomes, cX7_swapHomes, 4, none, { frames := 1, cells := 0, slots := 0, locals := 100 })
theorem jv_X7_swapHomes : jl_MV jM_X7_swapHomes 2 := ⟨jw_1002, jw_1003, jw_7, jw_1004, by (show "LieCandles$State" ≠ _; decide +kernel), by (show "LieCandles$State" ≠ _; decide +kernel), by (show (parseMethodDescriptor "(II)V").map _ = _; decide +kernel)⟩
def jM_X1_searchChange : jl_MC := (yX1_searchChange, cX1_searchChange, 6, none, { frames := 7, cells := 0, slots := 0, locals := 700 })
theorem jv_X1_searchChange : jl_MV jM_X1_searchChange 1 := ⟨jw_998, jw_999, jw_11, jw_1000, by (show "LieCandles$Foresight" ≠ _; decide +kernel), by (show "LieCandles$Foresight" ≠ _; decide +kernel), by (show (parseMethodDescriptor "(I)V").map _ = _; decide +kernel)⟩
def jM_X11_hasStreet : jl_MC := (yX11_hasStreet, cX11_hasStreet, 1, some .boolean, { frames := 1, cells := 0, slots := 0, locals := 100 })
theorem jv_X11_hasStreet : jl_MV jM_X11_hasStreet 0 := ⟨jw_995, jwp_31, jw_1, jw_996, by (show "LieCandles" ≠ _; decide +kernel), by (show "LieCandles" ≠ _; decide +kernel), by (show (parseMethodDescriptor "()Z").map _ = _; decide +kernel)⟩
def jM_X11_change : jl_MC := (yX11_change, cX11_change, 3, some .int, { frames := 8, cells := 0, slots := 0, locals := 800 })
theorem jv_X11_change : jl_MV jM_X11_change 2 := ⟨jw_990, jw_991, jw_1, jw_992, by (show "LieCandles" ≠ _; decide +kernel), by (show "LieCandles" ≠ _; decide +kernel), by (show (parseMethodDescriptor "(II)I").map _ = _; decide +kernel)⟩
def jM_X5_blow : jl_MC := (yX5_blow, cX5_blow, 5, some .int, { frames := 3, cells := 0, slots := 0, locals := 300 })
theorem jv_X5_blow : jl_MV jM_X5_blow 2 := ⟨jw_1014, jw_1015, jw_10, jw_1016, by (show "LieCandles$Reckoner" ≠ _; decide +kernel), by (show "LieCandles$Reckoner" ≠ _; decide +kernel), by (show (parseMethodDescriptor "(LLieCandles$State;I)I").map _ = _; decide +kernel)⟩
def jM_X1_oddsOf : jl_MC := (yX1_oddsOf, cX1_oddsOf, 6, some .int, { frames := 7, cells := 0, slots := 0, locals := 700 })
theorem jv_X1_oddsOf : jl_MV jM_X1_oddsOf 1 := ⟨jw_1010, jw_1011, jw_11, jw_1012, by (show "LieCandles$Foresight" ≠ _; decide +kernel), by (show "LieCandles$Foresight" ≠ _; decide +kernel), by (show (parseMethodDescriptor "(I)I").map _ = _; decide +kernel)⟩
def jM_X11_odds : jl_MC := (yX11_odds, cX11_odds, 2, some .int, { frames := 8, cells := 0, slots := 0, locals := 800 })
theorem jv_X11_odds : jl_MV jM_X11_odds 1 := ⟨jw_1006, jw_1007, jw_1, jw_1008, by (show "LieCandles" ≠ _; decide +kernel), by (show "LieCandles" ≠ _; decide +kernel), by (show (parseMethodDescriptor "(I)I").map _ = _; decide +kernel)⟩
def jM_X6_take : jl_MC := (yX6_take, cX6_take, 5, some .boolean, { frames := 2, cells := 0, slots := 0, locals := 200 })
theorem jv_X6_take : jl_MV jM_X6_take 2 := ⟨jw_1022, jw_1023, jw_12, jw_1024, by (show "LieCandles$Sight" ≠ _; decide +kernel), by (show "LieCandles$Sight" ≠ _; decide +kernel), by (show (parseMethodDescriptor "(LLieCandles$Tape;I)Z").map _ = _; decide +kernel)⟩
def jM_X11_see : jl_MC := (yX11_see, cX11_see, 2, some .int, { frames := 3, cells := 0, slots := 0, locals := 300 })
theorem jv_X11_see : jl_MV jM_X11_see 0 := ⟨jw_1018, jw_1019, jw_1, jw_1020, by (show "LieCandles" ≠ _; decide +kernel), by (show "LieCandles" ≠ _; decide +kernel), by (show (parseMethodDescriptor "()I").map _ = _; decide +kernel)⟩
def jM_X5_litIn : jl_MC := (yX5_litIn, cX5_litIn, 5, some .int, { frames := 1, cells := 0, slots := 0, locals := 100 })
theorem jv_X5_litIn : jl_MV jM_X5_litIn 2 := ⟨jw_1048, jw_1049, jw_10, jw_1050, by (show "LieCandles$Reckoner" ≠ _; decide +kernel), by (show "LieCandles$Reckoner" ≠ _; decide +kernel), by (show (parseMethodDescriptor "(LLieCandles$State;I)I").map _ = _; decide +kernel)⟩
def jM_X6_isAllSo : jl_MC := (yX6_isAllSo, cX6_isAllSo, 4, some .boolean, { frames := 6, cells := 0, slots := 0, locals := 600 })
theorem jv_X6_isAllSo : jl_MV jM_X6_isAllSo 1 := ⟨jw_1044, jwp_33, jw_12, jw_1045, by (show "LieCandles$Sight" ≠ _; decide +kernel), by (show "LieCandles$Sight" ≠ _; decide +kernel), by (show (parseMethodDescriptor "(I)Z").map _ = _; decide +kernel)⟩
def jM_X6_lastSeen : jl_MC := (yX6_lastSeen, cX6_lastSeen, 3, some .int, { frames := 2, cells := 0, slots := 0, locals := 200 })
theorem jv_X6_lastSeen : jl_MV jM_X6_lastSeen 0 := ⟨jw_1037, jwp_32, jw_12, jw_1038, by (show "LieCandles$Sight" ≠ _; decide +kernel), by (show "LieCandles$Sight" ≠ _; decide +kernel), by (show (parseMethodDescriptor "()I").map _ = _; decide +kernel)⟩
def jM_X6_gather : jl_MC := (yX6_gather, cX6_gather, 4, none, { frames := 7, cells := 0, slots := 0, locals := 700 })
theorem jv_X6_gather : jl_MV jM_X6_gather 1 := ⟨jw_1032, jw_1033, jw_12, jw_1034, by (show "LieCandles$Sight" ≠ _; decide +kernel), by (show "LieCandles$Sight" ≠ _; decide +kernel), by (show (parseMethodDescriptor "(I)V").map _ = _; decide +kernel)⟩
def jM_X11_inches : jl_MC := (yX11_inches, cX11_inches, 3, some .int, { frames := 8, cells := 0, slots := 0, locals := 800 })
theorem jv_X11_inches : jl_MV jM_X11_inches 2 := ⟨jw_1028, jw_1029, jw_1, jw_1030, by (show "LieCandles" ≠ _; decide +kernel), by (show "LieCandles" ≠ _; decide +kernel), by (show (parseMethodDescriptor "(II)I").map _ = _; decide +kernel)⟩
def jM_X6_tallyFrom : jl_MC := (yX6_tallyFrom, cX6_tallyFrom, 2, some .int, { frames := 1, cells := 0, slots := 0, locals := 100 })
theorem jv_X6_tallyFrom : jl_MS jM_X6_tallyFrom 2 := ⟨jw_1064, jw_12, jw_1065, by decide +kernel, by decide +kernel, by decide +kernel⟩
def jM_X6_mostLeft : jl_MC := (yX6_mostLeft, cX6_mostLeft, 7, some .int, { frames := 2, cells := 0, slots := 0, locals := 200 })
theorem jv_X6_mostLeft : jl_MV jM_X6_mostLeft 2 := ⟨jw_1068, jwp_35, jw_12, jw_1069, by (show "LieCandles$Sight" ≠ _; decide +kernel), by (show "LieCandles$Sight" ≠ _; decide +kernel), by (show (parseMethodDescriptor "(II)I").map _ = _; decide +kernel)⟩
def jM_X6_tallyAll : jl_MC := (yX6_tallyAll, cX6_tallyAll, 7, none, { frames := 6, cells := 0, slots := 0, locals := 600 })
theorem jv_X6_tallyAll : jl_MV jM_X6_tallyAll 2 := ⟨jw_1061, jwp_34, jw_12, jw_1062, by (show "LieCandles$Sight" ≠ _; decide +kernel), by (show "LieCandles$Sight" ≠ _; decide +kernel), by (show (parseMethodDescriptor "(II)V").map _ = _; decide +kernel)⟩
def jM_X6_searchTelling : jl_MC := (yX6_searchTelling, cX6_searchTelling, 6, none, { frames := 7, cells := 0, slots := 0, locals := 700 })
theorem jv_X6_searchTelling : jl_MV jM_X6_searchTelling 1 := ⟨jw_1056, jw_1057, jw_12, jw_1058, by (show "LieCandles$Sight" ≠ _; decide +kernel), by (show "LieCandles$Sight" ≠ _; decide +kernel), by (show (parseMethodDescriptor "(I)V").map _ = _; decide +kernel)⟩
def jM_X11_tells : jl_MC := (yX11_tells, cX11_tells, 3, some .int, { frames := 8, cells := 0, slots := 0, locals := 800 })
theorem jv_X11_tells : jl_MV jM_X11_tells 2 := ⟨jw_1052, jw_1053, jw_1, jw_1054, by (show "LieCandles" ≠ _; decide +kernel), by (show "LieCandles" ≠ _; decide +kernel), by (show (parseMethodDescriptor "(II)I").map _ = _; decide +kernel)⟩
def jM_X2_copyFrom : jl_MC := (yX2_copyFrom, cX2_copyFrom, 2, none, { frames := 2, cells := 0, slots := 0, locals := 200 })
theorem jv_X2_copyFrom : jl_MV jM_X2_copyFrom 1 := ⟨jw_1080, jw_1081, jw_8, jw_1082, by (show "LieCandles$Log" ≠ _; decide +kernel), by (show "LieCandles$Log" ≠ _; decide +kernel), by (show (parseMethodDescriptor "(LLieCandles$Log;)V").map _ = _; decide +kernel)⟩
def jM_X3_remember : jl_MC := (yX3_remember, cX3_remember, 3, none, { frames := 3, cells := 0, slots := 0, locals := 300 })
theorem jv_X3_remember : jl_MV jM_X3_remember 2 := ⟨jw_1075, jw_1076, jw_9, jw_1077, by (show "LieCandles$Past" ≠ _; decide +kernel), by (show "LieCandles$Past" ≠ _; decide +kernel), by (show (parseMethodDescriptor "(LLieCandles$State;LLieCandles$Log;)V").map _ = _; decide +kernel)⟩
def jM_X11_light : jl_MC := (yX11_light, cX11_light, 3, some .boolean, { frames := 4, cells := 0, slots := 0, locals := 400 })
theorem jv_X11_light : jl_MV jM_X11_light 2 := ⟨jw_1071, jw_1072, jw_1, jw_1073, by (show "LieCandles" ≠ _; decide +kernel), by (show "LieCandles" ≠ _; decide +kernel), by (show (parseMethodDescriptor "(II)Z").map _ = _; decide +kernel)⟩
def jM_X11_snuff : jl_MC := (yX11_snuff, cX11_snuff, 2, some .int, { frames := 4, cells := 0, slots := 0, locals := 400 })
theorem jv_X11_snuff : jl_MV jM_X11_snuff 1 := ⟨jw_1087, jw_1088, jw_1, jw_1089, by (show "LieCandles" ≠ _; decide +kernel), by (show "LieCandles" ≠ _; decide +kernel), by (show (parseMethodDescriptor "(I)I").map _ = _; decide +kernel)⟩
def jM_X11_move : jl_MC := (yX11_move, cX11_move, 3, some .boolean, { frames := 4, cells := 0, slots := 0, locals := 400 })
theorem jv_X11_move : jl_MV jM_X11_move 2 := ⟨jw_1092, jw_1093, jw_1, jw_1094, by (show "LieCandles" ≠ _; decide +kernel), by (show "LieCandles" ≠ _; decide +kernel), by (show (parseMethodDescriptor "(II)Z").map _ = _; decide +kernel)⟩
def jM_X11_buy : jl_MC := (yX11_buy, cX11_buy, 2, some .int, { frames := 4, cells := 0, slots := 0, locals := 400 })
theorem jv_X11_buy : jl_MV jM_X11_buy 1 := ⟨jw_1096, jw_1097, jw_1, jw_1098, by (show "LieCandles" ≠ _; decide +kernel), by (show "LieCandles" ≠ _; decide +kernel), by (show (parseMethodDescriptor "(I)I").map _ = _; decide +kernel)⟩
def jM_X2_add : jl_MC := (yX2_add, cX2_add, 4, none, { frames := 1, cells := 0, slots := 0, locals := 100 })
theorem jv_X2_add : jl_MV jM_X2_add 2 := ⟨jw_1114, jwp_37, jw_8, jw_1115, by (show "LieCandles$Log" ≠ _; decide +kernel), by (show "LieCandles$Log" ≠ _; decide +kernel), by (show (parseMethodDescriptor "(II)V").map _ = _; decide +kernel)⟩
def jM_X2_addAll : jl_MC := (yX2_addAll, cX2_addAll, 4, none, { frames := 2, cells := 0, slots := 0, locals := 200 })
theorem jv_X2_addAll : jl_MV jM_X2_addAll 2 := ⟨jw_1109, jw_1110, jw_8, jw_1111, by (show "LieCandles$Log" ≠ _; decide +kernel), by (show "LieCandles$Log" ≠ _; decide +kernel), by (show (parseMethodDescriptor "(II)V").map _ = _; decide +kernel)⟩
def jM_X11_passNow : jl_MC := (yX11_passNow, cX11_passNow, 3, some .int, { frames := 6, cells := 0, slots := 0, locals := 600 })
theorem jv_X11_passNow : jl_MV jM_X11_passNow 0 := ⟨jw_1106, jwp_36, jw_1, jw_1107, by (show "LieCandles" ≠ _; decide +kernel), by (show "LieCandles" ≠ _; decide +kernel), by (show (parseMethodDescriptor "()I").map _ = _; decide +kernel)⟩
def jM_X11_hours : jl_MC := (yX11_hours, cX11_hours, 4, some .int, { frames := 7, cells := 0, slots := 0, locals := 700 })
theorem jv_X11_hours : jl_MV jM_X11_hours 1 := ⟨jw_1101, jw_1102, jw_1, jw_1103, by (show "LieCandles" ≠ _; decide +kernel), by (show "LieCandles" ≠ _; decide +kernel), by (show (parseMethodDescriptor "(I)I").map _ = _; decide +kernel)⟩
def jM_X11_draw : jl_MC := (yX11_draw, cX11_draw, 2, some .int, { frames := 1, cells := 0, slots := 0, locals := 100 })
theorem jv_X11_draw : jl_MV jM_X11_draw 1 := ⟨jw_1122, jwp_38, jw_1, jw_1123, by (show "LieCandles" ≠ _; decide +kernel), by (show "LieCandles" ≠ _; decide +kernel), by (show (parseMethodDescriptor "(I)I").map _ = _; decide +kernel)⟩
def jM_X11_chance : jl_MC := (yX11_chance, cX11_chance, 4, some .int, { frames := 7, cells := 0, slots := 0, locals := 700 })
theorem jv_X11_chance : jl_MV jM_X11_chance 1 := ⟨jw_1117, jw_1118, jw_1, jw_1119, by (show "LieCandles" ≠ _; decide +kernel), by (show "LieCandles" ≠ _; decide +kernel), by (show (parseMethodDescriptor "(I)I").map _ = _; decide +kernel)⟩
def jM_X3_recall : jl_MC := (yX3_recall, cX3_recall, 3, some .boolean, { frames := 3, cells := 0, slots := 0, locals := 300 })
theorem jv_X3_recall : jl_MV jM_X3_recall 2 := ⟨jw_1133, jw_1134, jw_9, jw_1135, by (show "LieCandles$Past" ≠ _; decide +kernel), by (show "LieCandles$Past" ≠ _; decide +kernel), by (show (parseMethodDescriptor "(LLieCandles$State;LLieCandles$Log;)Z").map _ = _; decide +kernel)⟩
def jM_X11_undo : jl_MC := (yX11_undo, cX11_undo, 1, some .boolean, { frames := 4, cells := 0, slots := 0, locals := 400 })
theorem jv_X11_undo : jl_MV jM_X11_undo 0 := ⟨jw_1129, jw_1130, jw_1, jw_1131, by (show "LieCandles" ≠ _; decide +kernel), by (show "LieCandles" ≠ _; decide +kernel), by (show (parseMethodDescriptor "()Z").map _ = _; decide +kernel)⟩
def jM_X11_seed : jl_MC := (yX11_seed, cX11_seed, 2, some .boolean, { frames := 2, cells := 0, slots := 0, locals := 200 })
theorem jv_X11_seed : jl_MV jM_X11_seed 1 := ⟨jw_1137, jw_1138, jw_1, jw_1139, by (show "LieCandles" ≠ _; decide +kernel), by (show "LieCandles" ≠ _; decide +kernel), by (show (parseMethodDescriptor "(I)Z").map _ = _; decide +kernel)⟩
def jM_X4_readQuestion : jl_MC := (yX4_readQuestion, cX4_readQuestion, 3, some .int, { frames := 71, cells := 0, slots := 0, locals := 7100 })
theorem jv_X4_readQuestion : jl_MV jM_X4_readQuestion 1 := ⟨jw_1146, jw_1147, jw_5, jw_1148, by (show "LieCandles$Reader" ≠ _; decide +kernel), by (show "LieCandles$Reader" ≠ _; decide +kernel), by (show (parseMethodDescriptor "(LLieCandles$Code;)I").map _ = _; decide +kernel)⟩
def jM_X5_joined : jl_MC := (yX5_joined, cX5_joined, 5, some .long, { frames := 1, cells := 0, slots := 0, locals := 100 })
theorem jv_X5_joined : jl_MS jM_X5_joined 4 := ⟨jw_1160, jw_10, jw_1161, by decide +kernel, by decide +kernel, by decide +kernel⟩
def jM_X5_answer : jl_MC := (yX5_answer, cX5_answer, 8, some .long, { frames := 6, cells := 0, slots := 0, locals := 600 })
theorem jv_X5_answer : jl_MV jM_X5_answer 3 := ⟨jw_1153, jw_1154, jw_10, jw_1155, by (show "LieCandles$Reckoner" ≠ _; decide +kernel), by (show "LieCandles$Reckoner" ≠ _; decide +kernel), by (show (parseMethodDescriptor "(LLieCandles$State;LLieCandles$Code;I)J").map _ = _; decide +kernel)⟩
def jM_X11_ask : jl_MC := (yX11_ask, cX11_ask, 2, some .long, { frames := 72, cells := 0, slots := 0, locals := 7200 })
theorem jv_X11_ask : jl_MV jM_X11_ask 0 := ⟨jw_1141, jw_1142, jw_1, jw_1143, by (show "LieCandles" ≠ _; decide +kernel), by (show "LieCandles" ≠ _; decide +kernel), by (show (parseMethodDescriptor "()J").map _ = _; decide +kernel)⟩
def jM_X11_putPair : jl_MC := (yX11_putPair, cX11_putPair, 3, none, { frames := 1, cells := 0, slots := 0, locals := 100 })
theorem jv_X11_putPair : jl_MV jM_X11_putPair 2 := ⟨jw_1168, jwp_39, jw_1, jw_1169, by (show "LieCandles" ≠ _; decide +kernel), by (show "LieCandles" ≠ _; decide +kernel), by (show (parseMethodDescriptor "(II)V").map _ = _; decide +kernel)⟩
def jM_X11_image : jl_MC := (yX11_image, cX11_image, 4, some .int, { frames := 2, cells := 0, slots := 0, locals := 200 })
theorem jv_X11_image : jl_MV jM_X11_image 0 := ⟨jw_1163, jw_1164, jw_1, jw_1165, by (show "LieCandles" ≠ _; decide +kernel), by (show "LieCandles" ≠ _; decide +kernel), by (show (parseMethodDescriptor "()I").map _ = _; decide +kernel)⟩
def jM_X11_octet : jl_MC := (yX11_octet, cX11_octet, 2, some .int, { frames := 1, cells := 0, slots := 0, locals := 100 })
theorem jv_X11_octet : jl_MV jM_X11_octet 1 := ⟨jw_1171, jw_1172, jw_1, jw_1173, by (show "LieCandles" ≠ _; decide +kernel), by (show "LieCandles" ≠ _; decide +kernel), by (show (parseMethodDescriptor "(I)I").map _ = _; decide +kernel)⟩
def jM_X10_pairAt : jl_MC := (yX10_pairAt, cX10_pairAt, 2, some .int, { frames := 2, cells := 0, slots := 0, locals := 200 })
theorem jv_X10_pairAt : jl_MV jM_X10_pairAt 1 := ⟨jw_1183, jw_1184, jw_2, jw_1185, by (show "LieCandles$Tape" ≠ _; decide +kernel), by (show "LieCandles$Tape" ≠ _; decide +kernel), by (show (parseMethodDescriptor "(I)I").map _ = _; decide +kernel)⟩
def jM_X11_isPicture : jl_MC := (yX11_isPicture, cX11_isPicture, 6, some .boolean, { frames := 3, cells := 0, slots := 0, locals := 300 })
theorem jv_X11_isPicture : jl_MV jM_X11_isPicture 0 := ⟨jw_1180, jwp_40, jw_1, jw_1181, by (show "LieCandles" ≠ _; decide +kernel), by (show "LieCandles" ≠ _; decide +kernel), by (show (parseMethodDescriptor "()Z").map _ = _; decide +kernel)⟩
def jM_X7_readPicture : jl_MC := (yX7_readPicture, cX7_readPicture, 5, none, { frames := 3, cells := 0, slots := 0, locals := 300 })
theorem jv_X7_readPicture : jl_MV jM_X7_readPicture 2 := ⟨jw_1189, jw_1190, jw_7, jw_1191, by (show "LieCandles$State" ≠ _; decide +kernel), by (show "LieCandles$State" ≠ _; decide +kernel), by (show (parseMethodDescriptor "(LLieCandles$Tape;LLieCandles$Street;)V").map _ = _; decide +kernel)⟩
def jM_X11_on : jl_MC := (yX11_on, cX11_on, 2, some .boolean, { frames := 4, cells := 0, slots := 0, locals := 400 })
theorem jv_X11_on : jl_MV jM_X11_on 0 := ⟨jw_1175, jw_1176, jw_1, jw_1177, by (show "LieCandles" ≠ _; decide +kernel), by (show "LieCandles" ≠ _; decide +kernel), by (show (parseMethodDescriptor "()Z").map _ = _; decide +kernel)⟩
def jM_X11_status : jl_MC := (yX11_status, cX11_status, 2, some .int, { frames := 1, cells := 0, slots := 0, locals := 100 })
theorem jv_X11_status : jl_MV jM_X11_status 1 := ⟨jw_1195, jw_1196, jw_1, jw_1197, by (show "LieCandles" ≠ _; decide +kernel), by (show "LieCandles" ≠ _; decide +kernel), by (show (parseMethodDescriptor "(I)I").map _ = _; decide +kernel)⟩
def jM_X12_isIn : jl_MC := (yX12_isIn, cX12_isIn, 6, some .boolean, { frames := 1, cells := 0, slots := 0, locals := 100 })
theorem jv_X12_isIn : jl_MS jM_X12_isIn 3 := ⟨jw_1589, jw_13, jw_1590, by decide +kernel, by decide +kernel, by decide +kernel⟩
def jM_X12_clamp : jl_MC := (yX12_clamp, cX12_clamp, 3, some .int, { frames := 1, cells := 0, slots := 0, locals := 100 })
theorem jv_X12_clamp : jl_MS jM_X12_clamp 2 := ⟨jw_1821, jw_13, jw_1822, by decide +kernel, by decide +kernel, by decide +kernel⟩
def jM_X12_feed : jl_MC := (yX12_feed, cX12_feed, 8, some .int, { frames := 1, cells := 0, slots := 0, locals := 100 })
theorem jv_X12_feed : jl_MV jM_X12_feed 5 := ⟨jw_1543, jw_1544, jw_13, jw_1545, by (show "LieCandlesModel" ≠ _; decide +kernel), by (show "LieCandlesModel" ≠ _; decide +kernel), by (show (parseMethodDescriptor "(IIIII)I").map _ = _; decide +kernel)⟩
def jM_X12_end : jl_MC := (yX12_end, cX12_end, 2, some .boolean, { frames := 1, cells := 0, slots := 0, locals := 100 })
theorem jv_X12_end : jl_MV jM_X12_end 1 := ⟨jw_1547, jw_1548, jw_13, jw_1549, by (show "LieCandlesModel" ≠ _; decide +kernel), by (show "LieCandlesModel" ≠ _; decide +kernel), by (show (parseMethodDescriptor "(I)Z").map _ = _; decide +kernel)⟩
def jM_X12_fail : jl_MC := (yX12_fail, cX12_fail, 3, none, { frames := 1, cells := 0, slots := 0, locals := 100 })
theorem jv_X12_fail : jl_MV jM_X12_fail 2 := ⟨jw_1579, jwp_46, jw_13, jw_1580, by (show "LieCandlesModel" ≠ _; decide +kernel), by (show "LieCandlesModel" ≠ _; decide +kernel), by (show (parseMethodDescriptor "(II)V").map _ = _; decide +kernel)⟩
def jM_X12_isLetter : jl_MC := (yX12_isLetter, cX12_isLetter, 1, some .boolean, { frames := 1, cells := 0, slots := 0, locals := 100 })
theorem jv_X12_isLetter : jl_MS jM_X12_isLetter 1 := ⟨jw_1575, jw_13, jw_1576, by decide +kernel, by decide +kernel, by decide +kernel⟩
def jM_X12_isDigit : jl_MC := (yX12_isDigit, cX12_isDigit, 1, some .boolean, { frames := 1, cells := 0, slots := 0, locals := 100 })
theorem jv_X12_isDigit : jl_MS jM_X12_isDigit 1 := ⟨jw_1586, jw_13, jw_1587, by decide +kernel, by decide +kernel, by decide +kernel⟩
def jM_X12_look : jl_MC := (yX12_look, cX12_look, 1, some .int, { frames := 1, cells := 0, slots := 0, locals := 100 })
theorem jv_X12_look : jl_MV jM_X12_look 0 := ⟨jw_1572, jwp_45, jw_13, jw_1573, by (show "LieCandlesModel" ≠ _; decide +kernel), by (show "LieCandlesModel" ≠ _; decide +kernel), by (show (parseMethodDescriptor "()I").map _ = _; decide +kernel)⟩
def jM_X12_isHere : jl_MC := (yX12_isHere, cX12_isHere, 4, some .boolean, { frames := 2, cells := 0, slots := 0, locals := 200 })
theorem jv_X12_isHere : jl_MV jM_X12_isHere 1 := ⟨jw_1568, jwp_44, jw_13, jw_1569, by (show "LieCandlesModel" ≠ _; decide +kernel), by (show "LieCandlesModel" ≠ _; decide +kernel), by (show (parseMethodDescriptor "([C)Z").map _ = _; decide +kernel)⟩
def jM_X12_takes : jl_MC := (yX12_takes, cX12_takes, 2, some .boolean, { frames := 3, cells := 0, slots := 0, locals := 300 })
theorem jv_X12_takes : jl_MV jM_X12_takes 1 := ⟨jw_1564, jwp_43, jw_13, jw_1565, by (show "LieCandlesModel" ≠ _; decide +kernel), by (show "LieCandlesModel" ≠ _; decide +kernel), by (show (parseMethodDescriptor "([C)Z").map _ = _; decide +kernel)⟩
def jM_X12_asks : jl_MC := (yX12_asks, cX12_asks, 2, none, { frames := 4, cells := 0, slots := 0, locals := 400 })
theorem jv_X12_asks : jl_MV jM_X12_asks 1 := ⟨jw_1560, jwp_42, jw_13, jw_1561, by (show "LieCandlesModel" ≠ _; decide +kernel), by (show "LieCandlesModel" ≠ _; decide +kernel), by (show (parseMethodDescriptor "([C)V").map _ = _; decide +kernel)⟩
def jM_X12_takesSign : jl_MC := (yX12_takesSign, cX12_takesSign, 2, some .boolean, { frames := 2, cells := 0, slots := 0, locals := 200 })
theorem jv_X12_takesSign : jl_MV jM_X12_takesSign 1 := ⟨jw_1597, jwp_49, jw_13, jw_1598, by (show "LieCandlesModel" ≠ _; decide +kernel), by (show "LieCandlesModel" ≠ _; decide +kernel), by (show (parseMethodDescriptor "(I)Z").map _ = _; decide +kernel)⟩
def jM_X12_asksSign : jl_MC := (yX12_asksSign, cX12_asksSign, 2, none, { frames := 3, cells := 0, slots := 0, locals := 300 })
theorem jv_X12_asksSign : jl_MV jM_X12_asksSign 1 := ⟨jw_1593, jwp_48, jw_13, jw_1594, by (show "LieCandlesModel" ≠ _; decide +kernel), by (show "LieCandlesModel" ≠ _; decide +kernel), by (show (parseMethodDescriptor "(I)V").map _ = _; decide +kernel)⟩
def jM_X12_number : jl_MC := (yX12_number, cX12_number, 5, some .int, { frames := 2, cells := 0, slots := 0, locals := 200 })
theorem jv_X12_number : jl_MV jM_X12_number 2 := ⟨jw_1583, jwp_47, jw_13, jw_1584, by (show "LieCandlesModel" ≠ _; decide +kernel), by (show "LieCandlesModel" ≠ _; decide +kernel), by (show (parseMethodDescriptor "(II)I").map _ = _; decide +kernel)⟩
def jM_X12_isOwnHere : jl_MC := (yX12_isOwnHere, cX12_isOwnHere, 2, some .boolean, { frames := 3, cells := 0, slots := 0, locals := 300 })
theorem jv_X12_isOwnHere : jl_MV jM_X12_isOwnHere 0 := ⟨jw_1621, jwp_55, jw_13, jw_1622, by (show "LieCandlesModel" ≠ _; decide +kernel), by (show "LieCandlesModel" ≠ _; decide +kernel), by (show (parseMethodDescriptor "()Z").map _ = _; decide +kernel)⟩
def jM_X12_name : jl_MC := (yX12_name, cX12_name, 3, some .long, { frames := 4, cells := 0, slots := 0, locals := 400 })
theorem jv_X12_name : jl_MV jM_X12_name 0 := ⟨jw_1617, jwp_54, jw_13, jw_1618, by (show "LieCandlesModel" ≠ _; decide +kernel), by (show "LieCandlesModel" ≠ _; decide +kernel), by (show (parseMethodDescriptor "()J").map _ = _; decide +kernel)⟩
def jM_X12_isAllowed : jl_MC := (yX12_isAllowed, cX12_isAllowed, 2, some .boolean, { frames := 2, cells := 0, slots := 0, locals := 200 })
theorem jv_X12_isAllowed : jl_MV jM_X12_isAllowed 1 := ⟨jw_1679, jwp_69, jw_13, jw_1680, by (show "LieCandlesModel" ≠ _; decide +kernel), by (show "LieCandlesModel" ≠ _; decide +kernel), by (show (parseMethodDescriptor "(I)Z").map _ = _; decide +kernel)⟩
def jM_X12_isFull : jl_MC := (yX12_isFull, cX12_isFull, 4, some .boolean, { frames := 2, cells := 0, slots := 0, locals := 200 })
theorem jv_X12_isFull : jl_MV jM_X12_isFull 3 := ⟨jw_1609, jwp_52, jw_13, jw_1610, by (show "LieCandlesModel" ≠ _; decide +kernel), by (show "LieCandlesModel" ≠ _; decide +kernel), by (show (parseMethodDescriptor "(III)Z").map _ = _; decide +kernel)⟩
def jM_X12_streetTold : jl_MC := (yX12_streetTold, cX12_streetTold, 1, none, { frames := 5, cells := 0, slots := 0, locals := 500 })
theorem jv_X12_streetTold : jl_MV jM_X12_streetTold 0 := ⟨jw_1556, jwp_41, jw_13, jw_1557, by (show "LieCandlesModel" ≠ _; decide +kernel), by (show "LieCandlesModel" ≠ _; decide +kernel), by (show (parseMethodDescriptor "()V").map _ = _; decide +kernel)⟩
def jM_X12_newName : jl_MC := (yX12_newName, cX12_newName, 5, some .long, { frames := 5, cells := 0, slots := 0, locals := 500 })
theorem jv_X12_newName : jl_MV jM_X12_newName 0 := ⟨jw_1613, jwp_53, jw_13, jw_1614, by (show "LieCandlesModel" ≠ _; decide +kernel), by (show "LieCandlesModel" ≠ _; decide +kernel), by (show (parseMethodDescriptor "()J").map _ = _; decide +kernel)⟩
def jM_X12_named : jl_MC := (yX12_named, cX12_named, 5, some .int, { frames := 5, cells := 0, slots := 0, locals := 500 })
theorem jv_X12_named : jl_MV jM_X12_named 1 := ⟨jw_1631, jwp_57, jw_13, jw_1632, by (show "LieCandlesModel" ≠ _; decide +kernel), by (show "LieCandlesModel" ≠ _; decide +kernel), by (show (parseMethodDescriptor "(I)I").map _ = _; decide +kernel)⟩
def jM_X12_personTold : jl_MC := (yX12_personTold, cX12_personTold, 7, none, { frames := 6, cells := 0, slots := 0, locals := 600 })
theorem jv_X12_personTold : jl_MV jM_X12_personTold 1 := ⟨jw_1605, jwp_51, jw_13, jw_1606, by (show "LieCandlesModel" ≠ _; decide +kernel), by (show "LieCandlesModel" ≠ _; decide +kernel), by (show (parseMethodDescriptor "(I)V").map _ = _; decide +kernel)⟩
def jM_X12_lieTold : jl_MC := (yX12_lieTold, cX12_lieTold, 6, none, { frames := 6, cells := 0, slots := 0, locals := 600 })
theorem jv_X12_lieTold : jl_MV jM_X12_lieTold 1 := ⟨jw_1627, jwp_56, jw_13, jw_1628, by (show "LieCandlesModel" ≠ _; decide +kernel), by (show "LieCandlesModel" ≠ _; decide +kernel), by (show (parseMethodDescriptor "(I)V").map _ = _; decide +kernel)⟩
def jM_X12_hangsTold : jl_MC := (yX12_hangsTold, cX12_hangsTold, 3, none, { frames := 6, cells := 0, slots := 0, locals := 600 })
theorem jv_X12_hangsTold : jl_MV jM_X12_hangsTold 0 := ⟨jw_1635, jwp_58, jw_13, jw_1636, by (show "LieCandlesModel" ≠ _; decide +kernel), by (show "LieCandlesModel" ≠ _; decide +kernel), by (show (parseMethodDescriptor "()V").map _ = _; decide +kernel)⟩
def jM_X12_lightTold : jl_MC := (yX12_lightTold, cX12_lightTold, 6, none, { frames := 6, cells := 0, slots := 0, locals := 600 })
theorem jv_X12_lightTold : jl_MV jM_X12_lightTold 1 := ⟨jw_1639, jwp_59, jw_13, jw_1640, by (show "LieCandlesModel" ≠ _; decide +kernel), by (show "LieCandlesModel" ≠ _; decide +kernel), by (show (parseMethodDescriptor "(I)V").map _ = _; decide +kernel)⟩
def jM_X12_qCode : jl_MC := (yX12_qCode, cX12_qCode, 2, none, { frames := 1, cells := 0, slots := 0, locals := 100 })
theorem jv_X12_qCode : jl_MV jM_X12_qCode 1 := ⟨jw_1659, jwp_64, jw_13, jw_1660, by (show "LieCandlesModel" ≠ _; decide +kernel), by (show "LieCandlesModel" ≠ _; decide +kernel), by (show (parseMethodDescriptor "(I)V").map _ = _; decide +kernel)⟩
def jM_X12_qDrops : jl_MC := (yX12_qDrops, cX12_qDrops, 1, none, { frames := 2, cells := 0, slots := 0, locals := 200 })
theorem jv_X12_qDrops : jl_MV jM_X12_qDrops 0 := ⟨jw_1694, jwp_72, jw_13, jw_1695, by (show "LieCandlesModel" ≠ _; decide +kernel), by (show "LieCandlesModel" ≠ _; decide +kernel), by (show (parseMethodDescriptor "()V").map _ = _; decide +kernel)⟩
def jM_X12_qIsBracket : jl_MC := (yX12_qIsBracket, cX12_qIsBracket, 1, some .boolean, { frames := 1, cells := 0, slots := 0, locals := 100 })
theorem jv_X12_qIsBracket : jl_MS jM_X12_qIsBracket 1 := ⟨jw_1705, jw_13, jw_1706, by decide +kernel, by decide +kernel, by decide +kernel⟩
def jM_X12_qBracket : jl_MC := (yX12_qBracket, cX12_qBracket, 2, some .int, { frames := 2, cells := 0, slots := 0, locals := 200 })
theorem jv_X12_qBracket : jl_MV jM_X12_qBracket 0 := ⟨jw_1702, jwp_74, jw_13, jw_1703, by (show "LieCandlesModel" ≠ _; decide +kernel), by (show "LieCandlesModel" ≠ _; decide +kernel), by (show (parseMethodDescriptor "()I").map _ = _; decide +kernel)⟩
def jM_X12_qDropsToBracket : jl_MC := (yX12_qDropsToBracket, cX12_qDropsToBracket, 1, none, { frames := 3, cells := 0, slots := 0, locals := 300 })
theorem jv_X12_qDropsToBracket : jl_MV jM_X12_qDropsToBracket 0 := ⟨jw_1709, jwp_75, jw_13, jw_1710, by (show "LieCandlesModel" ≠ _; decide +kernel), by (show "LieCandlesModel" ≠ _; decide +kernel), by (show (parseMethodDescriptor "()V").map _ = _; decide +kernel)⟩
def jM_X12_qEndsPart : jl_MC := (yX12_qEndsPart, cX12_qEndsPart, 1, none, { frames := 3, cells := 0, slots := 0, locals := 300 })
theorem jv_X12_qEndsPart : jl_MV jM_X12_qEndsPart 0 := ⟨jw_1690, jwp_71, jw_13, jw_1691, by (show "LieCandlesModel" ≠ _; decide +kernel), by (show "LieCandlesModel" ≠ _; decide +kernel), by (show (parseMethodDescriptor "()V").map _ = _; decide +kernel)⟩
def jM_X12_qIsOn : jl_MC := (yX12_qIsOn, cX12_qIsOn, 2, some .boolean, { frames := 1, cells := 0, slots := 0, locals := 100 })
theorem jv_X12_qIsOn : jl_MV jM_X12_qIsOn 1 := ⟨jw_1713, jwp_76, jw_13, jw_1714, by (show "LieCandlesModel" ≠ _; decide +kernel), by (show "LieCandlesModel" ≠ _; decide +kernel), by (show (parseMethodDescriptor "(I)Z").map _ = _; decide +kernel)⟩
def jM_X12_qGoesOn : jl_MC := (yX12_qGoesOn, cX12_qGoesOn, 2, some .boolean, { frames := 4, cells := 0, slots := 0, locals := 400 })
theorem jv_X12_qGoesOn : jl_MV jM_X12_qGoesOn 0 := ⟨jw_1698, jwp_73, jw_13, jw_1699, by (show "LieCandlesModel" ≠ _; decide +kernel), by (show "LieCandlesModel" ≠ _; decide +kernel), by (show (parseMethodDescriptor "()Z").map _ = _; decide +kernel)⟩
def jM_X12_qAsksWord : jl_MC := (yX12_qAsksWord, cX12_qAsksWord, 2, none, { frames := 5, cells := 0, slots := 0, locals := 500 })
theorem jv_X12_qAsksWord : jl_MV jM_X12_qAsksWord 1 := ⟨jw_1686, jwp_70, jw_13, jw_1687, by (show "LieCandlesModel" ≠ _; decide +kernel), by (show "LieCandlesModel" ≠ _; decide +kernel), by (show (parseMethodDescriptor "(I)V").map _ = _; decide +kernel)⟩
def jM_X12_qOpens : jl_MC := (yX12_qOpens, cX12_qOpens, 3, none, { frames := 2, cells := 0, slots := 0, locals := 200 })
theorem jv_X12_qOpens : jl_MV jM_X12_qOpens 2 := ⟨jw_1651, jwp_62, jw_13, jw_1652, by (show "LieCandlesModel" ≠ _; decide +kernel), by (show "LieCandlesModel" ≠ _; decide +kernel), by (show (parseMethodDescriptor "(II)V").map _ = _; decide +kernel)⟩
def jM_X12_qWordHere : jl_MC := (yX12_qWordHere, cX12_qWordHere, 1, some .int, { frames := 3, cells := 0, slots := 0, locals := 300 })
theorem jv_X12_qWordHere : jl_MV jM_X12_qWordHere 0 := ⟨jw_1675, jwp_68, jw_13, jw_1676, by (show "LieCandlesModel" ≠ _; decide +kernel), by (show "LieCandlesModel" ≠ _; decide +kernel), by (show (parseMethodDescriptor "()I").map _ = _; decide +kernel)⟩
def jM_X12_qWordOf : jl_MC := (yX12_qWordOf, cX12_qWordOf, 4, some .int, { frames := 4, cells := 0, slots := 0, locals := 400 })
theorem jv_X12_qWordOf : jl_MV jM_X12_qWordOf 2 := ⟨jw_1671, jwp_67, jw_13, jw_1672, by (show "LieCandlesModel" ≠ _; decide +kernel), by (show "LieCandlesModel" ≠ _; decide +kernel), by (show (parseMethodDescriptor "(II)I").map _ = _; decide +kernel)⟩
def jM_X12_qPartTold : jl_MC := (yX12_qPartTold, cX12_qPartTold, 6, none, { frames := 6, cells := 0, slots := 0, locals := 600 })
theorem jv_X12_qPartTold : jl_MV jM_X12_qPartTold 0 := ⟨jw_1667, jwp_66, jw_13, jw_1668, by (show "LieCandlesModel" ≠ _; decide +kernel), by (show "LieCandlesModel" ≠ _; decide +kernel), by (show (parseMethodDescriptor "()V").map _ = _; decide +kernel)⟩
def jM_X12_qSums : jl_MC := (yX12_qSums, cX12_qSums, 3, none, { frames := 7, cells := 0, slots := 0, locals := 700 })
theorem jv_X12_qSums : jl_MV jM_X12_qSums 0 := ⟨jw_1663, jwp_65, jw_13, jw_1664, by (show "LieCandlesModel" ≠ _; decide +kernel), by (show "LieCandlesModel" ≠ _; decide +kernel), by (show (parseMethodDescriptor "()V").map _ = _; decide +kernel)⟩
def jM_X12_qDropsNots : jl_MC := (yX12_qDropsNots, cX12_qDropsNots, 1, none, { frames := 3, cells := 0, slots := 0, locals := 300 })
theorem jv_X12_qDropsNots : jl_MV jM_X12_qDropsNots 0 := ⟨jw_1717, jwp_77, jw_13, jw_1718, by (show "LieCandlesModel" ≠ _; decide +kernel), by (show "LieCandlesModel" ≠ _; decide +kernel), by (show (parseMethodDescriptor "()V").map _ = _; decide +kernel)⟩
def jM_X12_qFact : jl_MC := (yX12_qFact, cX12_qFact, 2, none, { frames := 8, cells := 0, slots := 0, locals := 800 })
theorem jv_X12_qFact : jl_MV jM_X12_qFact 0 := ⟨jw_1655, jwp_63, jw_13, jw_1656, by (show "LieCandlesModel" ≠ _; decide +kernel), by (show "LieCandlesModel" ≠ _; decide +kernel), by (show (parseMethodDescriptor "()V").map _ = _; decide +kernel)⟩
def jM_X12_qHasSquare : jl_MC := (yX12_qHasSquare, cX12_qHasSquare, 2, some .boolean, { frames := 1, cells := 0, slots := 0, locals := 100 })
theorem jv_X12_qHasSquare : jl_MV jM_X12_qHasSquare 0 := ⟨jw_1725, jwp_79, jw_13, jw_1726, by (show "LieCandlesModel" ≠ _; decide +kernel), by (show "LieCandlesModel" ≠ _; decide +kernel), by (show (parseMethodDescriptor "()Z").map _ = _; decide +kernel)⟩
def jM_X12_qGoesOnTest : jl_MC := (yX12_qGoesOnTest, cX12_qGoesOnTest, 1, some .boolean, { frames := 4, cells := 0, slots := 0, locals := 400 })
theorem jv_X12_qGoesOnTest : jl_MV jM_X12_qGoesOnTest 0 := ⟨jw_1721, jwp_78, jw_13, jw_1722, by (show "LieCandlesModel" ≠ _; decide +kernel), by (show "LieCandlesModel" ≠ _; decide +kernel), by (show (parseMethodDescriptor "()Z").map _ = _; decide +kernel)⟩
def jM_X12_qTest : jl_MC := (yX12_qTest, cX12_qTest, 3, none, { frames := 9, cells := 0, slots := 0, locals := 900 })
theorem jv_X12_qTest : jl_MV jM_X12_qTest 0 := ⟨jw_1647, jwp_61, jw_13, jw_1648, by (show "LieCandlesModel" ≠ _; decide +kernel), by (show "LieCandlesModel" ≠ _; decide +kernel), by (show (parseMethodDescriptor "()V").map _ = _; decide +kernel)⟩
def jM_X12_codesTold : jl_MC := (yX12_codesTold, cX12_codesTold, 4, none, { frames := 10, cells := 0, slots := 0, locals := 1000 })
theorem jv_X12_codesTold : jl_MV jM_X12_codesTold 2 := ⟨jw_1643, jwp_60, jw_13, jw_1644, by (show "LieCandlesModel" ≠ _; decide +kernel), by (show "LieCandlesModel" ≠ _; decide +kernel), by (show (parseMethodDescriptor "(II)V").map _ = _; decide +kernel)⟩
def jM_X12_statementTold : jl_MC := (yX12_statementTold, cX12_statementTold, 2, none, { frames := 11, cells := 0, slots := 0, locals := 1100 })
theorem jv_X12_statementTold : jl_MV jM_X12_statementTold 0 := ⟨jw_1601, jwp_50, jw_13, jw_1602, by (show "LieCandlesModel" ≠ _; decide +kernel), by (show "LieCandlesModel" ≠ _; decide +kernel), by (show (parseMethodDescriptor "()V").map _ = _; decide +kernel)⟩
def jM_X12_refuses : jl_MC := (yX12_refuses, cX12_refuses, 2, some .int, { frames := 1, cells := 0, slots := 0, locals := 100 })
theorem jv_X12_refuses : jl_MV jM_X12_refuses 1 := ⟨jw_1729, jwp_80, jw_13, jw_1730, by (show "LieCandlesModel" ≠ _; decide +kernel), by (show "LieCandlesModel" ≠ _; decide +kernel), by (show (parseMethodDescriptor "(I)I").map _ = _; decide +kernel)⟩
def jM_X12_stands : jl_MC := (yX12_stands, cX12_stands, 2, none, { frames := 1, cells := 0, slots := 0, locals := 100 })
theorem jv_X12_stands : jl_MV jM_X12_stands 0 := ⟨jw_1733, jwp_81, jw_13, jw_1734, by (show "LieCandlesModel" ≠ _; decide +kernel), by (show "LieCandlesModel" ≠ _; decide +kernel), by (show (parseMethodDescriptor "()V").map _ = _; decide +kernel)⟩
def jM_X12_street : jl_MC := (yX12_street, cX12_street, 2, some .int, { frames := 12, cells := 0, slots := 0, locals := 1200 })
theorem jv_X12_street : jl_MV jM_X12_street 0 := ⟨jw_1551, jw_1552, jw_13, jw_1553, by (show "LieCandlesModel" ≠ _; decide +kernel), by (show "LieCandlesModel" ≠ _; decide +kernel), by (show (parseMethodDescriptor "()I").map _ = _; decide +kernel)⟩
def jM_X12_fault : jl_MC := (yX12_fault, cX12_fault, 2, some .int, { frames := 1, cells := 0, slots := 0, locals := 100 })
theorem jv_X12_fault : jl_MV jM_X12_fault 1 := ⟨jw_1736, jw_1737, jw_13, jw_1738, by (show "LieCandlesModel" ≠ _; decide +kernel), by (show "LieCandlesModel" ≠ _; decide +kernel), by (show (parseMethodDescriptor "(I)I").map _ = _; decide +kernel)⟩
def jM_X12_windowMany : jl_MC := (yX12_windowMany, cX12_windowMany, 1, some .int, { frames := 1, cells := 0, slots := 0, locals := 100 })
theorem jv_X12_windowMany : jl_MV jM_X12_windowMany 0 := ⟨jw_1745, jwp_82, jw_13, jw_1746, by (show "LieCandlesModel" ≠ _; decide +kernel), by (show "LieCandlesModel" ≠ _; decide +kernel), by (show (parseMethodDescriptor "()I").map _ = _; decide +kernel)⟩
def jM_X12_personMany : jl_MC := (yX12_personMany, cX12_personMany, 1, some .int, { frames := 1, cells := 0, slots := 0, locals := 100 })
theorem jv_X12_personMany : jl_MV jM_X12_personMany 0 := ⟨jw_1749, jwp_83, jw_13, jw_1750, by (show "LieCandlesModel" ≠ _; decide +kernel), by (show "LieCandlesModel" ≠ _; decide +kernel), by (show (parseMethodDescriptor "()I").map _ = _; decide +kernel)⟩
def jM_X12_lieMany : jl_MC := (yX12_lieMany, cX12_lieMany, 1, some .int, { frames := 1, cells := 0, slots := 0, locals := 100 })
theorem jv_X12_lieMany : jl_MV jM_X12_lieMany 0 := ⟨jw_1753, jwp_84, jw_13, jw_1754, by (show "LieCandlesModel" ≠ _; decide +kernel), by (show "LieCandlesModel" ≠ _; decide +kernel), by (show (parseMethodDescriptor "()I").map _ = _; decide +kernel)⟩
def jM_X12_planMany : jl_MC := (yX12_planMany, cX12_planMany, 1, some .int, { frames := 1, cells := 0, slots := 0, locals := 100 })
theorem jv_X12_planMany : jl_MV jM_X12_planMany 0 := ⟨jw_1757, jwp_85, jw_13, jw_1758, by (show "LieCandlesModel" ≠ _; decide +kernel), by (show "LieCandlesModel" ≠ _; decide +kernel), by (show (parseMethodDescriptor "()I").map _ = _; decide +kernel)⟩
def jM_X12_isWindow : jl_MC := (yX12_isWindow, cX12_isWindow, 3, some .boolean, { frames := 2, cells := 0, slots := 0, locals := 200 })
theorem jv_X12_isWindow : jl_MV jM_X12_isWindow 1 := ⟨jw_1868, jwp_105, jw_13, jw_1869, by (show "LieCandlesModel" ≠ _; decide +kernel), by (show "LieCandlesModel" ≠ _; decide +kernel), by (show (parseMethodDescriptor "(J)Z").map _ = _; decide +kernel)⟩
def jM_X12_isPerson : jl_MC := (yX12_isPerson, cX12_isPerson, 2, some .boolean, { frames := 2, cells := 0, slots := 0, locals := 200 })
theorem jv_X12_isPerson : jl_MV jM_X12_isPerson 1 := ⟨jw_1840, jwp_100, jw_13, jw_1841, by (show "LieCandlesModel" ≠ _; decide +kernel), by (show "LieCandlesModel" ≠ _; decide +kernel), by (show (parseMethodDescriptor "(I)Z").map _ = _; decide +kernel)⟩
def jM_X12_isLie : jl_MC := (yX12_isLie, cX12_isLie, 3, some .boolean, { frames := 2, cells := 0, slots := 0, locals := 200 })
theorem jv_X12_isLie : jl_MV jM_X12_isLie 1 := ⟨jw_1852, jwp_102, jw_13, jw_1853, by (show "LieCandlesModel" ≠ _; decide +kernel), by (show "LieCandlesModel" ≠ _; decide +kernel), by (show (parseMethodDescriptor "(J)Z").map _ = _; decide +kernel)⟩
def jM_X12_personOf : jl_MC := (yX12_personOf, cX12_personOf, 2, some .int, { frames := 1, cells := 0, slots := 0, locals := 100 })
theorem jv_X12_personOf : jl_MV jM_X12_personOf 1 := ⟨jw_1805, jwp_97, jw_13, jw_1806, by (show "LieCandlesModel" ≠ _; decide +kernel), by (show "LieCandlesModel" ≠ _; decide +kernel), by (show (parseMethodDescriptor "(I)I").map _ = _; decide +kernel)⟩
def jM_X12_hangsOn : jl_MC := (yX12_hangsOn, cX12_hangsOn, 2, some .int, { frames := 1, cells := 0, slots := 0, locals := 100 })
theorem jv_X12_hangsOn : jl_MV jM_X12_hangsOn 1 := ⟨jw_1825, jwp_99, jw_13, jw_1826, by (show "LieCandlesModel" ≠ _; decide +kernel), by (show "LieCandlesModel" ≠ _; decide +kernel), by (show (parseMethodDescriptor "(I)I").map _ = _; decide +kernel)⟩
def jM_X12_windowOf : jl_MC := (yX12_windowOf, cX12_windowOf, 2, some .int, { frames := 2, cells := 0, slots := 0, locals := 200 })
theorem jv_X12_windowOf : jl_MV jM_X12_windowOf 1 := ⟨jw_1801, jwp_96, jw_13, jw_1802, by (show "LieCandlesModel" ≠ _; decide +kernel), by (show "LieCandlesModel" ≠ _; decide +kernel), by (show (parseMethodDescriptor "(I)I").map _ = _; decide +kernel)⟩
def jM_X12_isLit : jl_MC := (yX12_isLit, cX12_isLit, 2, some .boolean, { frames := 1, cells := 0, slots := 0, locals := 100 })
theorem jv_X12_isLit : jl_MV jM_X12_isLit 1 := ⟨jw_1765, jwp_87, jw_13, jw_1766, by (show "LieCandlesModel" ≠ _; decide +kernel), by (show "LieCandlesModel" ≠ _; decide +kernel), by (show (parseMethodDescriptor "(I)Z").map _ = _; decide +kernel)⟩
def jM_X12_litIn : jl_MC := (yX12_litIn, cX12_litIn, 4, some .int, { frames := 3, cells := 0, slots := 0, locals := 300 })
theorem jv_X12_litIn : jl_MV jM_X12_litIn 1 := ⟨jw_1992, jwp_123, jw_13, jw_1993, by (show "LieCandlesModel" ≠ _; decide +kernel), by (show "LieCandlesModel" ≠ _; decide +kernel), by (show (parseMethodDescriptor "(I)I").map _ = _; decide +kernel)⟩
def jM_X12_nearTo : jl_MC := (yX12_nearTo, cX12_nearTo, 4, some .int, { frames := 3, cells := 0, slots := 0, locals := 300 })
theorem jv_X12_nearTo : jl_MV jM_X12_nearTo 1 := ⟨jw_1797, jwp_95, jw_13, jw_1798, by (show "LieCandlesModel" ≠ _; decide +kernel), by (show "LieCandlesModel" ≠ _; decide +kernel), by (show (parseMethodDescriptor "(I)I").map _ = _; decide +kernel)⟩
def jM_X12_isCoded : jl_MC := (yX12_isCoded, cX12_isCoded, 2, some .boolean, { frames := 1, cells := 0, slots := 0, locals := 100 })
theorem jv_X12_isCoded : jl_MV jM_X12_isCoded 1 := ⟨jw_1781, jwp_91, jw_13, jw_1782, by (show "LieCandlesModel" ≠ _; decide +kernel), by (show "LieCandlesModel" ≠ _; decide +kernel), by (show (parseMethodDescriptor "(I)Z").map _ = _; decide +kernel)⟩
def jM_X12_qClip : jl_MC := (yX12_qClip, cX12_qClip, 2, some .long, { frames := 1, cells := 0, slots := 0, locals := 100 })
theorem jv_X12_qClip : jl_MS jM_X12_qClip 1 := ⟨jw_1813, jw_13, jw_1814, by decide +kernel, by decide +kernel, by decide +kernel⟩
def jM_X12_qFloor : jl_MC := (yX12_qFloor, cX12_qFloor, 6, some .long, { frames := 1, cells := 0, slots := 0, locals := 100 })
theorem jv_X12_qFloor : jl_MS jM_X12_qFloor 2 := ⟨jw_1818, jw_13, jw_1819, by decide +kernel, by decide +kernel, by decide +kernel⟩
def jM_X12_qPuts : jl_MC := (yX12_qPuts, cX12_qPuts, 3, none, { frames := 1, cells := 0, slots := 0, locals := 100 })
theorem jv_X12_qPuts : jl_MV jM_X12_qPuts 1 := ⟨jw_1789, jwp_93, jw_13, jw_1790, by (show "LieCandlesModel" ≠ _; decide +kernel), by (show "LieCandlesModel" ≠ _; decide +kernel), by (show (parseMethodDescriptor "(J)V").map _ = _; decide +kernel)⟩
def jM_X12_qJoins : jl_MC := (yX12_qJoins, cX12_qJoins, 6, none, { frames := 2, cells := 0, slots := 0, locals := 200 })
theorem jv_X12_qJoins : jl_MV jM_X12_qJoins 1 := ⟨jw_1810, jwp_98, jw_13, jw_1811, by (show "LieCandlesModel" ≠ _; decide +kernel), by (show "LieCandlesModel" ≠ _; decide +kernel), by (show (parseMethodDescriptor "(I)V").map _ = _; decide +kernel)⟩
def jM_X12_qPartOf : jl_MC := (yX12_qPartOf, cX12_qPartOf, 3, some .long, { frames := 4, cells := 0, slots := 0, locals := 400 })
theorem jv_X12_qPartOf : jl_MV jM_X12_qPartOf 2 := ⟨jw_1793, jwp_94, jw_13, jw_1794, by (show "LieCandlesModel" ≠ _; decide +kernel), by (show "LieCandlesModel" ≠ _; decide +kernel), by (show (parseMethodDescriptor "(II)J").map _ = _; decide +kernel)⟩
def jM_X12_codesTell : jl_MC := (yX12_codesTell, cX12_codesTell, 4, some .long, { frames := 5, cells := 0, slots := 0, locals := 500 })
theorem jv_X12_codesTell : jl_MV jM_X12_codesTell 1 := ⟨jw_1785, jwp_92, jw_13, jw_1786, by (show "LieCandlesModel" ≠ _; decide +kernel), by (show "LieCandlesModel" ≠ _; decide +kernel), by (show (parseMethodDescriptor "(I)J").map _ = _; decide +kernel)⟩
def jM_X12_draftAt : jl_MC := (yX12_draftAt, cX12_draftAt, 2, some .int, { frames := 6, cells := 0, slots := 0, locals := 600 })
theorem jv_X12_draftAt : jl_MV jM_X12_draftAt 1 := ⟨jw_1777, jwp_90, jw_13, jw_1778, by (show "LieCandlesModel" ≠ _; decide +kernel), by (show "LieCandlesModel" ≠ _; decide +kernel), by (show (parseMethodDescriptor "(I)I").map _ = _; decide +kernel)⟩
def jM_X12_laysDrafts : jl_MC := (yX12_laysDrafts, cX12_laysDrafts, 2, none, { frames := 7, cells := 0, slots := 0, locals := 700 })
theorem jv_X12_laysDrafts : jl_MV jM_X12_laysDrafts 0 := ⟨jw_1773, jwp_89, jw_13, jw_1774, by (show "LieCandlesModel" ≠ _; decide +kernel), by (show "LieCandlesModel" ≠ _; decide +kernel), by (show (parseMethodDescriptor "()V").map _ = _; decide +kernel)⟩
def jM_X12_laysHeld : jl_MC := (yX12_laysHeld, cX12_laysHeld, 3, some .int, { frames := 8, cells := 0, slots := 0, locals := 800 })
theorem jv_X12_laysHeld : jl_MV jM_X12_laysHeld 0 := ⟨jw_1769, jwp_88, jw_13, jw_1770, by (show "LieCandlesModel" ≠ _; decide +kernel), by (show "LieCandlesModel" ≠ _; decide +kernel), by (show (parseMethodDescriptor "()I").map _ = _; decide +kernel)⟩
def jM_X12_isHeld : jl_MC := (yX12_isHeld, cX12_isHeld, 2, some .boolean, { frames := 9, cells := 0, slots := 0, locals := 900 })
theorem jv_X12_isHeld : jl_MV jM_X12_isHeld 1 := ⟨jw_1856, jwp_103, jw_13, jw_1857, by (show "LieCandlesModel" ≠ _; decide +kernel), by (show "LieCandlesModel" ≠ _; decide +kernel), by (show (parseMethodDescriptor "(I)Z").map _ = _; decide +kernel)⟩
def jM_X12_bits : jl_MC := (yX12_bits, cX12_bits, 3, some .int, { frames := 1, cells := 0, slots := 0, locals := 100 })
theorem jv_X12_bits : jl_MS jM_X12_bits 1 := ⟨jw_1828, jw_13, jw_1829, by decide +kernel, by decide +kernel, by decide +kernel⟩
def jM_X12_isKept : jl_MC := (yX12_isKept, cX12_isKept, 3, none, { frames := 1, cells := 0, slots := 0, locals := 100 })
theorem jv_X12_isKept : jl_MV jM_X12_isKept 1 := ⟨jw_1916, jwp_114, jw_13, jw_1917, by (show "LieCandlesModel" ≠ _; decide +kernel), by (show "LieCandlesModel" ≠ _; decide +kernel), by (show (parseMethodDescriptor "(I)V").map _ = _; decide +kernel)⟩
def jM_X12_darkens : jl_MC := (yX12_darkens, cX12_darkens, 2, none, { frames := 1, cells := 0, slots := 0, locals := 100 })
theorem jv_X12_darkens : jl_MV jM_X12_darkens 1 := ⟨jw_1912, jwp_113, jw_13, jw_1913, by (show "LieCandlesModel" ≠ _; decide +kernel), by (show "LieCandlesModel" ≠ _; decide +kernel), by (show (parseMethodDescriptor "(I)V").map _ = _; decide +kernel)⟩
def jM_X12_goesOut : jl_MC := (yX12_goesOut, cX12_goesOut, 2, none, { frames := 2, cells := 0, slots := 0, locals := 200 })
theorem jv_X12_goesOut : jl_MV jM_X12_goesOut 1 := ⟨jw_1908, jwp_112, jw_13, jw_1909, by (show "LieCandlesModel" ≠ _; decide +kernel), by (show "LieCandlesModel" ≠ _; decide +kernel), by (show (parseMethodDescriptor "(I)V").map _ = _; decide +kernel)⟩
def jM_X12_planGoes : jl_MC := (yX12_planGoes, cX12_planGoes, 4, none, { frames := 2, cells := 0, slots := 0, locals := 200 })
theorem jv_X12_planGoes : jl_MV jM_X12_planGoes 0 := ⟨jw_1900, jwp_110, jw_13, jw_1901, by (show "LieCandlesModel" ≠ _; decide +kernel), by (show "LieCandlesModel" ≠ _; decide +kernel), by (show (parseMethodDescriptor "()V").map _ = _; decide +kernel)⟩
def jM_X12_burnt : jl_MC := (yX12_burnt, cX12_burnt, 2, some .int, { frames := 6, cells := 0, slots := 0, locals := 600 })
theorem jv_X12_burnt : jl_MV jM_X12_burnt 1 := ⟨jw_1904, jwp_111, jw_13, jw_1905, by (show "LieCandlesModel" ≠ _; decide +kernel), by (show "LieCandlesModel" ≠ _; decide +kernel), by (show (parseMethodDescriptor "(I)I").map _ = _; decide +kernel)⟩
def jM_X12_hourGoes : jl_MC := (yX12_hourGoes, cX12_hourGoes, 2, none, { frames := 8, cells := 0, slots := 0, locals := 800 })
theorem jv_X12_hourGoes : jl_MV jM_X12_hourGoes 0 := ⟨jw_1896, jwp_109, jw_13, jw_1897, by (show "LieCandlesModel" ≠ _; decide +kernel), by (show "LieCandlesModel" ≠ _; decide +kernel), by (show (parseMethodDescriptor "()V").map _ = _; decide +kernel)⟩
def jM_X12_hoursGo : jl_MC := (yX12_hoursGo, cX12_hoursGo, 3, none, { frames := 9, cells := 0, slots := 0, locals := 900 })
theorem jv_X12_hoursGo : jl_MV jM_X12_hoursGo 1 := ⟨jw_1892, jwp_108, jw_13, jw_1893, by (show "LieCandlesModel" ≠ _; decide +kernel), by (show "LieCandlesModel" ≠ _; decide +kernel), by (show (parseMethodDescriptor "(I)V").map _ = _; decide +kernel)⟩
def jM_X12_blows : jl_MC := (yX12_blows, cX12_blows, 3, none, { frames := 3, cells := 0, slots := 0, locals := 300 })
theorem jv_X12_blows : jl_MV jM_X12_blows 1 := ⟨jw_1972, jwp_120, jw_13, jw_1973, by (show "LieCandlesModel" ≠ _; decide +kernel), by (show "LieCandlesModel" ≠ _; decide +kernel), by (show (parseMethodDescriptor "(I)V").map _ = _; decide +kernel)⟩
def jM_X12_putsAside : jl_MC := (yX12_putsAside, cX12_putsAside, 2, none, { frames := 1, cells := 0, slots := 0, locals := 100 })
theorem jv_X12_putsAside : jl_MV jM_X12_putsAside 0 := ⟨jw_1888, jwp_107, jw_13, jw_1889, by (show "LieCandlesModel" ≠ _; decide +kernel), by (show "LieCandlesModel" ≠ _; decide +kernel), by (show (parseMethodDescriptor "()V").map _ = _; decide +kernel)⟩
def jM_X12_triesAnew : jl_MC := (yX12_triesAnew, cX12_triesAnew, 2, none, { frames := 1, cells := 0, slots := 0, locals := 100 })
theorem jv_X12_triesAnew : jl_MV jM_X12_triesAnew 0 := ⟨jw_1924, jwp_116, jw_13, jw_1925, by (show "LieCandlesModel" ≠ _; decide +kernel), by (show "LieCandlesModel" ≠ _; decide +kernel), by (show (parseMethodDescriptor "()V").map _ = _; decide +kernel)⟩
def jM_X12_takesBack : jl_MC := (yX12_takesBack, cX12_takesBack, 1, none, { frames := 2, cells := 0, slots := 0, locals := 200 })
theorem jv_X12_takesBack : jl_MV jM_X12_takesBack 0 := ⟨jw_1920, jwp_115, jw_13, jw_1921, by (show "LieCandlesModel" ≠ _; decide +kernel), by (show "LieCandlesModel" ≠ _; decide +kernel), by (show (parseMethodDescriptor "()V").map _ = _; decide +kernel)⟩
def jM_X12_isAhead : jl_MC := (yX12_isAhead, cX12_isAhead, 4, some .boolean, { frames := 2, cells := 0, slots := 0, locals := 200 })
theorem jv_X12_isAhead : jl_MV jM_X12_isAhead 3 := ⟨jw_1872, jwp_106, jw_13, jw_1873, by (show "LieCandlesModel" ≠ _; decide +kernel), by (show "LieCandlesModel" ≠ _; decide +kernel), by (show (parseMethodDescriptor "(III)Z").map _ = _; decide +kernel)⟩
def jM_X12_litMany : jl_MC := (yX12_litMany, cX12_litMany, 3, some .int, { frames := 2, cells := 0, slots := 0, locals := 200 })
theorem jv_X12_litMany : jl_MV jM_X12_litMany 0 := ⟨jw_1761, jwp_86, jw_13, jw_1762, by (show "LieCandlesModel" ≠ _; decide +kernel), by (show "LieCandlesModel" ≠ _; decide +kernel), by (show (parseMethodDescriptor "()I").map _ = _; decide +kernel)⟩
def jM_X12_has : jl_MC := (yX12_has, cX12_has, 2, some .int, { frames := 9, cells := 0, slots := 0, locals := 900 })
theorem jv_X12_has : jl_MV jM_X12_has 1 := ⟨jw_1740, jw_1741, jw_13, jw_1742, by (show "LieCandlesModel" ≠ _; decide +kernel), by (show "LieCandlesModel" ≠ _; decide +kernel), by (show (parseMethodDescriptor "(I)I").map _ = _; decide +kernel)⟩
def jM_X12_letter : jl_MC := (yX12_letter, cX12_letter, 9, some .int, { frames := 2, cells := 0, slots := 0, locals := 200 })
theorem jv_X12_letter : jl_MV jM_X12_letter 3 := ⟨jw_1831, jw_1832, jw_13, jw_1833, by (show "LieCandlesModel" ≠ _; decide +kernel), by (show "LieCandlesModel" ≠ _; decide +kernel), by (show (parseMethodDescriptor "(III)I").map _ = _; decide +kernel)⟩
def jM_X12_litOf : jl_MC := (yX12_litOf, cX12_litOf, 4, some .int, { frames := 2, cells := 0, slots := 0, locals := 200 })
theorem jv_X12_litOf : jl_MV jM_X12_litOf 1 := ⟨jw_1844, jwp_101, jw_13, jw_1845, by (show "LieCandlesModel" ≠ _; decide +kernel), by (show "LieCandlesModel" ≠ _; decide +kernel), by (show (parseMethodDescriptor "(I)I").map _ = _; decide +kernel)⟩
def jM_X12_person : jl_MC := (yX12_person, cX12_person, 3, some .int, { frames := 3, cells := 0, slots := 0, locals := 300 })
theorem jv_X12_person : jl_MV jM_X12_person 2 := ⟨jw_1835, jw_1836, jw_13, jw_1837, by (show "LieCandlesModel" ≠ _; decide +kernel), by (show "LieCandlesModel" ≠ _; decide +kernel), by (show (parseMethodDescriptor "(II)I").map _ = _; decide +kernel)⟩
def jM_X12_hangingOn : jl_MC := (yX12_hangingOn, cX12_hangingOn, 4, some .int, { frames := 2, cells := 0, slots := 0, locals := 200 })
theorem jv_X12_hangingOn : jl_MV jM_X12_hangingOn 1 := ⟨jw_1860, jwp_104, jw_13, jw_1861, by (show "LieCandlesModel" ≠ _; decide +kernel), by (show "LieCandlesModel" ≠ _; decide +kernel), by (show (parseMethodDescriptor "(I)I").map _ = _; decide +kernel)⟩
def jM_X12_lie : jl_MC := (yX12_lie, cX12_lie, 3, some .int, { frames := 10, cells := 0, slots := 0, locals := 1000 })
theorem jv_X12_lie : jl_MV jM_X12_lie 2 := ⟨jw_1847, jw_1848, jw_13, jw_1849, by (show "LieCandlesModel" ≠ _; decide +kernel), by (show "LieCandlesModel" ≠ _; decide +kernel), by (show (parseMethodDescriptor "(II)I").map _ = _; decide +kernel)⟩
def jM_X12_draft : jl_MC := (yX12_draft, cX12_draft, 4, some .int, { frames := 7, cells := 0, slots := 0, locals := 700 })
theorem jv_X12_draft : jl_MV jM_X12_draft 2 := ⟨jw_1863, jw_1864, jw_13, jw_1865, by (show "LieCandlesModel" ≠ _; decide +kernel), by (show "LieCandlesModel" ≠ _; decide +kernel), by (show (parseMethodDescriptor "(II)I").map _ = _; decide +kernel)⟩
def jM_X12_plan : jl_MC := (yX12_plan, cX12_plan, 3, some .int, { frames := 2, cells := 0, slots := 0, locals := 200 })
theorem jv_X12_plan : jl_MV jM_X12_plan 2 := ⟨jw_1875, jw_1876, jw_13, jw_1877, by (show "LieCandlesModel" ≠ _; decide +kernel), by (show "LieCandlesModel" ≠ _; decide +kernel), by (show (parseMethodDescriptor "(II)I").map _ = _; decide +kernel)⟩
def jM_X12_kept : jl_MC := (yX12_kept, cX12_kept, 3, some .int, { frames := 2, cells := 0, slots := 0, locals := 200 })
theorem jv_X12_kept : jl_MV jM_X12_kept 2 := ⟨jw_1879, jw_1880, jw_13, jw_1881, by (show "LieCandlesModel" ≠ _; decide +kernel), by (show "LieCandlesModel" ≠ _; decide +kernel), by (show (parseMethodDescriptor "(II)I").map _ = _; decide +kernel)⟩
def jM_X12_later : jl_MC := (yX12_later, cX12_later, 4, some .int, { frames := 10, cells := 0, slots := 0, locals := 1000 })
theorem jv_X12_later : jl_MV jM_X12_later 2 := ⟨jw_1883, jw_1884, jw_13, jw_1885, by (show "LieCandlesModel" ≠ _; decide +kernel), by (show "LieCandlesModel" ≠ _; decide +kernel), by (show (parseMethodDescriptor "(II)I").map _ = _; decide +kernel)⟩
def jM_X12_held : jl_MC := (yX12_held, cX12_held, 4, some .int, { frames := 10, cells := 0, slots := 0, locals := 1000 })
theorem jv_X12_held : jl_MV jM_X12_held 2 := ⟨jw_1927, jw_1928, jw_13, jw_1929, by (show "LieCandlesModel" ≠ _; decide +kernel), by (show "LieCandlesModel" ≠ _; decide +kernel), by (show (parseMethodDescriptor "(II)I").map _ = _; decide +kernel)⟩
def jM_X12_out : jl_MC := (yX12_out, cX12_out, 4, some .int, { frames := 9, cells := 0, slots := 0, locals := 900 })
theorem jv_X12_out : jl_MV jM_X12_out 1 := ⟨jw_1931, jw_1932, jw_13, jw_1933, by (show "LieCandlesModel" ≠ _; decide +kernel), by (show "LieCandlesModel" ≠ _; decide +kernel), by (show (parseMethodDescriptor "(I)I").map _ = _; decide +kernel)⟩
def jM_X12_trusted : jl_MC := (yX12_trusted, cX12_trusted, 7, some .int, { frames := 10, cells := 0, slots := 0, locals := 1000 })
theorem jv_X12_trusted : jl_MV jM_X12_trusted 2 := ⟨jw_1935, jw_1936, jw_13, jw_1937, by (show "LieCandlesModel" ≠ _; decide +kernel), by (show "LieCandlesModel" ≠ _; decide +kernel), by (show (parseMethodDescriptor "(II)I").map _ = _; decide +kernel)⟩
def jM_X12_isEnough : jl_MC := (yX12_isEnough, cX12_isEnough, 5, some .boolean, { frames := 10, cells := 0, slots := 0, locals := 1000 })
theorem jv_X12_isEnough : jl_MV jM_X12_isEnough 3 := ⟨jw_1948, jwp_118, jw_13, jw_1949, by (show "LieCandlesModel" ≠ _; decide +kernel), by (show "LieCandlesModel" ≠ _; decide +kernel), by (show (parseMethodDescriptor "(III)Z").map _ = _; decide +kernel)⟩
def jM_X12_leastFor : jl_MC := (yX12_leastFor, cX12_leastFor, 5, some .int, { frames := 11, cells := 0, slots := 0, locals := 1100 })
theorem jv_X12_leastFor : jl_MV jM_X12_leastFor 2 := ⟨jw_1944, jwp_117, jw_13, jw_1945, by (show "LieCandlesModel" ≠ _; decide +kernel), by (show "LieCandlesModel" ≠ _; decide +kernel), by (show (parseMethodDescriptor "(II)I").map _ = _; decide +kernel)⟩
def jM_X12_shorts : jl_MC := (yX12_shorts, cX12_shorts, 3, some .int, { frames := 12, cells := 0, slots := 0, locals := 1200 })
theorem jv_X12_shorts : jl_MV jM_X12_shorts 2 := ⟨jw_1939, jw_1940, jw_13, jw_1941, by (show "LieCandlesModel" ≠ _; decide +kernel), by (show "LieCandlesModel" ≠ _; decide +kernel), by (show (parseMethodDescriptor "(II)I").map _ = _; decide +kernel)⟩
def jM_X12_together : jl_MC := (yX12_together, cX12_together, 3, some .int, { frames := 12, cells := 0, slots := 0, locals := 1200 })
theorem jv_X12_together : jl_MV jM_X12_together 2 := ⟨jw_1951, jw_1952, jw_13, jw_1953, by (show "LieCandlesModel" ≠ _; decide +kernel), by (show "LieCandlesModel" ≠ _; decide +kernel), by (show (parseMethodDescriptor "(II)I").map _ = _; decide +kernel)⟩
def jM_X12_snuffs : jl_MC := (yX12_snuffs, cX12_snuffs, 2, none, { frames := 2, cells := 0, slots := 0, locals := 200 })
theorem jv_X12_snuffs : jl_MV jM_X12_snuffs 1 := ⟨jw_1960, jwp_119, jw_13, jw_1961, by (show "LieCandlesModel" ≠ _; decide +kernel), by (show "LieCandlesModel" ≠ _; decide +kernel), by (show (parseMethodDescriptor "(I)V").map _ = _; decide +kernel)⟩
def jM_X12_keystone : jl_MC := (yX12_keystone, cX12_keystone, 7, some .int, { frames := 10, cells := 0, slots := 0, locals := 1000 })
theorem jv_X12_keystone : jl_MV jM_X12_keystone 2 := ⟨jw_1955, jw_1956, jw_13, jw_1957, by (show "LieCandlesModel" ≠ _; decide +kernel), by (show "LieCandlesModel" ≠ _; decide +kernel), by (show (parseMethodDescriptor "(II)I").map _ = _; decide +kernel)⟩
def jM_X12_change : jl_MC := (yX12_change, cX12_change, 9, some .int, { frames := 10, cells := 0, slots := 0, locals := 1000 })
theorem jv_X12_change : jl_MV jM_X12_change 2 := ⟨jw_1963, jw_1964, jw_13, jw_1965, by (show "LieCandlesModel" ≠ _; decide +kernel), by (show "LieCandlesModel" ≠ _; decide +kernel), by (show (parseMethodDescriptor "(II)I").map _ = _; decide +kernel)⟩
def jM_X12_odds : jl_MC := (yX12_odds, cX12_odds, 4, some .int, { frames := 10, cells := 0, slots := 0, locals := 1000 })
theorem jv_X12_odds : jl_MV jM_X12_odds 1 := ⟨jw_1967, jw_1968, jw_13, jw_1969, by (show "LieCandlesModel" ≠ _; decide +kernel), by (show "LieCandlesModel" ≠ _; decide +kernel), by (show (parseMethodDescriptor "(I)I").map _ = _; decide +kernel)⟩
def jM_X12_see : jl_MC := (yX12_see, cX12_see, 4, some .int, { frames := 3, cells := 0, slots := 0, locals := 300 })
theorem jv_X12_see : jl_MV jM_X12_see 0 := ⟨jw_1975, jw_1976, jw_13, jw_1977, by (show "LieCandlesModel" ≠ _; decide +kernel), by (show "LieCandlesModel" ≠ _; decide +kernel), by (show (parseMethodDescriptor "()I").map _ = _; decide +kernel)⟩
def jM_X12_isAsSeen : jl_MC := (yX12_isAsSeen, cX12_isAsSeen, 3, some .boolean, { frames := 4, cells := 0, slots := 0, locals := 400 })
theorem jv_X12_isAsSeen : jl_MV jM_X12_isAsSeen 1 := ⟨jw_1988, jwp_122, jw_13, jw_1989, by (show "LieCandlesModel" ≠ _; decide +kernel), by (show "LieCandlesModel" ≠ _; decide +kernel), by (show (parseMethodDescriptor "(I)Z").map _ = _; decide +kernel)⟩
def jM_X12_laysInches : jl_MC := (yX12_laysInches, cX12_laysInches, 5, none, { frames := 9, cells := 0, slots := 0, locals := 900 })
theorem jv_X12_laysInches : jl_MV jM_X12_laysInches 1 := ⟨jw_1984, jwp_121, jw_13, jw_1985, by (show "LieCandlesModel" ≠ _; decide +kernel), by (show "LieCandlesModel" ≠ _; decide +kernel), by (show (parseMethodDescriptor "(I)V").map _ = _; decide +kernel)⟩
def jM_X12_inches : jl_MC := (yX12_inches, cX12_inches, 5, some .int, { frames := 10, cells := 0, slots := 0, locals := 1000 })
theorem jv_X12_inches : jl_MV jM_X12_inches 2 := ⟨jw_1979, jw_1980, jw_13, jw_1981, by (show "LieCandlesModel" ≠ _; decide +kernel), by (show "LieCandlesModel" ≠ _; decide +kernel), by (show (parseMethodDescriptor "(II)I").map _ = _; decide +kernel)⟩
def jM_X12_mostAlike : jl_MC := (yX12_mostAlike, cX12_mostAlike, 5, some .int, { frames := 1, cells := 0, slots := 0, locals := 100 })
theorem jv_X12_mostAlike : jl_MV jM_X12_mostAlike 1 := ⟨jw_2000, jwp_124, jw_13, jw_2001, by (show "LieCandlesModel" ≠ _; decide +kernel), by (show "LieCandlesModel" ≠ _; decide +kernel), by (show (parseMethodDescriptor "(I)I").map _ = _; decide +kernel)⟩
def jM_X12_tells : jl_MC := (yX12_tells, cX12_tells, 9, some .int, { frames := 10, cells := 0, slots := 0, locals := 1000 })
theorem jv_X12_tells : jl_MV jM_X12_tells 2 := ⟨jw_1995, jw_1996, jw_13, jw_1997, by (show "LieCandlesModel" ≠ _; decide +kernel), by (show "LieCandlesModel" ≠ _; decide +kernel), by (show (parseMethodDescriptor "(II)I").map _ = _; decide +kernel)⟩
def jM_X12_keeps : jl_MC := (yX12_keeps, cX12_keeps, 2, none, { frames := 1, cells := 0, slots := 0, locals := 100 })
theorem jv_X12_keeps : jl_MV jM_X12_keeps 0 := ⟨jw_2017, jwp_126, jw_13, jw_2018, by (show "LieCandlesModel" ≠ _; decide +kernel), by (show "LieCandlesModel" ≠ _; decide +kernel), by (show (parseMethodDescriptor "()V").map _ = _; decide +kernel)⟩
def jM_X12_undo : jl_MC := (yX12_undo, cX12_undo, 2, some .boolean, { frames := 1, cells := 0, slots := 0, locals := 100 })
theorem jv_X12_undo : jl_MV jM_X12_undo 0 := ⟨jw_2003, jw_2004, jw_13, jw_2005, by (show "LieCandlesModel" ≠ _; decide +kernel), by (show "LieCandlesModel" ≠ _; decide +kernel), by (show (parseMethodDescriptor "()Z").map _ = _; decide +kernel)⟩
def jM_X12_isRefused : jl_MC := (yX12_isRefused, cX12_isRefused, 2, some .boolean, { frames := 1, cells := 0, slots := 0, locals := 100 })
theorem jv_X12_isRefused : jl_MV jM_X12_isRefused 1 := ⟨jw_2013, jwp_125, jw_13, jw_2014, by (show "LieCandlesModel" ≠ _; decide +kernel), by (show "LieCandlesModel" ≠ _; decide +kernel), by (show (parseMethodDescriptor "(I)Z").map _ = _; decide +kernel)⟩
def jM_X12_light : jl_MC := (yX12_light, cX12_light, 3, some .boolean, { frames := 3, cells := 0, slots := 0, locals := 300 })
theorem jv_X12_light : jl_MV jM_X12_light 2 := ⟨jw_2007, jw_2008, jw_13, jw_2009, by (show "LieCandlesModel" ≠ _; decide +kernel), by (show "LieCandlesModel" ≠ _; decide +kernel), by (show (parseMethodDescriptor "(II)Z").map _ = _; decide +kernel)⟩
def jM_X12_snuff : jl_MC := (yX12_snuff, cX12_snuff, 3, some .int, { frames := 3, cells := 0, slots := 0, locals := 300 })
theorem jv_X12_snuff : jl_MV jM_X12_snuff 1 := ⟨jw_2020, jw_2021, jw_13, jw_2022, by (show "LieCandlesModel" ≠ _; decide +kernel), by (show "LieCandlesModel" ≠ _; decide +kernel), by (show (parseMethodDescriptor "(I)I").map _ = _; decide +kernel)⟩
def jM_X12_move : jl_MC := (yX12_move, cX12_move, 3, some .boolean, { frames := 3, cells := 0, slots := 0, locals := 300 })
theorem jv_X12_move : jl_MV jM_X12_move 2 := ⟨jw_2024, jw_2025, jw_13, jw_2026, by (show "LieCandlesModel" ≠ _; decide +kernel), by (show "LieCandlesModel" ≠ _; decide +kernel), by (show (parseMethodDescriptor "(II)Z").map _ = _; decide +kernel)⟩
def jM_X12_buy : jl_MC := (yX12_buy, cX12_buy, 2, some .int, { frames := 2, cells := 0, slots := 0, locals := 200 })
theorem jv_X12_buy : jl_MV jM_X12_buy 1 := ⟨jw_2028, jw_2029, jw_13, jw_2030, by (show "LieCandlesModel" ≠ _; decide +kernel), by (show "LieCandlesModel" ≠ _; decide +kernel), by (show (parseMethodDescriptor "(I)I").map _ = _; decide +kernel)⟩
def jM_X12_hours : jl_MC := (yX12_hours, cX12_hours, 2, some .int, { frames := 10, cells := 0, slots := 0, locals := 1000 })
theorem jv_X12_hours : jl_MV jM_X12_hours 1 := ⟨jw_2033, jw_2034, jw_13, jw_2035, by (show "LieCandlesModel" ≠ _; decide +kernel), by (show "LieCandlesModel" ≠ _; decide +kernel), by (show (parseMethodDescriptor "(I)I").map _ = _; decide +kernel)⟩
def jM_X12_seed : jl_MC := (yX12_seed, cX12_seed, 2, some .boolean, { frames := 2, cells := 0, slots := 0, locals := 200 })
theorem jv_X12_seed : jl_MV jM_X12_seed 1 := ⟨jw_2037, jw_2038, jw_13, jw_2039, by (show "LieCandlesModel" ≠ _; decide +kernel), by (show "LieCandlesModel" ≠ _; decide +kernel), by (show (parseMethodDescriptor "(I)Z").map _ = _; decide +kernel)⟩
def jM_X12_drawOf : jl_MC := (yX12_drawOf, cX12_drawOf, 2, some .int, { frames := 1, cells := 0, slots := 0, locals := 100 })
theorem jv_X12_drawOf : jl_MV jM_X12_drawOf 1 := ⟨jw_2046, jwp_127, jw_13, jw_2047, by (show "LieCandlesModel" ≠ _; decide +kernel), by (show "LieCandlesModel" ≠ _; decide +kernel), by (show (parseMethodDescriptor "(I)I").map _ = _; decide +kernel)⟩
def jM_X12_chance : jl_MC := (yX12_chance, cX12_chance, 4, some .int, { frames := 9, cells := 0, slots := 0, locals := 900 })
theorem jv_X12_chance : jl_MV jM_X12_chance 1 := ⟨jw_2041, jw_2042, jw_13, jw_2043, by (show "LieCandlesModel" ≠ _; decide +kernel), by (show "LieCandlesModel" ≠ _; decide +kernel), by (show (parseMethodDescriptor "(I)I").map _ = _; decide +kernel)⟩
def jM_X12_qOf : jl_MC := (yX12_qOf, cX12_qOf, 5, some .long, { frames := 4, cells := 0, slots := 0, locals := 400 })
theorem jv_X12_qOf : jl_MV jM_X12_qOf 3 := ⟨jw_2067, jwp_130, jw_13, jw_2068, by (show "LieCandlesModel" ≠ _; decide +kernel), by (show "LieCandlesModel" ≠ _; decide +kernel), by (show (parseMethodDescriptor "(IJI)J").map _ = _; decide +kernel)⟩
def jM_X12_qTold : jl_MC := (yX12_qTold, cX12_qTold, 4, some .long, { frames := 5, cells := 0, slots := 0, locals := 500 })
theorem jv_X12_qTold : jl_MV jM_X12_qTold 1 := ⟨jw_2063, jwp_129, jw_13, jw_2064, by (show "LieCandlesModel" ≠ _; decide +kernel), by (show "LieCandlesModel" ≠ _; decide +kernel), by (show (parseMethodDescriptor "(I)J").map _ = _; decide +kernel)⟩
def jM_X12_qKind : jl_MC := (yX12_qKind, cX12_qKind, 2, some .int, { frames := 5, cells := 0, slots := 0, locals := 500 })
theorem jv_X12_qKind : jl_MV jM_X12_qKind 0 := ⟨jw_2059, jwp_128, jw_13, jw_2060, by (show "LieCandlesModel" ≠ _; decide +kernel), by (show "LieCandlesModel" ≠ _; decide +kernel), by (show (parseMethodDescriptor "()I").map _ = _; decide +kernel)⟩
def jM_X12_qTakes : jl_MC := (yX12_qTakes, cX12_qTakes, 6, none, { frames := 1, cells := 0, slots := 0, locals := 100 })
theorem jv_X12_qTakes : jl_MV jM_X12_qTakes 3 := ⟨jw_2071, jwp_131, jw_13, jw_2072, by (show "LieCandlesModel" ≠ _; decide +kernel), by (show "LieCandlesModel" ≠ _; decide +kernel), by (show (parseMethodDescriptor "(IJI)V").map _ = _; decide +kernel)⟩
def jM_X12_ask : jl_MC := (yX12_ask, cX12_ask, 3, some .long, { frames := 10, cells := 0, slots := 0, locals := 1000 })
theorem jv_X12_ask : jl_MV jM_X12_ask 0 := ⟨jw_2053, jw_2054, jw_13, jw_2055, by (show "LieCandlesModel" ≠ _; decide +kernel), by (show "LieCandlesModel" ≠ _; decide +kernel), by (show (parseMethodDescriptor "()J").map _ = _; decide +kernel)⟩
def jM_X12_checked : jl_MC := (yX12_checked, cX12_checked, 4, some .int, { frames := 1, cells := 0, slots := 0, locals := 100 })
theorem jv_X12_checked : jl_MS jM_X12_checked 2 := ⟨jw_2094, jw_13, jw_2095, by decide +kernel, by decide +kernel, by decide +kernel⟩
def jM_X12_writes : jl_MC := (yX12_writes, cX12_writes, 2, none, { frames := 1, cells := 0, slots := 0, locals := 100 })
theorem jv_X12_writes : jl_MV jM_X12_writes 1 := ⟨jw_2091, jwp_133, jw_13, jw_2092, by (show "LieCandlesModel" ≠ _; decide +kernel), by (show "LieCandlesModel" ≠ _; decide +kernel), by (show (parseMethodDescriptor "(I)V").map _ = _; decide +kernel)⟩
def jM_X12_writesTwo : jl_MC := (yX12_writesTwo, cX12_writesTwo, 2, none, { frames := 2, cells := 0, slots := 0, locals := 200 })
theorem jv_X12_writesTwo : jl_MV jM_X12_writesTwo 1 := ⟨jw_2087, jwp_132, jw_13, jw_2088, by (show "LieCandlesModel" ≠ _; decide +kernel), by (show "LieCandlesModel" ≠ _; decide +kernel), by (show (parseMethodDescriptor "(I)V").map _ = _; decide +kernel)⟩
def jM_X12_twoAt : jl_MC := (yX12_twoAt, cX12_twoAt, 2, some .int, { frames := 1, cells := 0, slots := 0, locals := 100 })
theorem jv_X12_twoAt : jl_MV jM_X12_twoAt 1 := ⟨jw_2106, jwp_135, jw_13, jw_2107, by (show "LieCandlesModel" ≠ _; decide +kernel), by (show "LieCandlesModel" ≠ _; decide +kernel), by (show (parseMethodDescriptor "(I)I").map _ = _; decide +kernel)⟩
def jM_X12_octet : jl_MC := (yX12_octet, cX12_octet, 2, some .int, { frames := 1, cells := 0, slots := 0, locals := 100 })
theorem jv_X12_octet : jl_MV jM_X12_octet 1 := ⟨jw_2074, jw_2075, jw_13, jw_2076, by (show "LieCandlesModel" ≠ _; decide +kernel), by (show "LieCandlesModel" ≠ _; decide +kernel), by (show (parseMethodDescriptor "(I)I").map _ = _; decide +kernel)⟩
def jM_X12_status : jl_MC := (yX12_status, cX12_status, 2, some .int, { frames := 2, cells := 0, slots := 0, locals := 200 })
theorem jv_X12_status : jl_MV jM_X12_status 1 := ⟨jw_2078, jw_2079, jw_13, jw_2080, by (show "LieCandlesModel" ≠ _; decide +kernel), by (show "LieCandlesModel" ≠ _; decide +kernel), by (show (parseMethodDescriptor "(I)I").map _ = _; decide +kernel)⟩
def jM_X12_image : jl_MC := (yX12_image, cX12_image, 2, some .int, { frames := 3, cells := 0, slots := 0, locals := 300 })
theorem jv_X12_image : jl_MV jM_X12_image 0 := ⟨jw_2082, jw_2083, jw_13, jw_2084, by (show "LieCandlesModel" ≠ _; decide +kernel), by (show "LieCandlesModel" ≠ _; decide +kernel), by (show (parseMethodDescriptor "()I").map _ = _; decide +kernel)⟩
def jM_X12_isImage : jl_MC := (yX12_isImage, cX12_isImage, 4, some .boolean, { frames := 3, cells := 0, slots := 0, locals := 300 })
theorem jv_X12_isImage : jl_MV jM_X12_isImage 1 := ⟨jw_2102, jwp_134, jw_13, jw_2103, by (show "LieCandlesModel" ≠ _; decide +kernel), by (show "LieCandlesModel" ≠ _; decide +kernel), by (show (parseMethodDescriptor "(I)Z").map _ = _; decide +kernel)⟩
def jM_X12_on : jl_MC := (yX12_on, cX12_on, 4, some .boolean, { frames := 4, cells := 0, slots := 0, locals := 400 })
theorem jv_X12_on : jl_MV jM_X12_on 0 := ⟨jw_2097, jw_2098, jw_13, jw_2099, by (show "LieCandlesModel" ≠ _; decide +kernel), by (show "LieCandlesModel" ≠ _; decide +kernel), by (show (parseMethodDescriptor "()Z").map _ = _; decide +kernel)⟩
def jl_grp (G : jl_GC) (d : Nat) (rc : Nat → Int → jl_Mm → jl_O) : Prop := (∀ (s : jl_Mm), jC2 G (jM_X4_test d) [jl_vr G 38] s (rc 0 0 s)) ∧ (∀ (s : jl_Mm), jC2 G (jM_X4_both d) [jl_vr G 38] s (rc 1 0 s)) ∧ (∀ (s : jl_Mm), jC2 G (jM_X4_fact d) [jl_vr G 38] s (rc 2 0 s)) ∧ (∀ (s : jl_Mm), jC2 G (jM_X4_sum d) [jl_vr G 38] s (rc 3 0 s)) ∧ (∀ (s : jl_Mm), jC2 G (jM_X4_product d) [jl_vr G 38] s (rc 4 0 s)) ∧ (∀ (s : jl_Mm), jC2 G (jM_X4_part d) [jl_vr G 38] s (rc 5 0 s)) ∧ (∀ (a : Int) (_ : jl_n3 a) (s : jl_Mm), jC2 G (jM_X4_wordPart d) [jl_vr G 38, jl_vi a] s (rc 6 a s)) ∧ (∀ (a : Int) (_ : jl_n3 a) (s : jl_Mm), jC2 G (jM_X4_pairPart d) [jl_vr G 38, jl_vi a] s (rc 7 a s))
theorem jl_cp_i {σ : jl_Mm} {x sp y dp n : Nat} : (fun j => jl_i3 (jl_cp σ x sp y dp n y j)) = va_cpy (fun j => jl_i3 (σ x j)) (fun j => jl_i3 (σ y j)) sp dp n := by
  funext j
  by_cases h : dp ≤ j ∧ j < dp + n <;> simp [jl_cp, va_cpy, h]
theorem jr_copy {lk : jl_LK} {G : jl_GC} {M : jl_MC} {E : jl_EC} {nx ce sl pc : Nat} {ls : List (Nat × Value)} {st : List Value} {σ : jl_Mm} {o : jl_O} {x y n0 n1 idx : Nat} {sp dp nn : Int} (d : decode M.2.1 pc = .ok (.invokestatic idx, 3)) (hk0 : jl_kd x = (20, n0)) (hx : x < nx) (hk1 : jl_kd y = (20, n1)) (hy : y < nx) (hs : jl_n3 sp) (hd : jl_n3 dp) (hn : jl_n3 nn) (h : (0 ≤ sp ∧ 0 ≤ dp ∧ 0 ≤ nn) ∧ sp + nn ≤ (n0 : Int) ∧ dp + nn ≤ (n1 : Int)) (hl : Cond.methodLink M.1.cls idx arraycopyName ∈ jl_tbl) (hfr : 1 ≤ M.2.2.2.2.frames) (hlo : (st.map fun v => v.category).sum + (nativeFrameWords "java/lang/System" "arraycopy" 5 + 11) ≤ M.2.2.2.2.locals) (k : jl_J lk G M E nx ce sl (pc + 3) ls st (jl_cp σ x sp.toNat y dp.toNat nn.toNat) o) : jl_J lk G M E nx ce sl pc ls (jl_vi nn :: jl_vi dp :: jl_vr G y :: jl_vi sp :: jl_vr G x :: st) σ o := by
  intro r τ ho p e s m args below meth c H locs la C X S L
  have hts := C.2.2.2.2.2.1
  have he0 : (jl_ws lk G σ nx)[x]? = some (G.2.2.2.2.1 x, jl_en G.2.2.2.2.1 G.2.2.2.1 lk x (σ x)) := jl_w_get hx
  have he1 : (jl_ws lk G σ nx)[y]? = some (G.2.2.2.2.1 y, jl_en G.2.2.2.2.1 G.2.2.2.1 lk y (σ y)) := jl_w_get hy
  rw [jl_en_i hk0 (Or.inl rfl)] at he0
  rw [jl_en_i hk1 (Or.inl rfl)] at he1
  have c1 := jl_cl3 hs
  have c2 := jl_cl3 hd
  have c3 := jl_cl3 hn
  refine va_copyi (ty := .int) C.1 C.2.1 (C.2.2.2.1.trans L.1.symm) C.2.2.2.2.1 (hts _ hl) (hts _ jw_757) (hts _ jw_756) (hts _ jw_18) C.2.2.2.2.2.2.2.1.1 X.2.1 X.1 S x y 0 0 he0 he1 rfl rfl rfl (fun q => absurd ((jl_lt3 hs jl_n3_0).mp q) (by omega)) (fun q => absurd ((jl_lt3 hd jl_n3_0).mp q) (by omega)) (fun q => absurd ((jl_lt3 hn jl_n3_0).mp q) (by omega)) (by rw [c1, c3]; omega) (by rw [c2, c3]; omega) (fun _ _ => rfl) hfr hlo d (fun H locs hP hD S => ?_)
  rw [c1, c2, c3, ← jl_cp_i, ← jl_en_i (ad := G.2.2.2.2.1) (cA := G.2.2.2.1) (lk := lk) (f := jl_cp σ x sp.toNat y dp.toNat nn.toNat y) hk1 (Or.inl rfl), jl_ws_set (fun c' h => jl_cp_ne c' h)] at hP hD
  exact k r τ ho p e s m args below meth c H locs la C ⟨hD, hP, X.2.2.cp (fun i => jl_isr_a hk1 (by decide) (by decide))⟩ S L
