/-! PURE: bits -/
def jp_tb (x : Int) (b : Nat) : Bool := (jl_i3 x).toBitVec.getLsbD b
theorem jp_i3i (x : Int32) : jl_i3 x.toInt = x := jl_i3_to x
theorem jp_sh : ∀ b : Nat, b < 32 → (((jl_i3 ((b : Nat) : Int)) &&& 31).toBitVec.smod 32) = BitVec.ofNat 32 b := by decide +kernel
theorem jp_tb_shr {x : Int} {b j : Nat} (hb : b < 32) (hj : b + j < 32) : jp_tb (jl_shr x (b : Int)) j = jp_tb x (b + j) := by
  rw [jp_tb, jp_tb, jl_shr, jp_i3i, Int32.toBitVec_shiftRight, jp_sh b hb, BitVec.sshiftRight', BitVec.getLsbD_sshiftRight]
  have e : (BitVec.ofNat 32 b).toNat = b := by
    rw [BitVec.toNat_ofNat]; omega
  rw [e]
  have h1 : ¬ (32 ≤ j) := by omega
  simp [h1, hj]
theorem jp_and1 (x : Int) : jl_and x 1 = if jp_tb x 0 then 1 else 0 := by
  rw [jl_and, jp_tb]
  generalize jl_i3 x = X
  have h : X &&& jl_i3 1 = if X.toBitVec.getLsbD 0 = true then 1 else 0 := by
    apply Int32.toBitVec_inj.mp
    apply BitVec.eq_of_getLsbD_eq
    intro i hi
    have e1 : (jl_i3 1).toBitVec.getLsbD i = decide (i = 0) := by
      revert i; decide +kernel
    rw [Int32.toBitVec_and, BitVec.getLsbD_and, e1]
    by_cases h0 : X.toBitVec.getLsbD 0 = true
    · rw [if_pos h0]
      have e2 : (1 : Int32).toBitVec.getLsbD i = decide (i = 0) := e1
      rw [e2]
      by_cases hi0 : i = 0
      · rw [hi0, h0]; rfl
      · simp [hi0]
    · rw [if_neg h0]
      have e2 : (0 : Int32).toBitVec.getLsbD i = false := by
        revert i; decide +kernel
      rw [e2]
      by_cases hi0 : i = 0
      · rw [hi0]; simpa using h0
      · simp [hi0]
  rw [h]
  split <;> rfl
theorem jp_bit {x : Int} {b : Nat} (hb : b < 32) : jl_and (jl_shr x (b : Int)) 1 = if jp_tb x b then 1 else 0 := by
  rw [jp_and1, jp_tb_shr hb (by omega), Nat.add_zero]
theorem jp_tb_or (x y : Int) (b : Nat) : jp_tb (jl_or x y) b = (jp_tb x b || jp_tb y b) := by
  rw [jp_tb, jl_or, jp_i3i, Int32.toBitVec_or, BitVec.getLsbD_or]; rfl
theorem jp_tb_and (x y : Int) (b : Nat) : jp_tb (jl_and x y) b = (jp_tb x b && jp_tb y b) := by
  rw [jp_tb, jl_and, jp_i3i, Int32.toBitVec_and, BitVec.getLsbD_and]; rfl
theorem jp_tb_xor (x y : Int) (b : Nat) : jp_tb (jl_xor x y) b = ((jp_tb x b) ^^ (jp_tb y b)) := by
  rw [jp_tb, jl_xor, jp_i3i, Int32.toBitVec_xor, BitVec.getLsbD_xor]; rfl
theorem jp_tb_not (x : Int) {b : Nat} (hb : b < 32) : jp_tb (jl_xor x (-1)) b = !(jp_tb x b) := by
  rw [jp_tb_xor]
  have e : jp_tb (-1) b = true := (by decide +kernel : ∀ b, b < 32 → jp_tb (-1) b = true) b hb
  rw [e]; simp
theorem jp_tb_0 {b : Nat} (hb : b < 32) : jp_tb 0 b = false := (by decide +kernel : ∀ b, b < 32 → jp_tb 0 b = false) b hb
theorem jp_tb_s1 : ∀ v, v < 32 → ∀ b, b < 32 → jp_tb (jl_shl 1 ((v : Nat) : Int)) b = decide (v = b) := by decide +kernel
theorem jp_ext {x y : Int} (hx : jl_n3 x) (hy : jl_n3 y) (h : ∀ b, b < 32 → jp_tb x b = jp_tb y b) : x = y := by
  have e : jl_i3 x = jl_i3 y := by
    apply Int32.toBitVec_inj.mp
    apply BitVec.eq_of_getLsbD_eq
    exact h
  rw [← jl_to_i3 hx, ← jl_to_i3 hy, e]
theorem jp_or_n (x y : Int) : jl_n3 (jl_or x y) := jl_n3_to _
theorem jp_and_n (x y : Int) : jl_n3 (jl_and x y) := jl_n3_to _
theorem jp_xor_n (x y : Int) : jl_n3 (jl_xor x y) := jl_n3_to _
theorem jp_shl_n (x y : Int) : jl_n3 (jl_shl x y) := jl_n3_to _
theorem jp_shr_n (x y : Int) : jl_n3 (jl_shr x y) := jl_n3_to _
theorem jp_bit01 (x y : Int) : jl_and (jl_shr x y) 1 = 0 ∨ jl_and (jl_shr x y) 1 = 1 := by
  rw [jp_and1]; split <;> simp
theorem jp_xorm1 : ∀ v, v < 128 → jl_xor ((v : Nat) : Int) (-1) = -((v : Nat) : Int) - 1 := by decide +kernel
