/-! the class's leap over whole rounds -/
theorem p7 (i : Nat) : (7 * (7 ^ i % 1009)) % 1009 = 7 ^ (i + 1) % 1009 := by
  rw [Nat.mul_mod, Nat.mod_mod, ← Nat.mul_mod, Nat.pow_succ, Nat.mul_comm]
theorem xor_sign (x : Int32) : 0 ≤ (x ^^^ (1009 : Int32)) ↔ 0 ≤ x.toInt := by
  rw [i_le]
  show (0 : Int) ≤ (x ^^^ (1009 : Int32)).toBitVec.toInt ↔ (0 : Int) ≤ x.toBitVec.toInt
  have e : (x ^^^ (1009 : Int32)).toBitVec.msb = x.toBitVec.msb := by
    rw [Int32.toBitVec_xor, BitVec.msb_xor, show (1009 : Int32).toBitVec.msb = false from rfl, Bool.xor_false]
  rw [BitVec.msb_eq_toInt, BitVec.msb_eq_toInt] at e
  have e2 := decide_eq_decide.mp e
  omega
