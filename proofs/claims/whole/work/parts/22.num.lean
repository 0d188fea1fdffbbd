/-! numbers that are small -/
theorem n_toInt {n : Nat} (h : n < 2147483648) : (Int32.ofNat n).toInt = n := i_ofNat (by omega)
theorem n_le {a b : Nat} (ha : a < 2147483648) (hb : b < 2147483648) : Int32.ofNat a ≤ Int32.ofNat b ↔ a ≤ b := by
  rw [Int32.le_iff_toInt_le, n_toInt ha, n_toInt hb]; omega
theorem n_lt {a b : Nat} (ha : a < 2147483648) (hb : b < 2147483648) : Int32.ofNat a < Int32.ofNat b ↔ a < b := by
  rw [Int32.lt_iff_toInt_lt, n_toInt ha, n_toInt hb]; omega
theorem n_eq {a b : Nat} (ha : a < 2147483648) (hb : b < 2147483648) : Int32.ofNat a = Int32.ofNat b ↔ a = b := by
  constructor
  · intro h
    have := congrArg Int32.toInt h
    rw [n_toInt ha, n_toInt hb] at this; omega
  · intro h; rw [h]
theorem n_add (a b : Nat) : Int32.ofNat a + Int32.ofNat b = Int32.ofNat (a + b) := (Int32.ofNat_add a b).symm
theorem n_ix {a : Nat} (h : a < 2147483648) : ix (Int32.ofNat a) = a := by
  show (Int32.ofNat a).toInt.toNat = a
  rw [n_toInt h]; rfl
theorem n_inb {a n : Nat} (h : a < 2147483648) : inb (Int32.ofNat a) n = true ↔ a < n := by
  rw [inb_iff, n_toInt h]; omega
theorem FU_lt {n : Nat} (h : n < 1000000000000) : n < FU := Nat.lt_of_lt_of_le h (by decide)
theorem i_ofInt {z : Int} (h1 : -2147483648 ≤ z) (h2 : z ≤ 2147483647) : (Int32.ofInt z).toInt = z := by
  have h : Int32.size = 4294967296 := rfl
  rw [Int32.toInt_ofInt, h]; exact Int.bmod_eq_of_le (by omega) (by omega)
theorem bv255 {i : Nat} (h : ¬ i < 8) : (255#32).getLsbD i = false := by
  rw [BitVec.getLsbD_ofNat, Nat.testBit_lt_two_pow (Nat.lt_of_lt_of_le (by decide : 255 < 2 ^ 8) (Nat.pow_le_pow_right (by decide) (by omega)))]
  simp
theorem bv_sx (y : BitVec 32) : (BitVec.signExtend 32 (BitVec.setWidth 8 (BitVec.signExtend 32 (BitVec.setWidth 8 y)))) &&& 255#32 = y &&& 255#32 := by
  apply BitVec.eq_of_getLsbD_eq
  intro i hi
  rw [BitVec.getLsbD_and, BitVec.getLsbD_and]
  by_cases h : i < 8
  · simp only [BitVec.getLsbD_signExtend, BitVec.getLsbD_setWidth, h, hi, decide_true, Bool.true_and, if_true]
  · rw [bv255 h, Bool.and_false, Bool.and_false]
theorem i2b_bv (z : Int32) : (i2b z).toBitVec = BitVec.signExtend 32 (BitVec.setWidth 8 z.toBitVec) := by
  unfold i2b
  rw [Int8.toBitVec_toInt32, Int32.toBitVec_toInt8]
  have h : BitVec.signExtend 8 z.toBitVec = BitVec.setWidth 8 z.toBitVec := by
    apply BitVec.eq_of_getLsbD_eq
    intro i hi
    rw [BitVec.getLsbD_signExtend, BitVec.getLsbD_setWidth, if_pos (by omega)]
  rw [h]
theorem i2b_and (x : Int32) : i2b (i2b x) &&& 255 = x &&& 255 := by
  apply Int32.toBitVec_inj.mp
  rw [Int32.toBitVec_and, Int32.toBitVec_and, i2b_bv, i2b_bv]
  exact bv_sx x.toBitVec
