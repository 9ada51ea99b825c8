/-! ===== bits ===== -/
theorem i32_nat {a : Nat} : Int32.ofInt (a : Int) = Int32.ofNat a := Int32.ofInt_eq_ofNat
theorem i32_back {a : Nat} (h : a < 2147483648) : (Int32.ofNat a).toInt = (a : Int) := Int32.toInt_ofNat_of_lt h
theorem iand_nat {a b : Nat} (ha : a < 2147483648) : iandI (a : Int) (b : Int) = ((a &&& b : Nat) : Int) := by
  unfold iandI
  rw [i32_nat, i32_nat]
  have e : Int32.ofNat a &&& Int32.ofNat b = Int32.ofNat (a &&& b) := by
    apply Int32.toBitVec.inj
    simp
  rw [e]
  exact i32_back (Nat.lt_of_le_of_lt Nat.and_le_left ha)
theorem ior_nat {a b : Nat} (ha : a < 2147483648) (hb : b < 2147483648) : iorI (a : Int) (b : Int) = ((a ||| b : Nat) : Int) := by
  unfold iorI
  rw [i32_nat, i32_nat]
  have e : Int32.ofNat a ||| Int32.ofNat b = Int32.ofNat (a ||| b) := by
    apply Int32.toBitVec.inj
    simp
  rw [e]
  exact i32_back (Nat.or_lt_two_pow (n := 31) ha hb)
theorem ixor_nat {a b : Nat} (ha : a < 2147483648) (hb : b < 2147483648) : ixorI (a : Int) (b : Int) = ((a ^^^ b : Nat) : Int) := by
  unfold ixorI
  rw [i32_nat, i32_nat]
  have e : Int32.ofNat a ^^^ Int32.ofNat b = Int32.ofNat (a ^^^ b) := by
    apply Int32.toBitVec.inj
    simp
  rw [e]
  exact i32_back (Nat.xor_lt_two_pow (n := 31) ha hb)
theorem ishl_1 : ∀ j, j < 8 → ishlI 1 ((j : Nat) : Int) = ((2 ^ j : Nat) : Int) := by decide +kernel
theorem ishl_s : ∀ j, j < 8 → ishlI ((2 ^ j : Nat) : Int) 1 = ((2 ^ (j + 1) : Nat) : Int) := by decide +kernel
theorem iand_any {z : Int} : iandI z 2147483647 = z % 2147483648 := by
  unfold iandI
  have e : Int32.ofInt z &&& Int32.ofInt 2147483647 = Int32.ofNat (z % 2147483648).toNat := by
    apply Int32.toBitVec.inj
    apply BitVec.eq_of_toNat_eq
    rw [Int32.toBitVec_and, BitVec.toNat_and, Int32.toBitVec_ofInt, Int32.toBitVec_ofInt, BitVec.toNat_ofInt, BitVec.toNat_ofInt]
    show (z % 4294967296).toNat &&& (2 ^ 31 - 1) = ((z % 2147483648).toNat) % 4294967296
    rw [Nat.and_two_pow_sub_one_eq_mod]
    omega
  rw [e, i32_back (by omega)]
  omega
theorem and_bit {n j : Nat} : n &&& 2 ^ j = 0 ↔ n.testBit j = false := by
  constructor
  · intro h
    have h1 : (n &&& 2 ^ j).testBit j = n.testBit j := by
      rw [Nat.testBit_and, Nat.testBit_two_pow]; simp
    rw [← h1, h]; simp
  · intro h
    apply Nat.eq_of_testBit_eq
    intro i
    rw [Nat.testBit_and, Nat.testBit_two_pow, Nat.zero_testBit]
    by_cases e : j = i
    · subst e; rw [h]; rfl
    · simp [e]
theorem bit_le {n j : Nat} (h : n.testBit j = true) : 2 ^ j ≤ n := Nat.ge_two_pow_of_testBit h

