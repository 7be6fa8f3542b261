/-! a long as eight bytes -/
section
def nL (x : Int64) : Nat := x.toBitVec.toNat
theorem nL_lt (x : Int64) : nL x < 18446744073709551616 := x.toBitVec.isLt
theorem nL_ext {x y : Int64} (h : nL x = nL y) : x = y := by
  apply Int64.toBitVec_inj.mp
  exact BitVec.eq_of_toNat_eq h
theorem nL_or (x y : Int64) : nL (x ||| y) = nL x ||| nL y := by
  unfold nL; rw [Int64.toBitVec_or, BitVec.toNat_or]
theorem nL_and (x y : Int64) : nL (x &&& y) = nL x &&& nL y := by
  unfold nL; rw [Int64.toBitVec_and, BitVec.toNat_and]
theorem nL_add (x y : Int64) : nL (x + y) = (nL x + nL y) % 18446744073709551616 := by
  unfold nL; rw [Int64.toBitVec_add, BitVec.toNat_add]
theorem nL_sub (x y : Int64) : nL (x - y) = (18446744073709551616 - nL y + nL x) % 18446744073709551616 := by
  unfold nL; rw [Int64.toBitVec_sub, BitVec.toNat_sub]
theorem nL_mul (x y : Int64) : nL (x * y) = (nL x * nL y) % 18446744073709551616 := by
  unfold nL; rw [Int64.toBitVec_mul, BitVec.toNat_mul]
theorem nL_xor (x y : Int64) : nL (x ^^^ y) = nL x ^^^ nL y := by
  unfold nL; rw [Int64.toBitVec_xor, BitVec.toNat_xor]
theorem sh64 : ∀ k : Nat, k < 64 → ((Int32.ofInt (k : Int)).toInt64.toUInt64 &&& Int64.toUInt64 63) = UInt64.ofNat k := by decide +kernel
theorem nL_shr (x : Int64) {k : Nat} (hk : k < 64) : nL (lushr x (k : Int)) = nL x / 2 ^ k := by
  unfold lushr
  rw [sh64 k hk]
  show (x.toUInt64 >>> UInt64.ofNat k).toNat = _
  rw [UInt64.toNat_shiftRight, UInt64.toNat_ofNat', Nat.shiftRight_eq_div_pow]
  have : k % 2 ^ 64 % 64 = k := by omega
  rw [this]
  rfl
theorem sh64b : ∀ k : Nat, k < 64 → ((Int32.ofInt (k : Int)).toInt64 &&& 63).toBitVec.smod 64 = BitVec.ofNat 64 k := by decide +kernel
theorem nL_shl (x : Int64) {k : Nat} (hk : k < 64) : nL (lshl x (k : Int)) = nL x * 2 ^ k % 18446744073709551616 := by
  unfold lshl nL
  rw [Int64.toBitVec_shiftLeft, sh64b k hk, BitVec.shiftLeft_eq', BitVec.toNat_shiftLeft, BitVec.toNat_ofNat, Nat.shiftLeft_eq]
  have : k % 2 ^ 64 = k := by omega
  rw [this]
def Bt (x : Int64) (v : Nat) : Nat := nL x / 2 ^ (8 * v) % 256
theorem Bt_bit (x : Int64) (v j : Nat) : (Bt x v).testBit j = (decide (j < 8) && (nL x).testBit (8 * v + j)) := by
  unfold Bt
  rw [show (256 : Nat) = 2 ^ 8 from rfl, Nat.testBit_mod_two_pow, Nat.testBit_div_two_pow]
  rw [Nat.add_comm]
theorem Bt_lt (x : Int64) (v : Nat) : Bt x v < 256 := Nat.mod_lt _ (by omega)
theorem Bt_or (x y : Int64) (v : Nat) : Bt (x ||| y) v = Bt x v ||| Bt y v := by
  apply Nat.eq_of_testBit_eq
  intro j
  rw [Nat.testBit_or, Bt_bit, Bt_bit, Bt_bit, nL_or, Nat.testBit_or]
  cases decide (j < 8) <;> simp
theorem Bt_and (x y : Int64) (v : Nat) : Bt (x &&& y) v = Bt x v &&& Bt y v := by
  apply Nat.eq_of_testBit_eq
  intro j
  rw [Nat.testBit_and, Bt_bit, Bt_bit, Bt_bit, nL_and, Nat.testBit_and]
  cases decide (j < 8) <;> simp
theorem lt8v {v : Nat} (h : v < 8) : v = 0 ∨ v = 1 ∨ v = 2 ∨ v = 3 ∨ v = 4 ∨ v = 5 ∨ v = 6 ∨ v = 7 := by omega
theorem Bt_all (x : Int64) : nL x = Bt x 0 + 256 * Bt x 1 + 65536 * Bt x 2 + 16777216 * Bt x 3 + 4294967296 * Bt x 4 + 1099511627776 * Bt x 5 + 281474976710656 * Bt x 6 + 72057594037927936 * Bt x 7 := by
  have := nL_lt x
  unfold Bt
  simp only [Nat.reduceMul, Nat.reducePow]
  omega
theorem Bt_of {x : Int64} {b0 b1 b2 b3 b4 b5 b6 b7 : Nat} (h0 : b0 < 256) (h1 : b1 < 256) (h2 : b2 < 256) (h3 : b3 < 256) (h4 : b4 < 256) (h5 : b5 < 256) (h6 : b6 < 256) (h7 : b7 < 256) (h : nL x = b0 + 256 * b1 + 65536 * b2 + 16777216 * b3 + 4294967296 * b4 + 1099511627776 * b5 + 281474976710656 * b6 + 72057594037927936 * b7) : Bt x 0 = b0 ∧ Bt x 1 = b1 ∧ Bt x 2 = b2 ∧ Bt x 3 = b3 ∧ Bt x 4 = b4 ∧ Bt x 5 = b5 ∧ Bt x 6 = b6 ∧ Bt x 7 = b7 := by
  unfold Bt
  rw [h]
  simp only [Nat.reduceMul, Nat.reducePow]
  omega
/-- bytes that are given -/
theorem Bt_is {x : Int64} {b : Nat → Nat} (hb : ∀ v, v < 8 → b v < 256) (h : nL x = b 0 + 256 * b 1 + 65536 * b 2 + 16777216 * b 3 + 4294967296 * b 4 + 1099511627776 * b 5 + 281474976710656 * b 6 + 72057594037927936 * b 7) : ∀ v, v < 8 → Bt x v = b v := by
  have := Bt_of (hb 0 (by omega)) (hb 1 (by omega)) (hb 2 (by omega)) (hb 3 (by omega)) (hb 4 (by omega)) (hb 5 (by omega)) (hb 6 (by omega)) (hb 7 (by omega)) h
  intro v hv
  rcases lt8v hv with e | e | e | e | e | e | e | e <;> subst e
  · exact this.1
  · exact this.2.1
  · exact this.2.2.1
  · exact this.2.2.2.1
  · exact this.2.2.2.2.1
  · exact this.2.2.2.2.2.1
  · exact this.2.2.2.2.2.2.1
  · exact this.2.2.2.2.2.2.2
theorem Bt_ext {x y : Int64} (h : ∀ v, v < 8 → Bt x v = Bt y v) : x = y := by
  apply nL_ext
  rw [Bt_all x, Bt_all y, h 0 (by omega), h 1 (by omega), h 2 (by omega), h 3 (by omega), h 4 (by omega), h 5 (by omega), h 6 (by omega), h 7 (by omega)]
end
