/-! small numbers as longs; bits -/
def jN (k : Nat) : Int64 := Int64.ofNat k
theorem jN_toInt {k : Nat} (h : k < 9223372036854775808) : (jN k).toInt = k := Int64.toInt_ofNat_of_lt (by simpa using h)
theorem jN_add (a b : Nat) : jN a + jN b = jN (a + b) := (Int64.ofNat_add a b).symm
theorem jN_lt {a b : Nat} (ha : a < 9223372036854775808) (hb : b < 9223372036854775808) : (jN a < jN b) = (a < b) := by
  rw [Int64.lt_iff_toInt_lt, jN_toInt ha, jN_toInt hb]
  exact propext ⟨fun h => by omega, fun h => by omega⟩
theorem jN_eq {a b : Nat} (ha : a < 9223372036854775808) (hb : b < 9223372036854775808) : (jN a = jN b) = (a = b) := by
  apply propext
  constructor
  · intro h
    have := congrArg Int64.toInt h
    rw [jN_toInt ha, jN_toInt hb] at this
    omega
  · intro h
    rw [h]
theorem jN_or (a b : Nat) : jN a ||| jN b = jN (a ||| b) := by
  apply Int64.toBitVec_inj.mp
  rw [Int64.toBitVec_or]
  unfold jN
  rw [Int64.toBitVec_ofNat', Int64.toBitVec_ofNat', Int64.toBitVec_ofNat', BitVec.ofNat_or]
theorem jN_and (a b : Nat) : jN a &&& jN b = jN (a &&& b) := by
  apply Int64.toBitVec_inj.mp
  rw [Int64.toBitVec_and]
  unfold jN
  rw [Int64.toBitVec_ofNat', Int64.toBitVec_ofNat', Int64.toBitVec_ofNat', BitVec.ofNat_and]
theorem l63 : ∀ k, k < 64 → ((iN k).toInt64 &&& 63) = jN k := by decide +kernel
theorem lsm : ∀ k, k < 64 → (jN k).toBitVec.smod 64 = BitVec.ofNat 64 k := by decide +kernel
theorem jN_one : ∀ k, k < 63 → (1 : Int64) <<< ((iN k).toInt64 &&& 63) = jN (2 ^ k) := by decide +kernel
theorem jN_shr {a k : Nat} (ha : a < 9223372036854775808) (hk : k < 64) : jN a >>> jN k = jN (a >>> k) := by
  apply Int64.toBitVec_inj.mp
  rw [Int64.toBitVec_shiftRight, lsm k hk]
  unfold jN
  rw [Int64.toBitVec_ofNat', Int64.toBitVec_ofNat', BitVec.sshiftRight', BitVec.sshiftRight_eq_of_msb_false]
  · apply BitVec.eq_of_toNat_eq
    rw [BitVec.toNat_ushiftRight, BitVec.toNat_ofNat, BitVec.toNat_ofNat, BitVec.toNat_ofNat, Nat.mod_eq_of_lt (by omega : a < 2 ^ 64), Nat.mod_eq_of_lt (by omega : k < 2 ^ 64), Nat.mod_eq_of_lt]
    rw [Nat.shiftRight_eq_div_pow]
    have := Nat.div_le_self a (2 ^ k)
    omega
  · rw [BitVec.msb_eq_decide, BitVec.toNat_ofNat, Nat.mod_eq_of_lt (by omega : a < 2 ^ 64)]
    simp
    omega
theorem iN_one : ∀ k, k < 31 → (1 : Int32) <<< (iN k &&& 31) = iN (2 ^ k) := by decide +kernel
theorem iN_or (a b : Nat) : iN a ||| iN b = iN (a ||| b) := by
  apply Int32.toBitVec_inj.mp
  rw [Int32.toBitVec_or]
  unfold iN
  rw [Int32.toBitVec_ofNat', Int32.toBitVec_ofNat', Int32.toBitVec_ofNat', BitVec.ofNat_or]
theorem iN_and (a b : Nat) : iN a &&& iN b = iN (a &&& b) := by
  apply Int32.toBitVec_inj.mp
  rw [Int32.toBitVec_and]
  unfold iN
  rw [Int32.toBitVec_ofNat', Int32.toBitVec_ofNat', Int32.toBitVec_ofNat', BitVec.ofNat_and]
theorem iN_xor (a b : Nat) : iN a ^^^ iN b = iN (a ^^^ b) := by
  apply Int32.toBitVec_inj.mp
  rw [Int32.toBitVec_xor]
  unfold iN
  rw [Int32.toBitVec_ofNat', Int32.toBitVec_ofNat', Int32.toBitVec_ofNat', BitVec.ofNat_xor]
theorem i31 : ∀ k, k < 32 → (iN k &&& 31) = iN k := by decide +kernel
theorem ism : ∀ k, k < 32 → (iN k).toBitVec.smod 32 = BitVec.ofNat 32 k := by decide +kernel
theorem iN_shr {a k : Nat} (ha : a < 2147483648) (hk : k < 32) : iN a >>> iN k = iN (a >>> k) := by
  apply Int32.toBitVec_inj.mp
  rw [Int32.toBitVec_shiftRight, ism k hk]
  unfold iN
  rw [Int32.toBitVec_ofNat', Int32.toBitVec_ofNat', BitVec.sshiftRight', BitVec.sshiftRight_eq_of_msb_false]
  · apply BitVec.eq_of_toNat_eq
    rw [BitVec.toNat_ushiftRight, BitVec.toNat_ofNat, BitVec.toNat_ofNat, BitVec.toNat_ofNat, Nat.mod_eq_of_lt (by omega : a < 2 ^ 32), Nat.mod_eq_of_lt (by omega : k < 2 ^ 32), Nat.mod_eq_of_lt]
    rw [Nat.shiftRight_eq_div_pow]
    have := Nat.div_le_self a (2 ^ k)
    omega
  · rw [BitVec.msb_eq_decide, BitVec.toNat_ofNat, Nat.mod_eq_of_lt (by omega : a < 2 ^ 32)]
    simp
    omega
theorem or_pow {a k : Nat} (h : a < 2 ^ k) : a ||| 2 ^ k = a + 2 ^ k := by
  have := Nat.two_pow_add_eq_or_of_lt h 1
  rw [Nat.or_comm, ← Nat.mul_one (2 ^ k), ← this]
  omega
theorem iN_pm (k : Nat) : iN (k + 1) - 1 = iN k := iN_sub (b := 1) (Nat.succ_le_succ (Nat.zero_le k))
theorem i_m1 (a : Int32) : a + (-1) = a - 1 := by grind
theorem lcmp_lt {a b : Nat} (ha : a < 9223372036854775808) (hb : b < 9223372036854775808) : (lg_cmp (jN a) (jN b) < 0) = (a < b) := by
  rw [← jN_lt ha hb]
  exact propext (lg_cmp_lt _ _)
theorem lcmp_gt {a b : Nat} (ha : a < 9223372036854775808) (hb : b < 9223372036854775808) : (0 < lg_cmp (jN a) (jN b)) = (b < a) := by
  rw [← jN_lt hb ha]
  exact propext (lg_cmp_gt _ _)
theorem lcmp_neg {a : Nat} (ha : a < 9223372036854775808) : (lg_cmp (jN a) 0 < 0) = False := by
  rw [show (0 : Int64) = jN 0 from rfl, lcmp_lt ha (by decide)]
  simp
