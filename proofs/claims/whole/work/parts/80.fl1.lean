/-! floats: longs as whole numbers below 2^64 -/
theorem lB (n : Nat) : (lN n).toBitVec = BitVec.ofNat 64 n := rfl
theorem lBn (n : Nat) : (lN n).toBitVec.toNat = n % 18446744073709551616 := by rw [lB, BitVec.toNat_ofNat]
theorem lBe {x : Int64} {n : Nat} (h : x.toBitVec.toNat = n % 18446744073709551616) : x = lN n := by
  refine Int64.toBitVec_inj.mp (BitVec.eq_of_toNat_eq ?_)
  rw [h, lBn]
theorem lN_inj {a b : Nat} (ha : a < 18446744073709551616) (hb : b < 18446744073709551616) : lN a = lN b ↔ a = b := by
  constructor
  · intro h
    have := congrArg (fun x : Int64 => x.toBitVec.toNat) h
    rw [lBn, lBn, Nat.mod_eq_of_lt ha, Nat.mod_eq_of_lt hb] at this
    exact this
  · intro h
    rw [h]
theorem lN_t {a : Nat} (h : a < 9223372036854775808) : (lN a).toInt = (a : Int) := by
  exact lg_ofNat_toInt (by omega)
theorem lN_and (a b : Nat) : lN a &&& lN b = lN (a &&& b) := by
  refine lBe ?_
  rw [Int64.toBitVec_and, BitVec.toNat_and, lBn, lBn, show (18446744073709551616 : Nat) = 2 ^ 64 from rfl, Nat.and_mod_two_pow]
theorem lN_or (a b : Nat) : lN a ||| lN b = lN (a ||| b) := by
  refine lBe ?_
  rw [Int64.toBitVec_or, BitVec.toNat_or, lBn, lBn, show (18446744073709551616 : Nat) = 2 ^ 64 from rfl, Nat.or_mod_two_pow]
theorem lN_xor (a b : Nat) : lN a ^^^ lN b = lN (a ^^^ b) := by
  refine lBe ?_
  rw [Int64.toBitVec_xor, BitVec.toNat_xor, lBn, lBn, show (18446744073709551616 : Nat) = 2 ^ 64 from rfl, Nat.xor_mod_two_pow]
theorem lN_mask (a k : Nat) : lN a &&& lN (2 ^ k - 1) = lN (a % 2 ^ k) := by
  rw [lN_and, Nat.and_two_pow_sub_one_eq_mod]
theorem lN_shl {a k : Nat} (hk : k < 64) : lN a <<< ((nI k).toInt64 &&& 63) = lN (a * 2 ^ k) := by
  rw [nI_l (by omega), show (63 : Int64) = lN (2 ^ 6 - 1) from rfl, lN_mask, Nat.mod_eq_of_lt hk]
  refine lBe ?_
  rw [Int64.toBitVec_shiftLeft]
  have e : ((lN k).toBitVec.smod 64).toNat = k := by
    rw [lB]
    have h2 : (BitVec.ofNat 64 k).smod 64 = BitVec.ofNat 64 k := by
      refine BitVec.eq_of_toInt_eq ?_
      have e1 : (BitVec.ofNat 64 k).toInt = (k : Int) := lN_t (by omega)
      have e2 : (64 : BitVec 64).toInt = 64 := by decide
      rw [BitVec.toInt_smod, e1, e2, Int.fmod_eq_emod_of_nonneg _ (by decide)]
      omega
    rw [h2, BitVec.toNat_ofNat, Nat.mod_eq_of_lt (by omega)]
  rw [BitVec.shiftLeft_eq', BitVec.toNat_shiftLeft, e, lBn, Nat.shiftLeft_eq, show (2 ^ 64 : Nat) = 18446744073709551616 from rfl, Nat.mod_mul_mod]
theorem lN_shr {a k : Nat} (ha : a < 18446744073709551616) (hk : k < 64) : ((lN a).toUInt64 >>> ((nI k).toInt64.toUInt64 &&& Int64.toUInt64 63)).toInt64 = lN (a / 2 ^ k) := by
  rw [nI_l (by omega), show (63 : Int64) = lN (2 ^ 6 - 1) from rfl, show (lN k).toUInt64 &&& (lN (2 ^ 6 - 1)).toUInt64 = (lN k &&& lN (2 ^ 6 - 1)).toUInt64 from rfl, lN_mask, Nat.mod_eq_of_lt hk]
  refine lBe ?_
  rw [UInt64.toBitVec_toInt64, UInt64.toBitVec_shiftRight, Int64.toBitVec_toUInt64, Int64.toBitVec_toUInt64]
  have e : ((lN k).toBitVec % 64).toNat = k := by
    rw [BitVec.toNat_umod, lBn, show (64 : BitVec 64).toNat = 64 from rfl]
    omega
  have h3 : a / 2 ^ k ≤ a := Nat.div_le_self _ _
  rw [BitVec.ushiftRight_eq', BitVec.toNat_ushiftRight, e, lBn, Nat.mod_eq_of_lt ha, Nat.shiftRight_eq_div_pow, Nat.mod_eq_of_lt (by omega)]
/-- bits beside bits -/
theorem or_add {a k b : Nat} (hb : b < 2 ^ k) : (a * 2 ^ k) ||| b = a * 2 ^ k + b := by
  rw [Nat.mul_comm]
  exact (Nat.two_pow_add_eq_or_of_lt hb a).symm
theorem c_eq {a b : Nat} (ha : a < 18446744073709551616) (hb : b < 18446744073709551616) : lg_cmp (lN a) (lN b) = 0 ↔ a = b := by
  rw [lg_cmp_eq, lN_inj ha hb]
theorem c_gt {a b : Nat} (ha : a < 9223372036854775808) (hb : b < 9223372036854775808) : 0 < lg_cmp (lN a) (lN b) ↔ b < a := by
  rw [lg_cmp_gt, Int64.lt_iff_toInt_lt, lN_t ha, lN_t hb]
  omega
theorem c_ge {a b : Nat} (ha : a < 9223372036854775808) (hb : b < 9223372036854775808) : 0 ≤ lg_cmp (lN a) (lN b) ↔ b ≤ a := by
  rw [lg_cmp_ge, Int64.le_iff_toInt_le, lN_t ha, lN_t hb]
  omega
theorem c_le {a b : Nat} (ha : a < 9223372036854775808) (hb : b < 9223372036854775808) : lg_cmp (lN a) (lN b) ≤ 0 ↔ a ≤ b := by
  rw [lg_cmp_le, Int64.le_iff_toInt_le, lN_t ha, lN_t hb]
  omega
/-- a sign beside a size -/
def sg (s : Bool) (k : Nat) : Nat := s.toNat * 2 ^ k
theorem sg_le (s : Bool) (k : Nat) : sg s k ≤ 2 ^ k := by
  unfold sg
  cases s
  · rw [show Bool.toNat false = 0 from rfl, Nat.zero_mul]
    exact Nat.zero_le _
  · rw [show Bool.toNat true = 1 from rfl, Nat.one_mul]
    exact Nat.le_refl _
theorem sg_mag {s : Bool} {k m : Nat} (hm : m < 2 ^ k) : (sg s k + m) % 2 ^ k = m := by
  unfold sg
  rw [Nat.mul_comm, Nat.mul_add_mod, Nat.mod_eq_of_lt hm]
theorem sg_tb (s : Bool) (k i : Nat) : Nat.testBit (s.toNat * 2 ^ k) i = (decide (k = i) && s) := by
  cases s
  · rw [show Bool.toNat false = 0 from rfl, Nat.zero_mul, Nat.zero_testBit, Bool.and_false]
  · rw [show Bool.toNat true = 1 from rfl, Nat.one_mul, Nat.testBit_two_pow, Bool.and_true]
theorem sg_and {s : Bool} {k m : Nat} (hm : m < 2 ^ k) : (sg s k + m) &&& 2 ^ k = sg s k := by
  refine Nat.eq_of_testBit_eq (fun i => ?_)
  have e : sg s k + m = s.toNat * 2 ^ k ||| m := (or_add hm).symm
  unfold sg at e ⊢
  rw [e, Nat.testBit_and, Nat.testBit_or, Nat.testBit_two_pow, sg_tb]
  by_cases c : k = i
  · subst c
    rw [Nat.testBit_lt_two_pow hm]
    cases s <;> simp
  · simp [c]
theorem sg_xor {s t : Bool} {k m n : Nat} (hm : m < 2 ^ k) (hn : n < 2 ^ k) : ((sg s k + m) ^^^ (sg t k + n)) &&& 2 ^ k = sg (s != t) k := by
  have e : ((sg s k + m) ^^^ (sg t k + n)) &&& 2 ^ k = ((sg s k + m) &&& 2 ^ k) ^^^ ((sg t k + n) &&& 2 ^ k) := Nat.and_xor_distrib_right
  rw [e, sg_and hm, sg_and hn]
  unfold sg
  cases s <;> cases t <;> simp
theorem sg_or {s : Bool} {k m : Nat} (hm : m < 2 ^ k) : sg s k ||| m = sg s k + m := or_add hm
theorem sg_flip {s : Bool} {k m : Nat} (hm : m < 2 ^ k) : 2 ^ k ^^^ (sg s k + m) = sg (!s) k + m := by
  rw [← sg_or hm, ← sg_or hm]
  refine Nat.eq_of_testBit_eq (fun i => ?_)
  unfold sg
  rw [Nat.testBit_xor, Nat.testBit_or, Nat.testBit_or, Nat.testBit_two_pow, sg_tb, sg_tb]
  by_cases c : k = i
  · subst c
    rw [Nat.testBit_lt_two_pow hm]
    cases s <;> simp
  · simp [c]
