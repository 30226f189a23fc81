/-! numbers: whole numbers behind the machine's; the two ways to tell a number modulo 10007 -/
theorem bm32 {z : Int} (h : -2147483648 ≤ z ∧ z < 2147483648) : z.bmod (2 ^ 32) = z := Int.bmod_eq_of_le (by omega) (by omega)
theorem bm64 {z : Int} (h : -9223372036854775808 ≤ z ∧ z < 9223372036854775808) : z.bmod (2 ^ 64) = z := Int.bmod_eq_of_le (by omega) (by omega)
theorem ib (x : Int32) : -2147483648 ≤ x.toInt ∧ x.toInt < 2147483648 := by
  have h1 := x.le_toInt
  have h2 := x.toInt_lt
  omega
theorem lb (x : Int64) : -9223372036854775808 ≤ x.toInt ∧ x.toInt < 9223372036854775808 := by
  have h1 := x.le_toInt
  have h2 := x.toInt_lt
  omega
theorem ia {a b : Int32} {x y : Int} (ha : a.toInt = x) (hb : b.toInt = y) (h : -2147483648 ≤ x + y ∧ x + y < 2147483648) : (a + b).toInt = x + y := by
  rw [Int32.toInt_add, ha, hb]; exact bm32 h
theorem is' {a b : Int32} {x y : Int} (ha : a.toInt = x) (hb : b.toInt = y) (h : -2147483648 ≤ x - y ∧ x - y < 2147483648) : (a - b).toInt = x - y := by
  rw [Int32.toInt_sub, ha, hb]; exact bm32 h
theorem im {a b : Int32} {x y : Int} (ha : a.toInt = x) (hb : b.toInt = y) (h : -2147483648 ≤ x * y ∧ x * y < 2147483648) : (a * b).toInt = x * y := by
  rw [Int32.toInt_mul, ha, hb]; exact bm32 h
theorem ing {a : Int32} {x : Int} (ha : a.toInt = x) (h : -2147483648 ≤ -x ∧ -x < 2147483648) : (-a).toInt = -x := by
  rw [Int32.toInt_neg, ha]; exact bm32 h
theorem la {a b : Int64} {x y : Int} (ha : a.toInt = x) (hb : b.toInt = y) (h : -9223372036854775808 ≤ x + y ∧ x + y < 9223372036854775808) : (a + b).toInt = x + y := by
  rw [Int64.toInt_add, ha, hb]; exact bm64 h
theorem ls' {a b : Int64} {x y : Int} (ha : a.toInt = x) (hb : b.toInt = y) (h : -9223372036854775808 ≤ x - y ∧ x - y < 9223372036854775808) : (a - b).toInt = x - y := by
  rw [Int64.toInt_sub, ha, hb]; exact bm64 h
theorem lm {a b : Int64} {x y : Int} (ha : a.toInt = x) (hb : b.toInt = y) (h : -9223372036854775808 ≤ x * y ∧ x * y < 9223372036854775808) : (a * b).toInt = x * y := by
  rw [Int64.toInt_mul, ha, hb]; exact bm64 h
theorem lng {a : Int64} {x : Int} (ha : a.toInt = x) (h : -9223372036854775808 ≤ -x ∧ -x < 9223372036854775808) : (-a).toInt = -x := by
  rw [Int64.toInt_neg, ha]; exact bm64 h
theorem i2l_t {a : Int32} {x : Int} (ha : a.toInt = x) : a.toInt64.toInt = x := by rw [Int32.toInt_toInt64, ha]
theorem l2i_t {a : Int64} {x : Int} (ha : a.toInt = x) (h : -2147483648 ≤ x ∧ x < 2147483648) : a.toInt32.toInt = x := by
  rw [Int64.toInt_toInt32, ha]; exact bm32 h
theorem ieq {a b : Int32} (h : a.toInt = b.toInt) : a = b := Int32.toInt_inj.mp h
theorem leq {a b : Int64} (h : a.toInt = b.toInt) : a = b := Int64.toInt_inj.mp h
theorem ofI_t {z : Int} (h : -2147483648 ≤ z ∧ z < 2147483648) : (Int32.ofInt z).toInt = z := Int32.toInt_ofInt_of_le (by omega) (by omega)
theorem ofL_t {z : Int} (h : -9223372036854775808 ≤ z ∧ z < 9223372036854775808) : (Int64.ofInt z).toInt = z := Int64.toInt_ofInt_of_le (by omega) (by omega)
/-- the remainder, as the machine makes it -/
theorem irem_t {a b : Int32} {x y : Int} (ha : a.toInt = x) (hb : b.toInt = y) (hy : 0 < y) : (a - a / b * b).toInt = x.tmod y := by
  have hx := ib a
  have hyb := ib b
  rw [ha] at hx
  rw [hb] at hyb
  have hne : b ≠ -1 := fun e => by rw [e] at hb; have : (-1 : Int32).toInt = -1 := rfl; omega
  have hq : (a / b).toInt = x.tdiv y := by rw [Int32.toInt_div_of_ne_right a b hne, ha, hb]
  have e1 := Int.mul_tdiv_add_tmod x y
  have e2 : x.tdiv y * y = y * x.tdiv y := Int.mul_comm _ _
  have e3 : x.tmod y < y := Int.tmod_lt_of_pos x hy
  have e4 : -y < x.tmod y := by
    rcases Int.le_total 0 x with h | h
    · have := Int.tmod_nonneg y h; omega
    · have := Int.neg_tmod (a := -x) (b := y)
      have h2 := Int.tmod_lt_of_pos (-x) hy
      rw [Int.neg_neg] at this
      omega
  have e5 : (0 ≤ x → 0 ≤ x.tmod y) := fun h => Int.tmod_nonneg y h
  have e6 : (x ≤ 0 → x.tmod y ≤ 0) := fun h => by
    have := Int.neg_tmod (a := -x) (b := y)
    have h2 := Int.tmod_nonneg (a := -x) y (by omega)
    rw [Int.neg_neg] at this
    omega
  have hm : (a / b * b).toInt = x.tdiv y * y := im hq hb (by
    rcases Int.le_total 0 x with h | h
    · have := e5 h; omega
    · have := e6 h; omega)
  rw [is' ha hm (by omega)]
  omega
theorem lrem_t {a b : Int64} {x y : Int} (ha : a.toInt = x) (hb : b.toInt = y) (hy : 0 < y) : (a - a / b * b).toInt = x.tmod y := by
  have hx := lb a
  have hyb := lb b
  rw [ha] at hx
  rw [hb] at hyb
  have hne : b ≠ -1 := fun e => by rw [e] at hb; have : (-1 : Int64).toInt = -1 := rfl; omega
  have hq : (a / b).toInt = x.tdiv y := by rw [Int64.toInt_div_of_ne_right a b hne, ha, hb]
  have e1 := Int.mul_tdiv_add_tmod x y
  have e2 : x.tdiv y * y = y * x.tdiv y := Int.mul_comm _ _
  have e3 : x.tmod y < y := Int.tmod_lt_of_pos x hy
  have e4 : -y < x.tmod y := by
    rcases Int.le_total 0 x with h | h
    · have := Int.tmod_nonneg y h; omega
    · have := Int.neg_tmod (a := -x) (b := y)
      have h2 := Int.tmod_lt_of_pos (-x) hy
      rw [Int.neg_neg] at this
      omega
  have e5 : (0 ≤ x → 0 ≤ x.tmod y) := fun h => Int.tmod_nonneg y h
  have e6 : (x ≤ 0 → x.tmod y ≤ 0) := fun h => by
    have := Int.neg_tmod (a := -x) (b := y)
    have h2 := Int.tmod_nonneg (a := -x) y (by omega)
    rw [Int.neg_neg] at this
    omega
  have hm : (a / b * b).toInt = x.tdiv y * y := lm hq hb (by
    rcases Int.le_total 0 x with h | h
    · have := e5 h; omega
    · have := e6 h; omega)
  rw [ls' ha hm (by omega)]
  omega
/-- like modulo 10007 -/
def cg (a b : Int) : Prop := a % 10007 = b % 10007
theorem cg.rf {a : Int} : cg a a := rfl
theorem cg.sy {a b : Int} (h : cg a b) : cg b a := Eq.symm h
theorem cg.tr {a b c : Int} (h : cg a b) (h2 : cg b c) : cg a c := Eq.trans h h2
theorem cg.add {a b c d : Int} (h : cg a b) (h2 : cg c d) : cg (a + c) (b + d) := by unfold cg at *; omega
theorem cg.sub {a b c d : Int} (h : cg a b) (h2 : cg c d) : cg (a - c) (b - d) := by unfold cg at *; omega
theorem cg.neg {a b : Int} (h : cg a b) : cg (-a) (-b) := by unfold cg at *; omega
theorem cg.mul {a b c d : Int} (h : cg a b) (h2 : cg c d) : cg (a * c) (b * d) := by
  unfold cg at *
  rw [Int.mul_emod, h, h2, ← Int.mul_emod]
theorem cg_em (a : Int) : cg (a % 10007) a := by unfold cg; omega
theorem bmod_t (z : Int) : (z.bmod 10007 = z % 10007 ∧ z % 10007 ≤ 5003) ∨ (z.bmod 10007 = z % 10007 - 10007 ∧ 5004 ≤ z % 10007) := by
  simp only [Int.bmod]
  split <;> omega
theorem cg_bm (a : Int) : cg (a.bmod 10007) a := by
  unfold cg
  rcases bmod_t a with h | h <;> omega
theorem cg_tm (a : Int) : cg (a.tmod 10007) a := by
  have := Int.mul_tdiv_add_tmod a 10007
  unfold cg
  omega
theorem cg_of_mul {a b k : Int} (h : a = b + 10007 * k) : cg a b := by unfold cg; omega
def fdI (z : Int) : Int32 := Int32.ofInt (z.bmod 10007)
def mdI (z : Int) : Int32 := Int32.ofInt (z % 10007)
theorem fdI_b (z : Int) : -5003 ≤ z.bmod 10007 ∧ z.bmod 10007 ≤ 5003 := by rcases bmod_t z with h | h <;> omega
theorem mdI_b (z : Int) : 0 ≤ z % 10007 ∧ z % 10007 ≤ 10006 := by omega
theorem fdI_t (z : Int) : (fdI z).toInt = z.bmod 10007 := ofI_t (by have := fdI_b z; omega)
theorem mdI_t (z : Int) : (mdI z).toInt = z % 10007 := ofI_t (by omega)
theorem fdI_eq {a b : Int} (h : cg a b) : fdI a = fdI b := ieq (by rw [fdI_t, fdI_t]; unfold cg at h; rcases bmod_t a with h1 | h1 <;> rcases bmod_t b with h2 | h2 <;> omega)
theorem mdI_eq {a b : Int} (h : cg a b) : mdI a = mdI b := ieq (by rw [mdI_t, mdI_t]; exact h)
theorem cg_of_fdI {a b : Int} (h : fdI a = fdI b) : cg a b := by
  have h1 : (fdI a).toInt = (fdI b).toInt := by rw [h]
  rw [fdI_t, fdI_t] at h1
  exact (cg_bm a).sy.tr (by rw [h1]; exact cg_bm b)
theorem cg_of_mdI {a b : Int} (h : mdI a = mdI b) : cg a b := by
  have h1 : (mdI a).toInt = (mdI b).toInt := by rw [h]
  rw [mdI_t, mdI_t] at h1
  exact h1
theorem fdI_0 {a : Int} : fdI a = 0 ↔ cg a 0 := ⟨fun h => cg_of_fdI (by rw [h]; rfl), fun h => by rw [fdI_eq h]; rfl⟩
theorem mdI_0 {a : Int} : mdI a = 0 ↔ cg a 0 := ⟨fun h => cg_of_mdI (by rw [h]; rfl), fun h => by rw [mdI_eq h]; rfl⟩
theorem fdI_of {x : Int32} (h : -5003 ≤ x.toInt ∧ x.toInt ≤ 5003) : x = fdI x.toInt := ieq (by rw [fdI_t]; rcases bmod_t x.toInt with h1 | h1 <;> omega)
theorem mdI_of {x : Int32} (h : 0 ≤ x.toInt ∧ x.toInt ≤ 10006) : x = mdI x.toInt := ieq (by rw [mdI_t]; omega)
theorem nI_t {n : Nat} (h : n < 2147483648) : (nI n).toInt = (n : Int) := nI_toInt (by omega)
theorem i_nI {x : Int32} (h : 0 ≤ x.toInt) : x = nI x.toInt.toNat := ieq (by
  have := ib x
  rw [nI_t (by omega)]; omega)
/-- the fold -/
theorem wp_fold {x : Int64} {K : Int32 → Prop} (h : K (fdI x.toInt)) : wp_X3_fold x K := by
  unfold wp_X3_fold
  intro y hy
  have e0 := lrem_t (a := x) (b := (10007 : Int64)) rfl (y := 10007) rfl (by decide)
  have e1 := Int.mul_tdiv_add_tmod x.toInt 10007
  have e3 : x.toInt.tmod 10007 < 10007 := Int.tmod_lt_of_pos x.toInt (by decide)
  have e4 : -10007 < x.toInt.tmod 10007 := by
    rcases Int.le_total 0 x.toInt with g | g
    · have := Int.tmod_nonneg 10007 g; omega
    · have := Int.neg_tmod (a := -x.toInt) (b := 10007)
      have h2 := Int.tmod_lt_of_pos (-x.toInt) (b := 10007) (by decide)
      rw [Int.neg_neg] at this
      omega
  have ey : y.toInt = x.toInt.tmod 10007 := by rw [hy]; exact l2i_t e0 (by omega)
  have k1 : (5003 : Int32).toInt = 5003 := rfl
  have k2 : (-5003 : Int32).toInt = -5003 := rfl
  have k3 : (10007 : Int32).toInt = 10007 := rfl
  have hb := bmod_t x.toInt
  refine ⟨fun q => ⟨fun q2 => ?_, fun q2 => ?_⟩, fun q => ?_⟩
  · rw [Int32.le_iff_toInt_le] at q q2
    have : y = fdI x.toInt := ieq (by rw [fdI_t]; omega)
    rw [this]; exact h
  · rw [Int32.le_iff_toInt_le] at q q2
    have : y + 10007 = fdI x.toInt := ieq (by rw [ia ey k3 (by omega), fdI_t]; omega)
    rw [this]; exact h
  · rw [Int32.le_iff_toInt_le] at q
    have : y - 10007 = fdI x.toInt := ieq (by rw [is' ey k3 (by omega), fdI_t]; omega)
    rw [this]; exact h
theorem xor_sign (x : Int32) : 0 ≤ (x ^^^ (10007 : Int32)) ↔ 0 ≤ x := by
  have h1 := BitVec.msb_eq_toInt (x := (x ^^^ (10007 : Int32)).toBitVec)
  have h2 := BitVec.msb_eq_toInt (x := x.toBitVec)
  have h3 : (x ^^^ (10007 : Int32)).toBitVec.msb = x.toBitVec.msb := by
    rw [Int32.toBitVec_xor, BitVec.msb_xor, show (10007 : Int32).toBitVec.msb = false by decide, Bool.xor_false]
  rw [h1, h2] at h3
  rw [Int32.le_iff_toInt_le, Int32.le_iff_toInt_le]
  have h4 := decide_eq_decide.mp h3
  simp only [Int32.toInt_toBitVec] at h4
  have h5 : (0 : Int32).toInt = 0 := rfl
  omega
/-- the model's: floorMod, signed, told -/
theorem wp_floorMod {x : Int32} {K : Int32 → Prop} (h : K (mdI x.toInt)) : wp_J9_floorMod_7cf53 x (10007 : Int32) K := by
  unfold wp_J9_floorMod_7cf53
  refine ⟨by decide, fun y hy => ?_⟩
  have k3 : (10007 : Int32).toInt = 10007 := rfl
  have ey : y.toInt = x.toInt.tmod 10007 := by rw [hy]; exact irem_t rfl k3 (by decide)
  have e1 := Int.mul_tdiv_add_tmod x.toInt 10007
  have e3 : x.toInt.tmod 10007 < 10007 := Int.tmod_lt_of_pos x.toInt (by decide)
  have e5 : (0 ≤ x.toInt → 0 ≤ x.toInt.tmod 10007) := fun h => Int.tmod_nonneg 10007 h
  have e6 : (x.toInt ≤ 0 → x.toInt.tmod 10007 ≤ 0) := fun h => by
    have := Int.neg_tmod (a := -x.toInt) (b := 10007)
    have h2 := Int.tmod_nonneg (a := -x.toInt) 10007 (by omega)
    rw [Int.neg_neg] at this
    omega
  have e4 : -10007 < x.toInt.tmod 10007 := by
    rcases Int.le_total 0 x.toInt with g | g
    · have := e5 g; omega
    · have := Int.neg_tmod (a := -x.toInt) (b := 10007)
      have h2 := Int.tmod_lt_of_pos (-x.toInt) (b := 10007) (by decide)
      rw [Int.neg_neg] at this
      omega
  have z0 : (0 : Int32).toInt = 0 := rfl
  refine ⟨fun q => ?_, fun q => ⟨fun q2 => ?_, fun q2 => ?_⟩⟩
  · rw [xor_sign, Int32.le_iff_toInt_le] at q
    have : y = mdI x.toInt := ieq (by rw [mdI_t]; have := e5 (by omega); omega)
    rw [this]; exact h
  · have q3 : y.toInt = 0 := by rw [q2]; rfl
    have : y = mdI x.toInt := ieq (by rw [mdI_t]; omega)
    rw [this]; exact h
  · rw [xor_sign, Int32.le_iff_toInt_le] at q
    have q3 : y.toInt ≠ 0 := fun e => q2 (ieq (by rw [e]; rfl))
    have : y + 10007 = mdI x.toInt := ieq (by rw [ia ey k3 (by omega), mdI_t]; have := e6 (by omega); omega)
    rw [this]; exact h
theorem wp_modulo {x : Int32} {K : Int32 → Prop} (h : K (mdI x.toInt)) : wp_X12_modulo x K := by
  unfold wp_X12_modulo
  exact wp_floorMod h
theorem wp_signed {z : Int} {K : Int32 → Prop} (h : K (fdI z)) : wp_X12_signed (mdI z) K := by
  unfold wp_X12_signed
  have k1 : (5003 : Int32).toInt = 5003 := rfl
  have k3 : (10007 : Int32).toInt = 10007 := rfl
  have hb := bmod_t z
  have em := mdI_t z
  refine ⟨fun q => ?_, fun q => ?_⟩
  · rw [Int32.le_iff_toInt_le] at q
    have : mdI z = fdI z := ieq (by rw [fdI_t]; omega)
    rw [this]; exact h
  · rw [Int32.le_iff_toInt_le] at q
    have : mdI z - 10007 = fdI z := ieq (by rw [is' em k3 (by omega), fdI_t]; omega)
    rw [this]; exact h
theorem wp_told {z : Int} {K : Int32 → Prop} (h : K ((100000 : Int32) + fdI z)) : wp_X12_told (mdI z) K := by
  unfold wp_X12_told
  exact wp_signed h
/-- between two numbers -/
def btw (x a b : Int32) : Int32 := if a ≤ x ∧ x ≤ b then 1 else 0
theorem btw_0 {x a b : Int32} : btw x a b = 0 ↔ ¬ (a ≤ x ∧ x ≤ b) := by
  unfold btw
  split
  · exact ⟨fun h => absurd h (by decide), fun h => absurd (by assumption) h⟩
  · exact ⟨fun _ => by assumption, fun _ => rfl⟩
theorem btw_z (x a b : Int32) : narrow .boolean (.int (btw x a b)) = .int (btw x a b) := by
  unfold btw
  split <;> rfl
theorem wp_within {x a b : Int32} {K : Int32 → Prop} (h : K (btw x a b)) : wp_X11_within x a b K := by
  unfold wp_X11_within
  unfold btw at h
  refine ⟨fun q => ?_, fun q => ⟨fun q2 => ?_, fun q2 => ?_⟩⟩
  · rw [if_neg (fun e => absurd q (Int32.not_lt.mpr e.1))] at h; exact h
  · rw [if_neg (fun e => absurd q2 (Int32.not_lt.mpr e.2))] at h; exact h
  · rw [if_pos ⟨Int32.not_lt.mp q, Int32.not_lt.mp q2⟩] at h; exact h
