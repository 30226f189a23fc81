/-! floats: what the class makes of bits -/
def iZ (z : Int) : Int32 := Int32.ofInt z
theorem iZ_t {z : Int} (h : -2147483648 ≤ z ∧ z < 2147483648) : (iZ z).toInt = z := ofI_t h
theorem iZ_n {n : Nat} (h : n < 2147483648) : nI n = iZ (n : Int) := ieq (by rw [nI_t h, iZ_t (by omega)])
theorem iZ_e {x : Int32} {z : Int} (h : x.toInt = z) : x = iZ z := ieq (by rw [iZ_t (by have := ib x; omega), h])
theorem iZ_add {a b : Int} (ha : -1000000 ≤ a ∧ a ≤ 1000000) (hb : -1000000 ≤ b ∧ b ≤ 1000000) : iZ a + iZ b = iZ (a + b) := iZ_e (ia (iZ_t (by omega)) (iZ_t (by omega)) (by omega))
theorem iZ_sub {a b : Int} (ha : -1000000 ≤ a ∧ a ≤ 1000000) (hb : -1000000 ≤ b ∧ b ≤ 1000000) : iZ a - iZ b = iZ (a - b) := iZ_e (is' (iZ_t (by omega)) (iZ_t (by omega)) (by omega))
theorem iZ_lt {a b : Int} (ha : -1000000 ≤ a ∧ a ≤ 1000000) (hb : -1000000 ≤ b ∧ b ≤ 1000000) : iZ a < iZ b ↔ a < b := by
  rw [Int32.lt_iff_toInt_lt, iZ_t (by omega), iZ_t (by omega)]
theorem iZ_le {a b : Int} (ha : -1000000 ≤ a ∧ a ≤ 1000000) (hb : -1000000 ≤ b ∧ b ≤ 1000000) : iZ a ≤ iZ b ↔ a ≤ b := by
  rw [Int32.le_iff_toInt_le, iZ_t (by omega), iZ_t (by omega)]
theorem lN_b1 {d : Nat} (hd : d < 64) : ((1 : Int64) <<< ((nI d).toInt64 &&& 63)) = lN (2 ^ d) := by
  rw [show (1 : Int64) = lN 1 from rfl, lN_shl hd, Nat.one_mul]
theorem lN_m1 {d : Nat} : lN (2 ^ d) - (1 : Int64) = lN (2 ^ d - 1) := lN_sub (b := 1) (Nat.two_pow_pos d)
theorem pow62 {d : Nat} (h : d ≤ 62) : 2 ^ d ≤ 4611686018427387904 := Nat.le_trans (Nat.pow_le_pow_right (n := 2) (j := 62) (by decide) h) (by decide)
theorem wp_rounded51 {x1 : Int64} {x3 bi mo : Int32} {inf : Int64} {F g d S : Nat} {K : Int64 → Prop} (hd : 2 ≤ d) (hd2 : d < 1000000) (hg : g < 1000000) (hF : F < 64) (hS : S < 9223372036854775808) (hK : K (x1 ||| lN (g * 2 ^ F + FP.Core.nearest S (2 ^ d)))) (h0 : 63 < d → g * 2 ^ F + FP.Core.nearest S (2 ^ d) = 0 → x1 ||| lN 0 = x1) (hg0 : 63 < d → g = 0) : jn_X7_rounded_51 x1 x3 (lN S) (nI F) bi mo inf K (nI (g + 1)) (nI d) := by
  unfold jn_X7_rounded_51
  have fin : ∀ c : Nat, jn_X7_rounded_117 x1 x3 (lN S) (nI F) bi mo inf K (nI (g + 1)) (lN c) = K (x1 ||| lN (g * 2 ^ F + c)) := by
    intro c
    unfold jn_X7_rounded_117
    rw [sub1 (by omega), Nat.add_sub_cancel, nI_l (by omega), show lN g <<< ((nI F).toInt64 &&& 63) = lN (g * 2 ^ F) from lN_shl hF, lN_add]
  have fin2 : ∀ c : Nat, K (x1 ||| lN (g * 2 ^ F + (c + 1))) → jn_X7_rounded_111 x1 x3 (lN S) (nI F) bi mo inf K (nI (g + 1)) (lN c) := by
    intro c h
    unfold jn_X7_rounded_111
    intro y1 hy
    rw [lN_1] at hy
    subst hy
    rw [fin]
    exact h
  by_cases c : d ≤ 63
  · refine br_t (nle c (by decide)) ?_
    intro y1 q1 y2 q2 y3 q3
    rw [lN_shr (by omega) (by omega)] at q1
    rw [lN_b1 (by omega), lN_m1, lN_mask] at q2
    rw [sub1 (by omega), lN_b1 (by omega)] at q3
    subst q1 q2 q3
    have e2 : 2 ^ d = 2 * 2 ^ (d - 1) := FP.Core.two_pow_pred d (by omega)
    have b1 := pow62 (show d - 1 ≤ 62 by omega)
    have b2 : S % 2 ^ d ≤ S := Nat.mod_le _ _
    have b3 : S / 2 ^ d ≤ S := Nat.div_le_self _ _
    unfold FP.Core.nearest at hK
    rw [c_gt (by omega) (by omega), c_eq (by omega) (by omega), show (1 : Int64) = lN (2 ^ 1 - 1) from rfl, lN_mask, c_eq (by omega) (by decide)]
    refine ⟨fun q => fin2 _ ?_, fun q => ⟨fun r => ?_, fun r => ⟨fun t => ?_, fun t => fin2 _ ?_⟩⟩⟩
    · rw [if_neg (by omega), if_pos (by omega)] at hK
      exact hK
    · rw [if_pos (by omega)] at hK
      rw [fin]
      exact hK
    · rw [if_neg (by omega), if_neg (by omega), show S / 2 ^ d % 2 = 0 by omega, Nat.add_zero] at hK
      rw [fin]
      exact hK
    · rw [if_neg (by omega), if_neg (by omega), show S / 2 ^ d % 2 = 1 by omega] at hK
      exact hK
  · refine br_f (ngt (a := 63) (b := d) (by omega) (by omega)) ?_
    have e1 : FP.Core.nearest S (2 ^ d) = 0 := by
      refine near_lo (i := 0) (by omega) ?_
      have h3 : 2 ^ 64 ≤ 2 ^ d := Nat.pow_le_pow_right (by decide) (by omega)
      omega
    rw [e1, hg0 (by omega), Nat.zero_mul, Nat.add_zero] at hK
    rw [← h0 (by omega) (by rw [e1, hg0 (by omega), Nat.zero_mul])]
    exact hK
/-- rounded -/
theorem wp_rounded {f : FP.Core.Fmt} {s : Bool} {E : Int} {S : Nat} {K : Int64 → Prop} (hf : FP.Core.Good f) (hp : f.p ≤ 61) (hsb : sb f < 64) (hE : -10000 ≤ E ∧ E ≤ 10000) (hem2 : f.emax ≤ 1023) (h2 : S < 9223372036854775808) (hK : K (lN (sg s (sb f) + crd f E S))) : wp_X7_rounded (lN (sg s (sb f))) (iZ E) (lN S) (nI (f.p - 1)) (nI f.emax) (nI (f.exps - 1)) (lN ((f.exps - 1) * f.tails)) K := by
  have hex := FP.Core.emax_exps hf
  have hem := FP.Core.emax_pos hf
  have hpp := hf.2
  have hT0 := FP.Core.tails_pos f
  have hpw : 2 ^ f.p = 2 * f.tails := FP.Core.two_tails hf
  have hT2 : f.tails = 2 ^ (f.p - 1) := rfl
  have e3 := sb_e f
  have lim : ∀ m, m ≤ (f.exps - 1) * f.tails → lN (sg s (sb f)) ||| lN m = lN (sg s (sb f) + m) := by
    intro m hm
    rw [lN_or, sg_or]
    rw [e3]
    have h4 : (f.exps - 1) * f.tails + f.tails = f.exps * f.tails := by
      rw [← Nat.succ_mul, Nat.succ_eq_add_one, Nat.sub_add_cancel (by omega)]
    omega
  unfold wp_X7_rounded
  intro y1 q1
  rw [iZ_n (by omega), iZ_add (by omega) (by omega)] at q1
  subst q1
  rw [iZ_n (n := f.exps - 1) (by omega), iZ_lt (by omega) (by omega)]
  unfold crd at hK
  refine ⟨fun r1 => ?_, fun r1 => ?_⟩
  · rw [if_neg (by omega)] at hK
    intro y2 q2
    rw [show (62 : Int32) = nI 62 from rfl, pk_sub (show f.p - 1 ≤ 62 by omega)] at q2
    subst q2
    rw [show (1 : Int32) = iZ 1 from rfl, iZ_le (by omega) (by omega)]
    have pd : 2 ^ (62 - (f.p - 1)) * f.tails = 4611686018427387904 := by
      rw [hT2, ← Nat.pow_add, show 62 - (f.p - 1) + (f.p - 1) = 62 by omega]
    have c1 : ∀ d, 62 - (f.p - 1) ≤ d → FP.Core.nearest S (2 ^ d) ≤ 2 * f.tails := by
      intro d hd
      refine FP.Core.nearest_le (Nat.two_pow_pos _) ?_
      have h3 : 2 ^ (62 - (f.p - 1)) ≤ 2 ^ d := Nat.pow_le_pow_right (by decide) (by omega)
      have h4 := Nat.mul_le_mul_left (2 * f.tails) h3
      have h5 : 2 * f.tails * 2 ^ (62 - (f.p - 1)) = 9223372036854775808 := by
        rw [Nat.mul_assoc, Nat.mul_comm f.tails, pd]
      omega
    refine ⟨fun r2 => ?_, fun r2 => ?_⟩
    · obtain ⟨g, hg⟩ : ∃ g : Nat, E + (f.emax : Int) = ((g + 1 : Nat) : Int) := ⟨(E + (f.emax : Int) - 1).toNat, by omega⟩
      rw [hg, ← iZ_n (by omega)]
      rw [hg, show (max ((g + 1 : Nat) : Int) 1 - 1).toNat = g by omega, show (1 - ((g + 1 : Nat) : Int)).toNat = 0 by omega, Nat.add_zero] at hK
      refine wp_rounded51 (by omega) (by omega) (by omega) (by omega) h2 ?_ (fun q => absurd q (by omega)) (fun q => absurd q (by omega))
      have h5 := c1 (62 - (f.p - 1)) (Nat.le_refl _)
      rw [← hT2, lim _ ?_]
      · exact hK
      · have h6 : (g + 2) * f.tails ≤ (f.exps - 1) * f.tails := Nat.mul_le_mul_right _ (by omega)
        rw [Nat.add_mul] at h6
        omega
    · intro y3 q3
      obtain ⟨g, hg⟩ : ∃ g : Nat, 1 - (E + (f.emax : Int)) = (g : Int) := ⟨(1 - (E + (f.emax : Int))).toNat, by omega⟩
      rw [iZ_sub (by omega) (by omega), hg, ← iZ_n (by omega), nI_add] at q3
      subst q3
      rw [hg, show (max (E + (f.emax : Int)) 1 - 1).toNat = 0 by omega, Int.toNat_natCast] at hK
      rw [show iZ 1 = nI (0 + 1) from rfl]
      have h5 := c1 (62 - (f.p - 1) + g) (by omega)
      refine wp_rounded51 (by omega) (by omega) (by omega) (by omega) h2 ?_ (fun _ _ => ?_) (fun _ => rfl)
      · rw [Nat.zero_mul, Nat.zero_add] at hK ⊢
        rw [lim _ ?_]
        · exact hK
        · have h6 : 2 * f.tails ≤ (f.exps - 1) * f.tails := Nat.mul_le_mul_right _ (by omega)
          omega
      · rw [lim 0 (Nat.zero_le _), Nat.add_zero]
  · rw [if_pos (by omega)] at hK
    rw [lim _ (Nat.le_refl _)]
    exact hK
/-- how far the highest digit is below the 63rd -/
theorem wp_gapOf {S : Nat} {K : Int32 → Prop} (h0 : 0 < S) (h1 : S < 9223372036854775808) (hK : ∀ g : Nat, g ≤ 62 → 4611686018427387904 ≤ S * 2 ^ g → S * 2 ^ g < 9223372036854775808 → K (nI g)) : wp_X7_gapOf (lN S) K := by
  unfold wp_X7_gapOf
  refine V_X7_gapOf_2 62 (fun g => S * 2 ^ g < 9223372036854775808) (fun k e => ?_) (fun k g hg e ih => ?_) (i := 0) (Nat.zero_le _) (by omega)
  · unfold lp_X7_gapOf_2
    refine br_t (nle (Nat.le_refl 62) (by decide)) (hK 62 (Nat.le_refl _) ?_ e)
    have := Nat.mul_le_mul_right (2 ^ 62) h0
    omega
  · unfold lp_X7_gapOf_2
    refine br_f (ngt (b := 62) hg (by decide)) ?_
    rw [lN_shl (by omega), show (4611686018427387904 : Int64) = lN 4611686018427387904 from rfl, c_ge e (by decide)]
    refine ⟨fun q => hK g (by omega) q e, fun q => ih ?_⟩
    show S * 2 ^ (g + 1) < 9223372036854775808
    rw [Nat.pow_succ, ← Nat.mul_assoc]
    omega
