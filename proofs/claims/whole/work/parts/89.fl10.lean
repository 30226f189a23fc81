/-! floats: the quotient -/
theorem qt_near {S1 D Qt g d : Nat} (hD : 0 < D) (h1 : D * Qt < S1) (h2 : S1 < D * (Qt + 1)) (hg : g ≤ 8) (hd : 39 ≤ d) : FP.Core.nearest (S1 * 2 ^ (22 + g)) (D * 2 ^ d) = FP.Core.nearest ((Qt * 4194304 + 1) * 2 ^ g) (2 ^ d) := by
  have e1 : 2 ^ d = 2 ^ (d - 21 - g) * 2 ^ (21 + g) := by
    rw [← Nat.pow_add]
    congr 1
    omega
  have e2 : S1 * 2 ^ (22 + g) = S1 * 2 * 2 ^ (21 + g) := by
    rw [show 22 + g = (21 + g) + 1 by omega, Nat.pow_succ, Nat.mul_comm (2 ^ (21 + g)) 2, ← Nat.mul_assoc]
  have e3 : 2 ^ d = 2097152 * 2 ^ (d - 21 - g) * 2 ^ g := by
    rw [show (2097152 : Nat) = 2 ^ 21 from rfl, ← Nat.pow_add, ← Nat.pow_add]
    congr 1
    omega
  have l : FP.Core.nearest (S1 * 2 ^ (22 + g)) (D * 2 ^ d) = FP.Core.nearest (2 * Qt + 1) (2 ^ (d - 21 - g)) := by
    rw [e1, e2, ← Nat.mul_assoc, FP.Core.nearest_scale _ _ _ (Nat.two_pow_pos _)]
    refine near_st hD (by omega) (Or.inr ⟨by omega, ?_, ?_⟩)
    · rw [show D * (2 * Qt + 1 - 1) = D * Qt * 2 by rw [Nat.add_sub_cancel, Nat.mul_comm 2 Qt, ← Nat.mul_assoc]]
      omega
    · rw [show D * (2 * Qt + 1 + 1) = D * (Qt + 1) * 2 by rw [show 2 * Qt + 1 + 1 = (Qt + 1) * 2 by omega, ← Nat.mul_assoc]]
      omega
  have r : FP.Core.nearest ((Qt * 4194304 + 1) * 2 ^ g) (2 ^ d) = FP.Core.nearest (2 * Qt + 1) (2 ^ (d - 21 - g)) := by
    rw [e3, FP.Core.nearest_scale _ _ _ (Nat.two_pow_pos _)]
    exact near_st (by decide) (by omega) (Or.inr ⟨by omega, by omega, by omega⟩)
  rw [l, r]
theorem lN_div {a b : Nat} (ha : a < 9223372036854775808) (hb : b < 9223372036854775808) : lN a / lN b = lN (a / b) := by
  have hne : lN b ≠ -1 := fun q => by
    have := congrArg Int64.toInt q
    rw [lN_t hb, show (-1 : Int64).toInt = -1 from rfl] at this
    omega
  have hd : a / b ≤ a := Nat.div_le_self _ _
  refine leq ?_
  rw [Int64.toInt_div_of_ne_right _ _ hne, lN_t ha, lN_t hb, lN_t (by omega), Int.tdiv_eq_ediv_of_nonneg (by omega), Int.natCast_ediv]
/-- the quotient's last step -/
theorem sq_fin {f : FP.Core.Fmt} {s : Bool} {x1 x3 : Int64} {m n c1 c2 j i Qt b : Nat} {q1 q2 : Int} {K : Int64 → Prop} (hf : Fk f) (h24 : f.p ≤ 24) (z1 : Nz f m c1 q1) (z2 : Nz f n c2 q2) (j2 : 4611686018427387904 ≤ c1 * 2 ^ j) (j3 : c1 * 2 ^ j < 9223372036854775808) (i2 : 4611686018427387904 ≤ c2 * 2 ^ i) (i3 : c2 * 2 ^ i < 9223372036854775808) (j0 : j ≤ 62) (i0 : i ≤ 62) (i39 : 39 ≤ i) (j4 : -3000 ≤ q1 ∧ q1 ≤ 3000) (i4 : -3000 ≤ q2 ∧ q2 ≤ 3000) (hb : (b = 0 ∧ c1 * 2 ^ j = c2 * 2 ^ (i - 39) * Qt) ∨ (b = 1 ∧ c2 * 2 ^ (i - 39) * Qt < c1 * 2 ^ j ∧ c1 * 2 ^ j < c2 * 2 ^ (i - 39) * (Qt + 1))) (hQ : 274877906944 ≤ Qt ∧ Qt < 1099511627776) (hK : K (lN (FP.Core.encode f (FP.Core.roundRatio f s c1 c2 (q1 - q2))))) : jn_X7_shortQuotient_202 x1 x3 (nI (f.p - 1)) (nI f.emax) (nI (f.exps - 1)) (lN (2 ^ sb f)) (lN ((f.exps - 1) * f.tails)) (lN (FP.Core.encode f .nan)) K (lN (sg s (sb f))) (lN m) (lN n) (lN (Qt * 2 ^ 22)) (nI b) := by
  have hpp := hf.1.2
  have hb1 : b ≤ 1 := by omega
  have hc2 := z2.2.1
  have hD : 0 < c2 * 2 ^ (i - 39) := Nat.mul_pos hc2 (Nat.two_pow_pos _)
  unfold jn_X7_shortQuotient_202
  intro y1 hy
  rw [nI_l (by omega), lN_or, or_add (show b < 2 ^ 22 by omega)] at hy
  subst hy
  refine wp_gapOf (by omega) (by omega) (fun g g1 g2 g3 => ?_)
  refine wp_expo hf z1 j2 j3 (wp_expo hf z2 i2 i3 ?_)
  have hg : g ≤ 8 := by
    rcases Nat.lt_or_ge g 9 with c | c
    · omega
    · have h4 : 2 ^ 9 ≤ 2 ^ g := Nat.pow_le_pow_right (by decide) c
      have := Nat.mul_le_mul_left (Qt * 2 ^ 22 + b) h4
      omega
  rw [show (1 : Int32) = iZ 1 from rfl, iZ_sub (by omega) (by omega), iZ_add (by omega) (by omega), iZ_n (n := g) (by omega), iZ_sub (by omega) (by omega), ← iZ_n (n := g) (by omega), lN_shl (by omega)]
  refine wp_rounded hf.1 (by omega) (by have := hf.2.2.1; omega) (by omega) hf.2.2.2 g3 ?_
  have er : FP.Core.roundRatio f s c1 c2 (q1 - q2) = FP.Core.roundRatio f s (c1 * 2 ^ j * 2 ^ (22 + g)) (c2 * 2 ^ (i - 39)) (q1 + 62 - (j : Int) - (q2 + 62 - (i : Int)) + 1 - (g : Int) - 62) := by
    refine FP.Core.roundRatio_congr hc2 hD ?_
    generalize hx : (q1 - q2 - (q1 + 62 - (j : Int) - (q2 + 62 - (i : Int)) + 1 - (g : Int) - 62)).toNat = xp
    generalize hy : (q1 + 62 - (j : Int) - (q2 + 62 - (i : Int)) + 1 - (g : Int) - 62 - (q1 - q2)).toNat = xm
    have a1 : c1 * (c2 * 2 ^ (i - 39)) * 2 ^ xp = c1 * c2 * 2 ^ (i - 39 + xp) := by
      rw [Nat.pow_add, ← Nat.mul_assoc, ← Nat.mul_assoc]
    have a2 : c1 * 2 ^ j * 2 ^ (22 + g) * c2 * 2 ^ xm = c1 * c2 * 2 ^ (j + (22 + g) + xm) := by
      rw [Nat.pow_add _ _ xm, Nat.pow_add _ j, Nat.mul_assoc c1, Nat.mul_assoc c1, Nat.mul_comm (2 ^ j * 2 ^ (22 + g)) c2, ← Nat.mul_assoc c1, Nat.mul_assoc (c1 * c2)]
    rw [a1, a2]
    congr 2
    omega
  rw [er] at hK
  generalize c1 * 2 ^ j = S1 at *
  generalize c2 * 2 ^ (i - 39) = D at *
  have e22 : 2 ^ (22 + g) = 4194304 * 2 ^ g := by rw [Nat.pow_add]
  have hP : 0 < 2 ^ g := Nat.two_pow_pos g
  rcases hb with ⟨hb, hx⟩ | ⟨hb, hx, hx2⟩
  · rw [hb, Nat.add_zero] at g2 g3 ⊢
    rw [rnd_ex (S := Qt * 2 ^ 22 * 2 ^ g) hf.1 hf.2.1 hD g2 g3 (by rw [hx, Nat.mul_assoc, Nat.mul_assoc Qt, ← Nat.pow_add])] at hK
    exact hK
  · rw [hb] at g2 g3 ⊢
    have e1 : 2 ^ (62 - g) * 2 ^ g = 4611686018427387904 := by rw [← Nat.pow_add, show 62 - g + g = 62 by omega]
    have e0 : 2 ^ (62 - g) = 2 ^ (40 - g) * 4194304 := by
      rw [show (4194304 : Nat) = 2 ^ 22 from rfl, ← Nat.pow_add]
      congr 1
      omega
    have k1 : 2 ^ (40 - g) ≤ Qt := by
      rcases Nat.lt_or_ge Qt (2 ^ (40 - g)) with c | c
      · exfalso
        have := Nat.mul_lt_mul_of_pos_right (show Qt * 2 ^ 22 + 1 < 2 ^ (62 - g) by omega) hP
        omega
      · exact c
    have k2 : Qt < 2 * 2 ^ (40 - g) := by
      rcases Nat.lt_or_ge Qt (2 * 2 ^ (40 - g)) with c | c
      · exact c
      · exfalso
        have := Nat.mul_le_mul_right (2 ^ g) (show 2 * 2 ^ (62 - g) ≤ Qt * 2 ^ 22 + 1 by omega)
        rw [Nat.mul_assoc, e1] at this
        omega
    have e3 : 2 ^ (40 - g) * 2 ^ (22 + g) = 4611686018427387904 := by rw [← Nat.pow_add, show 40 - g + (22 + g) = 62 by omega]
    rw [rnd_gen (S := (Qt * 2 ^ 22 + 1) * 2 ^ g) hf.1 hf.2.1 hD g2 g3 ?_ ?_ (fun d hd => qt_near hD hx hx2 hg (by omega))] at hK
    · exact hK
    · have h5 := Nat.mul_le_mul_left D k1
      have h6 := Nat.mul_le_mul_right (2 ^ (22 + g)) (show D * 2 ^ (40 - g) ≤ S1 by omega)
      rw [Nat.mul_assoc, e3] at h6
      exact h6
    · have h5 := Nat.mul_le_mul_left D (show Qt + 1 ≤ 2 * 2 ^ (40 - g) by omega)
      have h6 := Nat.mul_lt_mul_of_pos_right (show S1 < D * (2 * 2 ^ (40 - g)) by omega) (Nat.two_pow_pos (22 + g))
      rw [Nat.mul_assoc, Nat.mul_assoc, e3] at h6
      exact h6
