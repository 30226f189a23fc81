/-! floats: the quotient -/
theorem wp_shortQ {f : FP.Core.Fmt} {x y : Int64} {d e : FP.Core.Datum} {K : Int64 → Prop} (hf : Fk f) (h24 : f.p ≤ 24) (hx : Pn f x d) (hy : Pn f y e) (hK : K (lN (FP.Core.encode f (FP.Core.quotient f d e)))) : wp_X7_shortQuotient x y (nI (f.p - 1)) (nI f.emax) (nI (f.exps - 1)) (lN (2 ^ sb f)) (lN ((f.exps - 1) * f.tails)) (lN (FP.Core.encode f .nan)) K := by
  obtain ⟨s, m, hm, ex, cx⟩ := hx
  obtain ⟨t, n, hn, ey, cy⟩ := hy
  subst ex ey
  have hmag := hf.mag
  have hi := hf.inf
  have hi0 := hf.pos
  have hT0 := FP.Core.tails_pos f
  have hpp := hf.1.2
  unfold wp_X7_shortQuotient
  intro y1 q1
  rw [lN_xor, lN_and, sg_xor hm hn] at q1
  subst q1
  refine wp_mag hm (wp_mag hn ?_)
  have kn : (d = .nan ∨ e = .nan) → K (lN (FP.Core.encode f .nan)) := by
    intro h
    rcases h with h | h
    · rw [h] at hK
      exact hK
    · rw [h] at hK
      cases d <;> exact hK
  have j69 : m ≤ (f.exps - 1) * f.tails → n ≤ (f.exps - 1) * f.tails → ¬ (m = (f.exps - 1) * f.tails ∧ n = (f.exps - 1) * f.tails) → jn_X7_shortQuotient_69 (lN (sg s (sb f) + m)) (lN (sg t (sb f) + n)) (nI (f.p - 1)) (nI f.emax) (nI (f.exps - 1)) (lN (2 ^ sb f)) (lN ((f.exps - 1) * f.tails)) (lN (FP.Core.encode f .nan)) K (lN (sg (s != t) (sb f))) (lN m) (lN n) := by
    intro r1 r2 r3
    unfold jn_X7_shortQuotient_69 jn_X7_shortQuotient_120
    rw [show (0 : Int64) = lN 0 from rfl, c_eq (a := m) (b := (f.exps - 1) * f.tails) (by omega) (by omega), c_eq (a := n) (b := (f.exps - 1) * f.tails) (by omega) (by omega), c_eq (a := n) (b := 0) (by omega) (by decide), c_eq (a := m) (b := 0) (by omega) (by decide), sg_inf hf]
    refine ⟨fun r4 => ⟨fun r5 => ⟨fun r6 => ?_, fun r6 => ?_⟩, fun r5 => ?_⟩, fun r4 => ?_⟩
    · obtain ⟨c2, q2, z2, e2⟩ := cy.fin r6 r2 r5
      obtain ⟨i, i0, i1, i2, i3, i4, i5⟩ := z2.up hf
      have hc2 := z2.2.1
      refine wp_signif hf z2 i2 i3 ?_
      have a2 : c2 * 2 ^ i = c2 * 2 ^ (i - 39) * 549755813888 := by
        rw [Nat.mul_assoc, show (549755813888 : Nat) = 2 ^ 39 from rfl, ← Nat.pow_add, show i - 39 + 39 = i by omega]
      have b2 : 8388608 ≤ c2 * 2 ^ (i - 39) ∧ c2 * 2 ^ (i - 39) < 16777216 := by omega
      have v2 : (((lN (c2 * 2 ^ i)).toUInt64 >>> ((39 : Int32).toInt64.toUInt64 &&& Int64.toUInt64 63)).toInt64) = lN (c2 * 2 ^ (i - 39)) := by
        rw [show (39 : Int32) = nI 39 from rfl, lN_shr (by omega) (by decide), show (2 : Nat) ^ 39 = 549755813888 from rfl, a2, Nat.mul_div_cancel _ (by decide)]
      rw [v2, c_eq (a := c2 * 2 ^ (i - 39)) (b := 0) (by omega) (by decide)]
      refine ⟨fun _ => ⟨fun r7 => ?_, fun r7 => ?_⟩, fun z => absurd z (by omega)⟩
      · obtain ⟨c1, q1, z1, e1⟩ := cx.fin r7 r1 r4
        obtain ⟨j, j0, j1, j2, j3, j4, j5⟩ := z1.up hf
        rw [e1, e2] at hK
        have hK2 : K (lN (FP.Core.encode f (FP.Core.roundRatio f (s != t) c1 c2 (q1 - q2)))) := by
          unfold FP.Core.quotient at hK
          dsimp only at hK
          rw [if_neg (by omega)] at hK
          exact hK
        refine wp_signif hf z1 j2 j3 ?_
        intro y2 hy2
        have a1 : c1 * 2 ^ j = c1 * 2 ^ (j - 39) * 549755813888 := by
          rw [Nat.mul_assoc, show (549755813888 : Nat) = 2 ^ 39 from rfl, ← Nat.pow_add, show j - 39 + 39 = j by omega]
        rw [show (39 : Int32) = nI 39 from rfl, lN_shr (by omega) (by decide), lN_shl (by decide), show (2 : Nat) ^ 39 = 549755813888 from rfl, show c1 * 2 ^ j / 549755813888 * 549755813888 = c1 * 2 ^ j by omega] at hy2
        subst hy2
        refine ⟨fun q => ?_, fun y4 hy4 => ?_⟩
        · rw [lN_inj (by omega) (by decide)] at q
          omega
        · rw [lN_div j3 (by omega)] at hy4
          subst hy4
          have hdm := Nat.div_add_mod (c1 * 2 ^ j) (c2 * 2 ^ (i - 39))
          have hml := Nat.mod_lt (c1 * 2 ^ j) (show 0 < c2 * 2 ^ (i - 39) by omega)
          have hq1 : 274877906944 ≤ c1 * 2 ^ j / (c2 * 2 ^ (i - 39)) := by
            refine (Nat.le_div_iff_mul_le (by omega)).mpr ?_
            have := Nat.mul_le_mul_left 274877906944 (show c2 * 2 ^ (i - 39) ≤ 16777216 by omega)
            omega
          have hq2 : c1 * 2 ^ j / (c2 * 2 ^ (i - 39)) < 1099511627776 := by
            refine (Nat.div_lt_iff_lt_mul (by omega)).mpr ?_
            have := Nat.mul_le_mul_left 1099511627776 b2.1
            omega
          rw [lN_div j3 (by omega), lN_mul, lN_sub (by rw [Nat.mul_comm]; omega), show (22 : Int32) = nI 22 from rfl, lN_shl (by decide), c_eq (by omega) (by decide)]
          have hcm : c1 * 2 ^ j / (c2 * 2 ^ (i - 39)) * (c2 * 2 ^ (i - 39)) = c2 * 2 ^ (i - 39) * (c1 * 2 ^ j / (c2 * 2 ^ (i - 39))) := Nat.mul_comm _ _
          have hma : c2 * 2 ^ (i - 39) * (c1 * 2 ^ j / (c2 * 2 ^ (i - 39)) + 1) = c2 * 2 ^ (i - 39) * (c1 * 2 ^ j / (c2 * 2 ^ (i - 39))) + c2 * 2 ^ (i - 39) := by rw [Nat.mul_add, Nat.mul_one]
          refine ⟨fun r8 => ?_, fun r8 => ?_⟩
          · exact sq_fin (b := 0) hf h24 z1 z2 j2 j3 i2 i3 j0 i0 (by omega) ⟨j4, j5⟩ ⟨i4, i5⟩ (Or.inl ⟨rfl, by omega⟩) ⟨hq1, hq2⟩ hK2
          · exact sq_fin (b := 1) hf h24 z1 z2 j2 j3 i2 i3 j0 i0 (by omega) ⟨j4, j5⟩ ⟨i4, i5⟩ (Or.inr ⟨rfl, by omega, by omega⟩) ⟨hq1, hq2⟩ hK2
      · rw [cx.zero hf r7, e2] at hK
        unfold FP.Core.quotient at hK
        dsimp only at hK
        rw [if_neg (by omega)] at hK
        unfold FP.Core.roundRatio at hK
        rw [if_pos rfl, enc_z] at hK
        exact hK
    · rw [cy.zero hf r6] at hK
      refine ⟨fun z => absurd ((lg_cmp_eq _ _).mpr rfl) z, fun _ => ⟨fun r7 => ?_, fun r7 => ?_⟩⟩
      · obtain ⟨c1, q1, z1, e1⟩ := cx.fin r7 r1 r4
        have hc1 := z1.2.1
        rw [e1] at hK
        unfold FP.Core.quotient at hK
        dsimp only at hK
        rw [if_pos rfl, if_neg (by omega)] at hK
        exact hK
      · rw [cx.zero hf r7] at hK
        exact hK
    · rw [cy.inf hf r5] at hK
      by_cases r6 : m = 0
      · rw [cx.zero hf r6] at hK
        have hK2 : K (lN (FP.Core.encode f (.fin (s != t) 0 f.qmin))) := hK
        rw [enc_z] at hK2
        exact hK2
      · obtain ⟨c1, q1, z1, e1⟩ := cx.fin r6 r1 r4
        rw [e1] at hK
        have hK2 : K (lN (FP.Core.encode f (.fin (s != t) 0 f.qmin))) := hK
        rw [enc_z] at hK2
        exact hK2
    · rw [cx.inf hf r4] at hK
      by_cases r6 : n = 0
      · rw [cy.zero hf r6] at hK
        exact hK
      · obtain ⟨c2, q2, z2, e2⟩ := cy.fin r6 r2 (fun q => r3 ⟨r4, q⟩)
        rw [e2] at hK
        exact hK
  unfold jn_X7_shortQuotient_64
  rw [c_gt (a := m) (by omega) (by omega), c_gt (a := n) (by omega) (by omega), c_eq (a := m) (b := (f.exps - 1) * f.tails) (by omega) (by omega), c_eq (a := n) (b := (f.exps - 1) * f.tails) (by omega) (by omega)]
  refine ⟨fun r => kn (Or.inl (cx.nan r)), fun r => ⟨fun r2 => kn (Or.inr (cy.nan r2)), fun r2 => ⟨fun r3 => j69 (by omega) (by omega) (fun q => r3 q.1), fun r3 => ⟨fun r4 => j69 (by omega) (by omega) (fun q => r4 q.2), fun r4 => ?_⟩⟩⟩⟩
  rw [cx.inf hf r3, cy.inf hf r4] at hK
  exact hK
