/-! floats: cut to an int -/
theorem cutV {c j k : Nat} {q : Int} (h : (k : Int) = (j : Int) - q) : c * 2 ^ q.toNat / 2 ^ (-q).toNat = c * 2 ^ j / 2 ^ k := by
  rcases Int.le_total 0 q with c1 | c1
  · rw [show (-q).toNat = 0 by omega, Nat.pow_zero, Nat.div_one, show j = q.toNat + k by omega, Nat.pow_add, ← Nat.mul_assoc, Nat.mul_div_cancel _ (Nat.two_pow_pos k)]
  · rw [show q.toNat = 0 by omega, Nat.pow_zero, Nat.mul_one, show k = (-q).toNat + j by omega, Nat.pow_add, Nat.mul_div_mul_right _ _ (Nat.two_pow_pos j)]
theorem wp_cutToInt {f : FP.Core.Fmt} {x : Int64} {d : FP.Core.Datum} {K : Int32 → Prop} (hf : Fk f) (h30 : 30 ≤ f.emax) (hx : Pn f x d) (hK : K (FP.Core.toI d)) : wp_X7_cutToInt x (nI (f.p - 1)) (nI f.emax) (lN (2 ^ sb f)) (lN ((f.exps - 1) * f.tails)) K := by
  obtain ⟨s, m, hm, ex, cx⟩ := hx
  subst ex
  have hmag := hf.mag
  have hi := hf.inf
  have hi0 := hf.pos
  have hT0 := FP.Core.tails_pos f
  have hpp := hf.1.2
  have hex := FP.Core.emax_exps hf.1
  have hem := hf.2.2.2
  have j39 : ∀ s0 : Int32, ((s = false ∧ s0 = 0) ∨ (s = true ∧ s0 = 1)) → ¬ m = 0 → m ≤ (f.exps - 1) * f.tails → jn_X7_cutToInt_39 (lN (sg s (sb f) + m)) (nI (f.p - 1)) (nI f.emax) (lN (2 ^ sb f)) (lN ((f.exps - 1) * f.tails)) K (lN m) s0 := by
    intro s0 hs r1 r2
    unfold jn_X7_cutToInt_39
    -- far out
    have big : ∀ E : Int, 30 < E → E < 5000 → FP.Core.toI d = (if s = false then 2147483647 else -2147483648) → ((0 ≤ iZ E → ((iZ E ≤ (30 : Int32) → (wp_X7_significandOf (lN m) (nI (f.p - 1)) (fun y2 => (∀ y3 : Int32, y3 = (((y2.toUInt64 >>> (((62 : Int32) - iZ E).toInt64.toUInt64 &&& Int64.toUInt64 63)).toInt64).toInt32) → ((s0 = 0 → K y3) ∧ (¬ s0 = 0 → K (-y3))))))) ∧ (¬ iZ E ≤ (30 : Int32) → ((s0 = 0 → K (2147483647 : Int32)) ∧ (¬ s0 = 0 → K (-2147483648 : Int32)))))) ∧ (¬ 0 ≤ iZ E → K (0 : Int32))) := by
      intro E h1 h2 h3
      rw [show (0 : Int32) = iZ 0 from rfl, show (30 : Int32) = iZ 30 from rfl, iZ_le (by omega) (by omega), iZ_le (by omega) (by omega)]
      refine ⟨fun _ => ⟨fun z => absurd z (by omega), fun _ => ?_⟩, fun z => absurd (show (0 : Int) ≤ E by omega) z⟩
      rw [h3] at hK
      rcases hs with ⟨hs, h0⟩ | ⟨hs, h0⟩
      · subst hs h0
        exact ⟨fun _ => hK, fun z => absurd rfl z⟩
      · subst hs h0
        exact ⟨fun z => absurd z (by decide), fun _ => hK⟩
    by_cases r3 : m = (f.exps - 1) * f.tails
    · have hd := cx.inf hf r3
      have e1 : wp_X7_exponentOf (lN m) (nI (f.p - 1)) (nI f.emax) = wp_X7_exponentOf (lN m) (nI (f.p - 1)) (nI f.emax) := rfl
      have hT : f.tails = 2 ^ (f.p - 1) := rfl
      have p53 := hf.2.1
      unfold wp_X7_exponentOf
      intro y1 hy
      rw [lN_shr (by omega) (by omega), ← hT, r3, Nat.mul_div_cancel _ hT0, lN_i] at hy
      subst hy
      refine br_f (fun q => ?_) ?_
      · rw [show (0 : Int32) = nI 0 from rfl, nI_eq (by omega) (by decide)] at q
        omega
      · rw [iZ_n (n := f.exps - 1) (by omega), iZ_n (n := f.emax) (by omega), iZ_sub (by omega) (by omega)]
        refine big _ (by omega) (by omega) ?_
        rw [hd]
        cases s <;> rfl
    · obtain ⟨c, q, z, e⟩ := cx.fin r1 r2 r3
      obtain ⟨j, j0, j1, j2, j3, j4, j5⟩ := z.up hf
      refine wp_expo hf z j2 j3 ?_
      have ht : FP.Core.toI d = Int32.ofInt (max (-2147483648) (min 2147483647 (FP.Core.signed s (c * 2 ^ q.toNat / 2 ^ (-q).toNat)))) := by
        rw [e]
        rfl
      by_cases b1 : 30 < q + 62 - (j : Int)
      · refine big _ b1 (by omega) ?_
        have hV : 2147483648 ≤ c * 2 ^ q.toNat / 2 ^ (-q).toNat := by
          by_cases b2 : q + 62 - (j : Int) ≤ 62
          · rw [cutV (j := j) (k := ((j : Int) - q).toNat) (by omega)]
            refine (Nat.le_div_iff_mul_le (Nat.two_pow_pos _)).mpr ?_
            have h4 : 2 ^ ((j : Int) - q).toNat ≤ 2 ^ 31 := Nat.pow_le_pow_right (by decide) (by omega)
            have := Nat.mul_le_mul_left 2147483648 h4
            omega
          · rw [show (-q).toNat = 0 by omega, Nat.pow_zero, Nat.div_one]
            have h4 : 2 ^ j ≤ 2 ^ q.toNat := Nat.pow_le_pow_right (by decide) (by omega)
            have := Nat.mul_le_mul_left c h4
            omega
        rw [ht]
        generalize c * 2 ^ q.toNat / 2 ^ (-q).toNat = V at hV
        unfold FP.Core.signed
        cases s
        · rw [if_neg Bool.false_ne_true, if_pos rfl, show max (-2147483648) (min 2147483647 (V : Int)) = 2147483647 by omega]
          rfl
        · rw [if_pos rfl, if_neg (by decide), show max (-2147483648) (min 2147483647 (-(V : Int))) = -2147483648 by omega]
          rfl
      · rw [show (0 : Int32) = iZ 0 from rfl, show (30 : Int32) = iZ 30 from rfl, iZ_le (by omega) (by omega), iZ_le (by omega) (by omega)]
        have hk := cutV (c := c) (j := j) (q := q) (k := ((j : Int) - q).toNat) (by omega)
        refine ⟨fun b2 => ⟨fun b3 => ?_, fun b3 => absurd (show q + 62 - (j : Int) ≤ 30 by omega) b3⟩, fun b2 => ?_⟩
        · refine wp_signif hf z j2 j3 ?_
          intro y3 hy
          rw [show (62 : Int32) = iZ 62 from rfl, iZ_sub (by omega) (by omega), show (62 : Int) - (q + 62 - (j : Int)) = (((j : Int) - q).toNat : Int) by omega, ← iZ_n (by omega), lN_shr (by omega) (by omega), ← hk, lN_i] at hy
          subst hy
          have hV : c * 2 ^ q.toNat / 2 ^ (-q).toNat < 2147483648 := by
            rw [hk]
            refine (Nat.div_lt_iff_lt_mul (Nat.two_pow_pos _)).mpr ?_
            have h4 : 2 ^ 32 ≤ 2 ^ ((j : Int) - q).toNat := Nat.pow_le_pow_right (by decide) (by omega)
            have := Nat.mul_le_mul_left 2147483648 h4
            omega
          rw [ht] at hK
          generalize c * 2 ^ q.toNat / 2 ^ (-q).toNat = V at hV hK ⊢
          unfold FP.Core.signed at hK
          rcases hs with ⟨hs, h0⟩ | ⟨hs, h0⟩
          · subst hs h0
            rw [if_neg Bool.false_ne_true, show max (-2147483648) (min 2147483647 (V : Int)) = (V : Int) by omega] at hK
            refine ⟨fun _ => ?_, fun z => absurd rfl z⟩
            rw [iZ_n (by omega)]
            exact hK
          · subst hs h0
            rw [if_pos rfl, show max (-2147483648) (min 2147483647 (-(V : Int))) = -(V : Int) by omega] at hK
            refine ⟨fun z => absurd z (by decide), fun _ => ?_⟩
            rw [iZ_e (ing (nI_t hV) (by omega))]
            exact hK
        · have hV : c * 2 ^ q.toNat / 2 ^ (-q).toNat = 0 := by
            rw [hk]
            refine Nat.div_eq_of_lt ?_
            have h4 : 2 ^ 63 ≤ 2 ^ ((j : Int) - q).toNat := Nat.pow_le_pow_right (by decide) (by omega)
            omega
          rw [ht, hV] at hK
          cases s <;> exact hK
  unfold wp_X7_cutToInt
  refine wp_mag hm ?_
  rw [c_gt (a := m) (by omega) (by omega), lN_and, sg_and hm]
  refine ⟨fun r => ?_, fun r => ?_⟩
  · rw [cx.nan r] at hK
    exact hK
  · rw [show (0 : Int64) = lN 0 from rfl, c_eq (a := m) (b := 0) (by omega) (by decide)]
    refine ⟨fun r2 => ?_, fun r2 => ?_⟩
    · have hP := Nat.two_pow_pos (sb f)
      have hsl := sg_le s (sb f)
      rw [c_eq (by omega) (by decide)]
      cases s
      · refine br_t ?_ (j39 0 (Or.inl ⟨rfl, rfl⟩) r2 (by omega))
        unfold sg
        rw [show Bool.toNat false = 0 from rfl, Nat.zero_mul]
      · refine br_f (fun q => ?_) (j39 1 (Or.inr ⟨rfl, rfl⟩) r2 (by omega))
        unfold sg at q
        rw [show Bool.toNat true = 1 from rfl, Nat.one_mul] at q
        omega
    · rw [cx.zero hf r2] at hK
      have e0 : FP.Core.toI (.fin s 0 f.qmin) = 0 := by
        show Int32.ofInt (max _ (min _ (FP.Core.signed s (0 * 2 ^ f.qmin.toNat / 2 ^ (-f.qmin).toNat)))) = 0
        rw [Nat.zero_mul, Nat.zero_div]
        cases s <;> rfl
      rw [e0] at hK
      exact hK
