/-! floats: plus, the main case -/
theorem pl_ord {c1 c2 j i Q1 Q2 : Nat} (h : c2 * 2 ^ Q2 ≤ c1 * 2 ^ Q1) (j3 : c1 * 2 ^ j < 9223372036854775808) (i2 : 4611686018427387904 ≤ c2 * 2 ^ i) : Q2 + j ≤ Q1 + i := by
  rcases Nat.lt_or_ge (Q1 + i) (Q2 + j) with c | c
  · exfalso
    have p1 : 2 ^ (Q1 + i + 1) ≤ 2 ^ (Q2 + j) := Nat.pow_le_pow_right (by decide) c
    rw [Nat.pow_succ] at p1
    have k1 := Nat.mul_lt_mul_of_pos_right j3 (Nat.two_pow_pos (Q1 + i))
    have k2 := Nat.mul_le_mul_right (2 ^ (Q2 + j)) i2
    have k3 := Nat.mul_le_mul_right (2 ^ (i + j)) h
    have e1 : c1 * 2 ^ j * 2 ^ (Q1 + i) = c1 * 2 ^ Q1 * 2 ^ (i + j) := by
      rw [Nat.pow_add, Nat.pow_add]
      ac_rfl
    have e2 : c2 * 2 ^ i * 2 ^ (Q2 + j) = c2 * 2 ^ Q2 * 2 ^ (i + j) := by
      rw [Nat.pow_add, Nat.pow_add]
      ac_rfl
    generalize c1 * 2 ^ j * 2 ^ (Q1 + i) = w1 at *
    generalize c2 * 2 ^ i * 2 ^ (Q2 + j) = w2 at *
    generalize 2 ^ (Q1 + i) = u at *
    generalize 2 ^ (Q2 + j) = v at *
    omega
  · exact c
theorem pl_rr {f : FP.Core.Fmt} {s : Bool} {U A Q2 dl i g pl : Nat} {e e2 : Int} (h : A * 2 ^ Q2 = U * 2 ^ dl * 2 ^ (i - 1)) (he : (pl : Int) + e - e2 + (Q2 : Int) = (dl : Int) + ((i - 1 : Nat) : Int) + (g : Int)) : FP.Core.roundRatio f s U 1 e = FP.Core.roundRatio f s (A * 2 ^ g) (2 ^ pl) e2 := by
  refine FP.Core.roundRatio_congr (by decide) (Nat.two_pow_pos _) ?_
  refine Nat.eq_of_mul_eq_mul_right (Nat.two_pow_pos Q2) ?_
  rw [Nat.mul_one]
  have a1 : A * 2 ^ g * 2 ^ (e2 - e).toNat * 2 ^ Q2 = A * 2 ^ Q2 * 2 ^ (g + (e2 - e).toNat) := by
    rw [Nat.pow_add]
    ac_rfl
  rw [a1, h, Nat.mul_assoc, Nat.mul_assoc, Nat.mul_assoc, Nat.mul_assoc, ← Nat.pow_add, ← Nat.pow_add, ← Nat.pow_add, ← Nat.pow_add]
  congr 2
  omega
theorem pl_fin {f : FP.Core.Fmt} {s : Bool} {x1 x3 x5 x7 : Int64} {U A Q2 dl i pl sum : Nat} {e E1 : Int} {K : Int64 → Prop} (hf : Fk f) (hx1 : x1 &&& lN (2 ^ sb f) = lN (sg s (sb f))) (hE : -9000 ≤ E1 ∧ E1 ≤ 9000) (h0 : 0 < sum) (h1 : sum < 9223372036854775808) (hst : St A (2 ^ pl) sum) (hgap : A = 2 ^ pl * sum ∨ 1152921504606846976 ≤ sum) (h : A * 2 ^ Q2 = U * 2 ^ dl * 2 ^ (i - 1)) (he : (pl : Int) + e - (E1 - 61) + (Q2 : Int) = (dl : Int) + ((i - 1 : Nat) : Int)) (hK : K (lN (FP.Core.encode f (FP.Core.roundRatio f s U 1 e)))) : jn_X7_plusLesser_155 x1 x3 x5 x7 (nI (f.p - 1)) (nI f.emax) (nI (f.exps - 1)) (lN (2 ^ sb f)) (lN ((f.exps - 1) * f.tails)) (lN (FP.Core.encode f .nan)) K (iZ E1) (lN sum) := by
  unfold jn_X7_plusLesser_155
  rw [show (0 : Int64) = lN 0 from rfl, c_eq (by omega) (by decide)]
  refine rb_f (by omega) (wp_gapOf h0 h1 (fun g g1 g2 g3 => ?_))
  rw [hx1, show (1 : Int32) = iZ 1 from rfl, iZ_add (by omega) (by omega), iZ_n (n := g) (by omega), iZ_sub (by omega) (by omega), ← iZ_n (n := g) (by omega), lN_shl (by omega)]
  refine wp_rounded hf.1 (by have := hf.2.1; omega) (by have := hf.2.2.1; omega) (by omega) hf.2.2.2 g3 ?_
  rw [pl_rr (pl := pl) (g := g) (e2 := E1 + 1 - (g : Int) - 62) h (by omega)] at hK
  rcases hgap with hgap | hgap
  · rw [rnd_ex hf.1 hf.2.1 (Nat.two_pow_pos _) g2 g3 (by rw [hgap, Nat.mul_assoc])] at hK
    exact hK
  · have hg : g ≤ 8 := by
      rcases Nat.lt_or_ge g 9 with c | c
      · omega
      · have h4 : 2 ^ 9 ≤ 2 ^ g := Nat.pow_le_pow_right (by decide) c
        have := Nat.mul_le_mul_left sum h4
        omega
    rw [rnd_st hf.1 hf.2.1 (Nat.two_pow_pos _) hg g2 g3 hst] at hK
    exact hK
/-- both finite, neither 0 -/
theorem wp_plusF {f : FP.Core.Fmt} {s t : Bool} {m n c1 c2 : Nat} {q1 q2 : Int} {x1 x3 : Int64} {x9 : Int32} {K : Int64 → Prop} (hf : Fk f) (hx1 : x1 &&& lN (2 ^ sb f) = lN (sg s (sb f))) (z1 : Nz f m c1 q1) (z2 : Nz f n c2 q2) (hmn : n ≤ m) (h9 : (s = t ∧ x9 = 1) ∨ (s ≠ t ∧ x9 = 0)) (hK : K (lN (FP.Core.encode f (FP.Core.round f (FP.Core.exactSum (.fin s c1 q1) (.fin t c2 q2)))))) : wp_X7_exponentOf (lN m) (nI (f.p - 1)) (nI f.emax) (fun y1 => wp_X7_significandOf (lN m) (nI (f.p - 1)) (fun y2 => ∀ y3 : Int64, y3 = ((y2.toUInt64 >>> ((1 : Int32).toInt64.toUInt64 &&& Int64.toUInt64 63)).toInt64) → wp_X7_significandOf (lN n) (nI (f.p - 1)) (fun y4 => wp_X7_exponentOf (lN n) (nI (f.p - 1)) (nI f.emax) (fun y5 => wp_X7_lowered ((y4.toUInt64 >>> ((1 : Int32).toInt64.toUInt64 &&& Int64.toUInt64 63)).toInt64) (y1 - y5) (fun y6 => ((x9 = 0 → jn_X7_plusLesser_155 x1 x3 (lN m) (lN n) (nI (f.p - 1)) (nI f.emax) (nI (f.exps - 1)) (lN (2 ^ sb f)) (lN ((f.exps - 1) * f.tails)) (lN (FP.Core.encode f .nan)) K y1 (y3 - y6)) ∧ (¬ x9 = 0 → jn_X7_plusLesser_155 x1 x3 (lN m) (lN n) (nI (f.p - 1)) (nI f.emax) (nI (f.exps - 1)) (lN (2 ^ sb f)) (lN ((f.exps - 1) * f.tails)) (lN (FP.Core.encode f .nan)) K y1 (y3 + y6)))))))) := by
  obtain ⟨j, j0, j1, j2, j3, j4, j5⟩ := z1.up hf
  obtain ⟨i, i0, i1, i2, i3, i4, i5⟩ := z2.up hf
  have hp53 := hf.2.1
  have hpp := hf.1.2
  have hv := z1.le z2 hmn
  have hq1 : f.qmin ≤ q1 := (z1.fits hf s).2.1
  have hq2 : f.qmin ≤ q2 := (z2.fits hf s).2.1
  have hord := pl_ord hv j3 i2
  refine wp_expo hf z1 j2 j3 (wp_signif hf z1 j2 j3 ?_)
  intro y3 hy3
  have a1 : c1 * 2 ^ j = c1 * 2 ^ (j - 1) * 2 := by
    rw [Nat.mul_assoc, ← Nat.pow_succ, show (j - 1).succ = j by omega]
  have a2 : c2 * 2 ^ i = c2 * 2 ^ (i - 1) * 2 := by
    rw [Nat.mul_assoc, ← Nat.pow_succ, show (i - 1).succ = i by omega]
  rw [show (1 : Int32) = nI 1 from rfl, lN_shr (by omega) (by decide), a1, Nat.pow_one, Nat.mul_div_cancel _ (by decide)] at hy3
  subst hy3
  refine wp_signif hf z2 i2 i3 (wp_expo hf z2 i2 i3 ?_)
  obtain ⟨pl, hpl⟩ : ∃ pl : Nat, q1 + 62 - (j : Int) - (q2 + 62 - (i : Int)) = (pl : Int) := ⟨(q1 + 62 - (j : Int) - (q2 + 62 - (i : Int))).toNat, by omega⟩
  rw [show (1 : Int32) = nI 1 from rfl, lN_shr (by omega) (by decide), a2, Nat.pow_one, Nat.mul_div_cancel _ (by decide), iZ_sub (by omega) (by omega), hpl, ← iZ_n (by omega)]
  refine wp_lowered (by omega) (by omega) (by omega) ?_
  -- the two in one measure
  have s1 : c1 * 2 ^ (j - 1) * 2 ^ pl * 2 ^ (q2 - f.qmin).toNat = c1 * 2 ^ (q1 - f.qmin).toNat * 2 ^ (i - 1) := by
    rw [Nat.mul_assoc, Nat.mul_assoc, Nat.mul_assoc, ← Nat.pow_add, ← Nat.pow_add, ← Nat.pow_add]
    congr 2
    omega
  have s2 : c2 * 2 ^ (i - 1) * 2 ^ (q2 - f.qmin).toNat = c2 * 2 ^ (q2 - f.qmin).toNat * 2 ^ (i - 1) := by ac_rfl
  have u1 : c1 * 2 ^ (q1 - f.qmin).toNat = c1 * 2 ^ (q1 - min q1 q2).toNat * 2 ^ (min q1 q2 - f.qmin).toNat := by
    rw [Nat.mul_assoc, ← Nat.pow_add]
    congr 2
    omega
  have u2 : c2 * 2 ^ (q2 - f.qmin).toNat = c2 * 2 ^ (q2 - min q1 q2).toNat * 2 ^ (min q1 q2 - f.qmin).toNat := by
    rw [Nat.mul_assoc, ← Nat.pow_add]
    congr 2
    omega
  have hGe : (c1 * 2 ^ (j - 1)) % 2 = 0 := by
    rw [show j - 1 = j - 2 + 1 by omega, Nat.pow_succ, ← Nat.mul_assoc]
    exact Nat.mul_mod_left _ _
  have hN0 : c2 * 2 ^ (i - 1) % 2 ^ pl ≠ 0 → 10 ≤ pl := by
    intro h
    rcases Nat.lt_or_ge pl 10 with c | c
    · exfalso
      apply h
      rw [show i - 1 = i - 1 - pl + pl by omega, Nat.pow_add, ← Nat.mul_assoc]
      exact Nat.mul_mod_left _ _
    · exact c
  have hle : c2 * 2 ^ (i - 1) ≤ c1 * 2 ^ (j - 1) * 2 ^ pl := by
    refine Nat.le_of_mul_le_mul_right ?_ (Nat.two_pow_pos (q2 - f.qmin).toNat)
    rw [s1, s2]
    exact Nat.mul_le_mul_right _ hv
  have hGb : 2305843009213693952 ≤ c1 * 2 ^ (j - 1) ∧ c1 * 2 ^ (j - 1) < 4611686018427387904 := by omega
  have hNb : 2305843009213693952 ≤ c2 * 2 ^ (i - 1) ∧ c2 * 2 ^ (i - 1) < 4611686018427387904 := by omega
  have he : (pl : Int) + min q1 q2 - (q1 + 62 - (j : Int) - 61) + (((q2 - f.qmin).toNat : Nat) : Int) = (((min q1 q2 - f.qmin).toNat : Nat) : Int) + ((i - 1 : Nat) : Int) := by omega
  rw [u1] at s1 hv
  rw [u2] at s2 hv
  have hu : c2 * 2 ^ (q2 - min q1 q2).toNat ≤ c1 * 2 ^ (q1 - min q1 q2).toNat := Nat.le_of_mul_le_mul_right hv (Nat.two_pow_pos _)
  have hc0 := z1.2.1
  have hP1 : 0 < 2 ^ (min q1 q2 - f.qmin).toNat * 2 ^ (i - 1) := Nat.mul_pos (Nat.two_pow_pos _) (Nat.two_pow_pos _)
  have hsum := sum_al (s := s) (c := c1) (d := c2) (q := q1) (r := q2) hc0
  have hdif : s ≠ t → _ := fun q => sum_df (s := s) (t := t) (c := c1) (d := c2) (q := q1) (r := q2) q hu
  have hL := stk_St (c2 * 2 ^ (i - 1)) pl
  have hLb : stk (c2 * 2 ^ (i - 1)) pl < 4611686018427387904 := by
    refine Nat.or_lt_two_pow (n := 62) ?_ (by split <;> decide)
    exact Nat.lt_of_le_of_lt (Nat.div_le_self _ _) hNb.2
  have hLs : 10 ≤ pl → stk (c2 * 2 ^ (i - 1)) pl < 4503599627370496 := by
    intro h
    refine Nat.or_lt_two_pow (n := 52) ?_ (by split <;> decide)
    refine (Nat.div_lt_iff_lt_mul (Nat.two_pow_pos _)).mpr ?_
    have h4 : 2 ^ 10 ≤ 2 ^ pl := Nat.pow_le_pow_right (by decide) h
    have := Nat.mul_le_mul_left (2 ^ 52) h4
    omega
  have hLx : c2 * 2 ^ (i - 1) % 2 ^ pl = 0 → c2 * 2 ^ (i - 1) = 2 ^ pl * stk (c2 * 2 ^ (i - 1)) pl := fun h => stk_ex h
  have hLo : c2 * 2 ^ (i - 1) % 2 ^ pl ≠ 0 → _ := fun h => stk_st (N := c2 * 2 ^ (i - 1)) (k := pl) h
  generalize c1 * 2 ^ (j - 1) = G at *
  generalize c2 * 2 ^ (i - 1) = N at *
  generalize c1 * 2 ^ (q1 - min q1 q2).toNat = U1 at *
  generalize c2 * 2 ^ (q2 - min q1 q2).toNat = U2 at *
  generalize stk N pl = L at *
  have hD : 0 < 2 ^ pl := Nat.two_pow_pos pl
  have dG : G * 2 ^ pl = 2 ^ pl * G := Nat.mul_comm _ _
  rcases h9 with ⟨hst, h9⟩ | ⟨hst, h9⟩
  · subst hst h9
    refine ⟨fun z => absurd z (by decide), fun _ => ?_⟩
    rw [lN_add]
    rw [hsum] at hK
    refine pl_fin (A := G * 2 ^ pl + N) (U := U1 + U2) (Q2 := (q2 - f.qmin).toNat) (dl := (min q1 q2 - f.qmin).toNat) (i := i) (pl := pl) (e := min q1 q2) hf hx1 (by omega) (by omega) (by omega) ?_ (Or.inr (by omega)) ?_ he hK
    · rcases hL with hL | ⟨o, l, r⟩
      · exact Or.inl (by rw [dG, hL, ← Nat.mul_add])
      · refine Or.inr ⟨by omega, ?_, ?_⟩
        · rw [show G + L - 1 = G + (L - 1) by omega, Nat.mul_add]
          omega
        · rw [show G + L + 1 = G + (L + 1) by omega, Nat.mul_add]
          omega
    · rw [Nat.add_mul, s1, s2, Nat.add_mul, Nat.add_mul]
  · subst h9
    refine ⟨fun _ => ?_, fun z => absurd rfl z⟩
    rw [hdif hst] at hK
    have hLG : L ≤ G := by
      rcases hL with hL | ⟨o, l, r⟩
      · refine Nat.le_of_mul_le_mul_left ?_ hD
        omega
      · have : L - 1 < G := by
          refine Nat.lt_of_mul_lt_mul_left (a := 2 ^ pl) ?_
          omega
        omega
    rw [lN_sub hLG]
    have hU : (G * 2 ^ pl - N) * 2 ^ (q2 - f.qmin).toNat = (U1 - U2) * 2 ^ (min q1 q2 - f.qmin).toNat * 2 ^ (i - 1) := by
      rw [Nat.sub_mul, s1, s2, Nat.sub_mul, Nat.sub_mul]
    by_cases z : G - L = 0
    · have hA : G * 2 ^ pl - N = 0 := by
        rcases hL with hL | ⟨o, l, r⟩
        · rw [hL, dG, show G = L by omega]
          omega
        · omega
      rw [hA, Nat.zero_mul, Nat.mul_assoc] at hU
      have hU0 : U1 - U2 = 0 := by
        rcases Nat.mul_eq_zero.mp hU.symm with q | q
        · exact q
        · omega
      rw [hU0, if_pos rfl] at hK
      rw [z]
      unfold jn_X7_plusLesser_155
      refine rb_t ((lg_cmp_eq _ _).mpr rfl) ?_
      rw [rnd_0, enc_z] at hK
      unfold sg at hK
      rw [show Bool.toNat false = 0 from rfl, Nat.zero_mul] at hK
      exact hK
    · have hSt : St (G * 2 ^ pl - N) (2 ^ pl) (G - L) := by
        rcases hL with hL | ⟨o, l, r⟩
        · exact Or.inl (by rw [dG, hL, ← Nat.mul_sub])
        · refine Or.inr ⟨by omega, ?_, ?_⟩
          · have e5 : 2 ^ pl * (L + 1) ≤ 2 ^ pl * G := Nat.mul_le_mul_left _ (by omega)
            rw [show G - L - 1 = G - (L + 1) by omega, Nat.mul_sub]
            omega
          · rw [show G - L + 1 = G - (L - 1) by omega, Nat.mul_sub]
            omega
      have hA : G * 2 ^ pl - N ≠ 0 := by
        intro q
        rcases hSt with h | ⟨o, l, r⟩
        · rw [q] at h
          rcases Nat.mul_eq_zero.mp h.symm with q2 | q2
          · omega
          · omega
        · omega
      have hU0 : ¬ U1 - U2 = 0 := by
        intro q
        rw [q, Nat.zero_mul, Nat.zero_mul] at hU
        rcases Nat.mul_eq_zero.mp hU with w | w
        · exact hA w
        · have := Nat.two_pow_pos (q2 - f.qmin).toNat
          omega
      rw [if_neg hU0] at hK
      refine pl_fin (A := G * 2 ^ pl - N) (U := U1 - U2) (Q2 := (q2 - f.qmin).toNat) (dl := (min q1 q2 - f.qmin).toNat) (i := i) (pl := pl) (e := min q1 q2) hf hx1 (by omega) (by omega) (by omega) hSt ?_ hU he hK
      by_cases x : N % 2 ^ pl = 0
      · exact Or.inl (by rw [dG, hLx x, ← Nat.mul_sub])
      · have := hLs (hN0 x)
        exact Or.inr (by omega)
theorem wp_plus_ {f : FP.Core.Fmt} {s t : Bool} {m n : Nat} {d e : FP.Core.Datum} {K : Int64 → Prop} (hf : Fk f) (hm : m < 2 ^ sb f) (hn : n < 2 ^ sb f) (cx : Cl f s m d) (cy : Cl f t n e) (hmn : n ≤ m) (hK : K (lN (FP.Core.encode f (FP.Core.round f (FP.Core.exactSum d e))))) : wp_X7_plusLesser (lN (sg s (sb f) + m)) (lN (sg t (sb f) + n)) (lN m) (lN n) (nI (f.p - 1)) (nI f.emax) (nI (f.exps - 1)) (lN (2 ^ sb f)) (lN ((f.exps - 1) * f.tails)) (lN (FP.Core.encode f .nan)) K := by
  have hmag := hf.mag
  have hi := hf.inf
  have hi0 := hf.pos
  have hT0 := FP.Core.tails_pos f
  have kn : (d = .nan ∨ e = .nan) → K (lN (FP.Core.encode f .nan)) := by
    intro h
    rcases h with h | h
    · rw [h] at hK
      exact hK
    · rw [h] at hK
      cases d <;> exact hK
  have hx1 : lN (sg s (sb f) + m) &&& lN (2 ^ sb f) = lN (sg s (sb f)) := by rw [lN_and, sg_and hm]
  have j60 : ∀ x9 : Int32, ((s = t ∧ x9 = 1) ∨ (s ≠ t ∧ x9 = 0)) → ¬ (f.exps - 1) * f.tails < m → (m = (f.exps - 1) * f.tails → n = (f.exps - 1) * f.tails → s = t) → jn_X7_plusLesser_60 (lN (sg s (sb f) + m)) (lN (sg t (sb f) + n)) (lN m) (lN n) (nI (f.p - 1)) (nI f.emax) (nI (f.exps - 1)) (lN (2 ^ sb f)) (lN ((f.exps - 1) * f.tails)) (lN (FP.Core.encode f .nan)) K x9 := by
    intro x9 h9 r1 r2
    unfold jn_X7_plusLesser_60
    rw [show (0 : Int64) = lN 0 from rfl, c_eq (a := n) (b := 0) (by omega) (by decide), c_eq (a := m) (b := (f.exps - 1) * f.tails) (by omega) (by omega), c_eq (a := m) (b := 0) (by omega) (by decide)]
    refine ⟨fun r3 => ⟨fun r4 => ?_, fun r4 => ?_⟩, fun r3 => ⟨fun r4 => ?_, fun r4 => ⟨fun r5 => ?_, fun r5 => ?_⟩⟩⟩
    · obtain ⟨c1, q1, z1, e1⟩ := cx.fin (by omega) (by omega) r4
      obtain ⟨c2, q2, z2, e2⟩ := cy.fin r3 (by omega) (by omega)
      rw [e1, e2] at hK
      exact wp_plusF hf hx1 z1 z2 hmn h9 hK
    · rw [cx.inf hf r4] at hK
      have key : FP.Core.exactSum (.inf s) e = .inf s := by
        by_cases r5 : n = (f.exps - 1) * f.tails
        · rw [cy.inf hf r5, ← r2 r4 r5]
          show (if s = s then FP.Core.Datum.inf s else .nan) = _
          rw [if_pos rfl]
        · obtain ⟨c2, q2, z2, e2⟩ := cy.fin r3 (by omega) r5
          rw [e2]
          rfl
      rw [key] at hK
      rw [r4, ← enc_inf]
      exact hK
    · rw [cy.zero hf r3] at hK
      by_cases r5 : m = (f.exps - 1) * f.tails
      · rw [cx.inf hf r5] at hK
        rw [r5, ← enc_inf]
        exact hK
      · obtain ⟨c1, q1, z1, e1⟩ := cx.fin r4 (by omega) r5
        rw [e1] at hK
        have hq1 : f.qmin ≤ q1 := (z1.fits hf s).2.1
        have hz := z1.2.1
        have key : FP.Core.round f (FP.Core.exactSum (.fin s c1 q1) (.fin t 0 f.qmin)) = .fin s c1 q1 := by
          have h1 : FP.Core.exactSum (.fin s c1 q1) (.fin t 0 f.qmin) = .fin s (c1 * 2 ^ (q1 - min q1 f.qmin).toNat) (min q1 f.qmin) := by
            have hP := Nat.mul_pos hz (Nat.two_pow_pos (q1 - min q1 f.qmin).toNat)
            by_cases hst : s = t
            · subst hst
              rw [sum_al hz, Nat.zero_mul, Nat.add_zero]
            · rw [sum_df hst (by rw [Nat.zero_mul]; exact Nat.zero_le _), Nat.zero_mul, Nat.sub_zero, if_neg (by omega)]
          rw [h1]
          show FP.Core.roundRatio f s _ 1 _ = _
          rw [FP.Core.roundRatio_congr (A' := c1) (B' := 1) (e' := q1) (by decide) (by decide) (by
            rw [Nat.mul_one, Nat.mul_one, Nat.mul_assoc, ← Nat.pow_add]
            congr 2
            omega)]
          exact FP.Core.round_of_fits hf.1 (z1.fits hf s)
        rw [key, z1.enc] at hK
        exact hK
    · rw [cx.zero hf r4, cy.zero hf r3] at hK
      rcases h9 with h9 | h9
      · have key : FP.Core.round f (FP.Core.exactSum (.fin s 0 f.qmin) (.fin t 0 f.qmin)) = .fin s 0 f.qmin := by
          rw [← h9.1]
          unfold FP.Core.exactSum FP.Core.sumUnits FP.Core.inUnits FP.Core.sumSign FP.Core.signed
          dsimp only
          rw [Nat.zero_mul]
          cases s <;> exact rnd_0 f _ _
        rw [key, enc_z] at hK
        rw [r4]
        exact hK
      · exact absurd h9.2 r5
    · rw [cx.zero hf r4, cy.zero hf r3] at hK
      rcases h9 with h9 | h9
      · rw [h9.2] at r5
        exact absurd r5 (by decide)
      · rw [sum_df h9.1 (by rw [Nat.zero_mul]; exact Nat.zero_le _), Nat.zero_mul, if_pos (by omega), Nat.zero_sub, rnd_0, enc_z] at hK
        unfold sg at hK
        rw [show Bool.toNat false = 0 from rfl, Nat.zero_mul] at hK
        exact hK
  have j18 : ∀ x9 : Int32, ((s = t ∧ x9 = 1) ∨ (s ≠ t ∧ x9 = 0)) → jn_X7_plusLesser_18 (lN (sg s (sb f) + m)) (lN (sg t (sb f) + n)) (lN m) (lN n) (nI (f.p - 1)) (nI f.emax) (nI (f.exps - 1)) (lN (2 ^ sb f)) (lN ((f.exps - 1) * f.tails)) (lN (FP.Core.encode f .nan)) K x9 := by
    intro x9 h9
    unfold jn_X7_plusLesser_18 jn_X7_plusLesser_55
    rw [c_gt (a := m) (by omega) (by omega), c_eq (a := m) (b := (f.exps - 1) * f.tails) (by omega) (by omega), c_eq (a := n) (b := (f.exps - 1) * f.tails) (by omega) (by omega)]
    refine ⟨fun r => kn (Or.inl (cx.nan r)), fun r => ⟨fun r2 => j60 x9 h9 r (fun q => absurd q r2), fun r2 => ⟨fun r3 => j60 x9 h9 r (fun _ q => absurd q r3), fun r3 => ⟨fun r4 => ?_, fun r4 => ?_⟩⟩⟩⟩
    · rcases h9 with h9 | h9
      · exact j60 x9 (Or.inl h9) r (fun _ _ => h9.1)
      · exact absurd h9.2 r4
    · rcases h9 with h9 | h9
      · rw [h9.2] at r4
        exact absurd r4 (by decide)
      · rw [cx.inf hf r2, cy.inf hf r3] at hK
        have key : FP.Core.exactSum (.inf s) (.inf t) = .nan := by
          show (if s = t then FP.Core.Datum.inf s else .nan) = _
          rw [if_neg h9.1]
        rw [key] at hK
        exact hK
  unfold wp_X7_plusLesser
  rw [lN_xor, lN_and, sg_xor hm hn, show (0 : Int64) = lN 0 from rfl, c_eq (by have := sg_le (s != t) (sb f); omega) (by decide)]
  have hP := Nat.two_pow_pos (sb f)
  refine ⟨fun r => j18 0 (Or.inr ⟨fun q => ?_, rfl⟩), fun r => j18 1 (Or.inl ⟨?_, rfl⟩)⟩
  · apply r
    subst q
    unfold sg
    rw [show (s != s) = false from by cases s <;> rfl, show Bool.toNat false = 0 from rfl, Nat.zero_mul]
  · unfold sg at r
    cases s <;> cases t
    · rfl
    · rw [show (false != true) = true from rfl, show Bool.toNat true = 1 from rfl, Nat.one_mul] at r
      omega
    · rw [show (true != false) = true from rfl, show Bool.toNat true = 1 from rfl, Nat.one_mul] at r
      omega
    · rfl
theorem wp_plus {f : FP.Core.Fmt} {x y : Int64} {d e : FP.Core.Datum} {K : Int64 → Prop} (hf : Fk f) (hx : Pn f x d) (hy : Pn f y e) (hK : K (lN (FP.Core.encode f (FP.Core.round f (FP.Core.exactSum d e))))) : wp_X7_plus x y (nI (f.p - 1)) (nI f.emax) (nI (f.exps - 1)) (lN (2 ^ sb f)) (lN ((f.exps - 1) * f.tails)) (lN (FP.Core.encode f .nan)) K := by
  obtain ⟨s, m, hm, ex, cx⟩ := hx
  obtain ⟨t, n, hn, ey, cy⟩ := hy
  subst ex ey
  have hmag := hf.mag
  unfold wp_X7_plus
  refine wp_mag hm (wp_mag hn ?_)
  rw [c_ge (a := m) (by omega) (by omega)]
  refine ⟨fun r => wp_plus_ hf hm hn cx cy r hK, fun r => ?_⟩
  rw [FP.Core.exactSum_comm] at hK
  exact wp_plus_ hf hn hm cy cx (by omega) hK
