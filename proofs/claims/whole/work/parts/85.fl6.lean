/-! floats: times -/
theorem Cl.nan {f : FP.Core.Fmt} {s : Bool} {m : Nat} {d : FP.Core.Datum} (h : Cl f s m d) (q : (f.exps - 1) * f.tails < m) : d = .nan := by
  rcases h with h | h | h | ⟨c, q2, h1, h2, h3⟩
  · exact h.2
  · exact absurd q (by omega)
  · exact absurd q (by omega)
  · exact absurd q (by have := h1.1; omega)
theorem Fk.pos {f : FP.Core.Fmt} (h : Fk f) : 0 < (f.exps - 1) * f.tails := by
  have hex := FP.Core.emax_exps h.1
  exact Nat.mul_pos (by omega) (FP.Core.tails_pos f)
theorem Cl.inf {f : FP.Core.Fmt} {s : Bool} {m : Nat} {d : FP.Core.Datum} (hf : Fk f) (h : Cl f s m d) (q : m = (f.exps - 1) * f.tails) : d = .inf s := by
  have hp := hf.pos
  rcases h with h | h | h | ⟨c, q2, h1, h2, h3⟩
  · exact absurd h.1 (by omega)
  · exact h.2
  · exact absurd h.1 (by omega)
  · exact absurd q (by have := h1.1; omega)
theorem Cl.zero {f : FP.Core.Fmt} {s : Bool} {m : Nat} {d : FP.Core.Datum} (hf : Fk f) (h : Cl f s m d) (q : m = 0) : d = .fin s 0 f.qmin := by
  have hp := hf.pos
  rcases h with h | h | h | ⟨c, q2, h1, h2, h3⟩
  · exact absurd h.1 (by omega)
  · exact absurd h.1 (by omega)
  · exact h.2
  · exact absurd q (by omega)
theorem Cl.fin {f : FP.Core.Fmt} {s : Bool} {m : Nat} {d : FP.Core.Datum} (h : Cl f s m d) (q : m ≠ 0) (q2 : m ≤ (f.exps - 1) * f.tails) (q3 : m ≠ (f.exps - 1) * f.tails) : ∃ c q, Nz f m c q ∧ d = .fin s c q := by
  rcases h with h | h | h | ⟨c, q2, h1, h2, h3⟩
  · exact absurd h.1 (by omega)
  · exact absurd h.1 q3
  · exact absurd h.1 q
  · exact ⟨c, q2, h1, h3⟩
theorem enc_inf (f : FP.Core.Fmt) (s : Bool) : FP.Core.encode f (.inf s) = sg s (sb f) + (f.exps - 1) * f.tails := by
  unfold FP.Core.encode
  dsimp only
  rw [asm_e, Nat.add_zero]
theorem enc_z {f : FP.Core.Fmt} (s : Bool) : FP.Core.encode f (.fin s 0 f.qmin) = sg s (sb f) := by
  unfold FP.Core.encode
  dsimp only
  rw [if_pos (FP.Core.tails_pos f), asm_e, Nat.zero_mul, Nat.add_zero]
theorem rnd_0 (f : FP.Core.Fmt) (s : Bool) (q : Int) : FP.Core.round f (.fin s 0 q) = .fin s 0 f.qmin := by
  unfold FP.Core.round FP.Core.roundRatio
  dsimp only
  rw [if_pos rfl]
theorem wp_mag {f : FP.Core.Fmt} {s : Bool} {m : Nat} {K : Int64 → Prop} (hm : m < 2 ^ sb f) (h : K (lN m)) : wp_X7_magnitude (lN (sg s (sb f) + m)) (lN (2 ^ sb f)) K := by
  unfold wp_X7_magnitude
  rw [lN_m1, lN_mask, sg_mag hm]
  exact h
theorem sg_inf {f : FP.Core.Fmt} (hf : Fk f) (s : Bool) : lN (sg s (sb f)) ||| lN ((f.exps - 1) * f.tails) = lN (FP.Core.encode f (.inf s)) := by
  have hi := hf.inf
  have hT0 := FP.Core.tails_pos f
  rw [lN_or, sg_or (by omega), enc_inf]
theorem wp_times {f : FP.Core.Fmt} {x y : Int64} {d e : FP.Core.Datum} {K : Int64 → Prop} (hf : Fk f) (hx : Pn f x d) (hy : Pn f y e) (hK : K (lN (FP.Core.encode f (FP.Core.round f (FP.Core.exactProduct d e))))) : wp_X7_times x y (nI (f.p - 1)) (nI f.emax) (nI (f.exps - 1)) (lN (2 ^ sb f)) (lN ((f.exps - 1) * f.tails)) (lN (FP.Core.encode f .nan)) K := by
  obtain ⟨s, m, hm, ex, cx⟩ := hx
  obtain ⟨t, n, hn, ey, cy⟩ := hy
  subst ex ey
  have hmag := hf.mag
  have hi := hf.inf
  have hi0 := hf.pos
  have hT0 := FP.Core.tails_pos f
  unfold wp_X7_times
  intro y1 q1
  rw [lN_xor, lN_and, sg_xor hm hn] at q1
  subst q1
  refine wp_mag hm (wp_mag hn ?_)
  unfold jn_X7_times_69 jn_X7_times_83 jn_X7_times_44
  rw [show (0 : Int64) = lN 0 from rfl, c_gt (a := m) (by omega) (by omega), c_le (a := n) (by omega) (by omega), c_eq (a := m) (b := (f.exps - 1) * f.tails) (by omega) (by omega), c_eq (a := n) (b := (f.exps - 1) * f.tails) (by omega) (by omega), c_eq (a := m) (b := 0) (by omega) (by omega), c_eq (a := n) (b := 0) (by omega) (by omega), sg_inf hf]
  have kn : (d = .nan ∨ e = .nan) → K (lN (FP.Core.encode f .nan)) := by
    intro h
    rcases h with h | h
    · rw [h] at hK
      exact hK
    · rw [h] at hK
      cases d <;> exact hK
  refine ⟨fun r => kn (Or.inl (cx.nan r)), fun r => ⟨fun r2 => ?_, fun r2 => kn (Or.inr (cy.nan (by omega)))⟩⟩
  refine ⟨fun r3 => ⟨fun r4 => absurd r4 (by omega), fun r4 => ⟨fun r5 => ?_, fun r5 => ?_⟩⟩, fun r3 => ⟨fun r4 => ⟨fun r5 => ?_, fun r5 => ⟨fun r6 => ?_, fun r6 => ?_⟩⟩, fun r4 => ⟨fun r5 => ?_, fun r5 => ⟨fun r6 => ?_, fun r6 => absurd r6 (by omega)⟩⟩⟩⟩
  · rw [cx.inf hf r3] at hK
    by_cases r6 : n = (f.exps - 1) * f.tails
    · rw [cy.inf hf r6] at hK
      exact hK
    · obtain ⟨c, q, hz, he⟩ := cy.fin r5 r2 r6
      rw [he] at hK
      unfold FP.Core.exactProduct at hK
      dsimp only at hK
      rw [if_neg (by have := hz.2.1; omega)] at hK
      exact hK
  · rw [cx.inf hf r3, cy.zero hf r5] at hK
    exact hK
  · rw [cx.zero hf r5] at hK
    have key : ∃ q, FP.Core.exactProduct (.fin s 0 f.qmin) e = .fin (s != t) 0 q := by
      by_cases r6 : n = 0
      · rw [cy.zero hf r6]
        exact ⟨_, rfl⟩
      · obtain ⟨c, q, hz, he⟩ := cy.fin r6 r2 r4
        rw [he]
        unfold FP.Core.exactProduct
        dsimp only
        rw [Nat.zero_mul]
        exact ⟨_, rfl⟩
    obtain ⟨q, hq⟩ := key
    rw [hq, rnd_0, enc_z] at hK
    exact hK
  · obtain ⟨c1, q1, z1, e1⟩ := cx.fin r5 (by omega) r3
    obtain ⟨c2, q2, z2, e2⟩ := cy.fin r6 r2 r4
    rw [e1, e2] at hK
    obtain ⟨j, j0, j1, j2, j3, j4, j5⟩ := z1.up hf
    obtain ⟨i, i0, i1, i2, i3, i4, i5⟩ := z2.up hf
    have hp53 := hf.2.1
    have hpp := hf.1.2
    have a1 : c1 * 2 ^ j = c1 * 2 ^ (j - 10) * 1024 := by
      rw [Nat.mul_assoc, show (1024 : Nat) = 2 ^ 10 from rfl, ← Nat.pow_add, show j - 10 + 10 = j by omega]
    have a2 : c2 * 2 ^ i = c2 * 2 ^ (i - 10) * 1024 := by
      rw [Nat.mul_assoc, show (1024 : Nat) = 2 ^ 10 from rfl, ← Nat.pow_add, show i - 10 + 10 = i by omega]
    refine wp_signif hf z1 j2 j3 (wp_signif hf z2 i2 i3 ?_)
    rw [show (10 : Int32) = nI 10 from rfl, lN_shr (by omega) (by decide), lN_shr (by omega) (by decide), show (2 : Nat) ^ 10 = 1024 from rfl, a1, a2, Nat.mul_div_cancel _ (by decide), Nat.mul_div_cancel _ (by decide)]
    have b1 : 4503599627370496 ≤ c1 * 2 ^ (j - 10) ∧ c1 * 2 ^ (j - 10) < 9007199254740992 := by omega
    have b2 : 4503599627370496 ≤ c2 * 2 ^ (i - 10) ∧ c2 * 2 ^ (i - 10) < 9007199254740992 := by omega
    have hpq : c1 * 2 ^ (j - 10) * (c2 * 2 ^ (i - 10)) = c1 * c2 * 2 ^ (j - 10 + (i - 10)) := by
      rw [Nat.pow_add]
      ac_rfl
    generalize c1 * 2 ^ (j - 10) = p at *
    generalize c2 * 2 ^ (i - 10) = q at *
    have g1 := Nat.mul_le_mul b1.1 b2.1
    have g2 := Nat.mul_le_mul (show p ≤ 9007199254740991 by omega) (show q ≤ 9007199254740991 by omega)
    refine wp_highProduct b1.2 b2.2 ?_
    have hs := stk_St (p * q) 43
    have l1 : 2305843009213693952 ≤ stk (p * q) 43 := by
      refine Nat.le_trans ?_ Nat.left_le_or
      refine (Nat.le_div_iff_mul_le (Nat.two_pow_pos _)).mpr ?_
      exact Nat.le_trans (by decide) g1
    have l2 : stk (p * q) 43 < 9223372036854775808 := by
      refine Nat.or_lt_two_pow (n := 63) ?_ (by split <;> decide)
      exact (Nat.div_lt_iff_lt_mul (Nat.two_pow_pos _)).mpr (Nat.lt_of_le_of_lt g2 (by decide))
    generalize stk (p * q) 43 = H at hs l1 l2 ⊢
    refine wp_gapOf (by omega) l2 (fun g h1 h2 h3 => ?_)
    have hg : g ≤ 1 := by
      rcases Nat.lt_or_ge g 2 with c | c
      · omega
      · have h4 : 2 ^ 2 ≤ 2 ^ g := Nat.pow_le_pow_right (by decide) c
        have := Nat.mul_le_mul_left H h4
        omega
    refine wp_expo hf z1 j2 j3 (wp_expo hf z2 i2 i3 ?_)
    rw [show (1 : Int32) = iZ 1 from rfl, iZ_add (by omega) (by omega), iZ_add (by omega) (by omega), iZ_n (n := g) (by omega), iZ_sub (by omega) (by omega), ← iZ_n (n := g) (by omega), lN_shl (by omega)]
    refine wp_rounded hf.1 (by omega) (by have := hf.2.2.1; omega) (by omega) hf.2.2.2 h3 ?_
    rw [← rnd_st (A := p * q) (B := 2 ^ 43) hf.1 hp53 (Nat.two_pow_pos _) (by omega) h2 h3 hs]
    have er : FP.Core.roundRatio f (s != t) (c1 * c2) 1 (q1 + q2) = FP.Core.roundRatio f (s != t) (p * q * 2 ^ g) (2 ^ 43) (q1 + 62 - (j : Int) + (q2 + 62 - (i : Int)) + 1 - (g : Int) - 62) := by
      refine FP.Core.roundRatio_congr (by decide) (Nat.two_pow_pos _) ?_
      rw [hpq, Nat.mul_one, Nat.mul_assoc, ← Nat.pow_add, Nat.mul_assoc (c1 * c2), Nat.mul_assoc (c1 * c2), ← Nat.pow_add, ← Nat.pow_add]
      congr 2
      omega
    rw [← er]
    exact hK
  · rw [cy.zero hf r6] at hK
    obtain ⟨c, q, hz, he⟩ := cx.fin r5 (by omega) r3
    rw [he] at hK
    unfold FP.Core.exactProduct at hK
    dsimp only at hK
    rw [Nat.mul_zero, rnd_0, enc_z] at hK
    exact hK
  · rw [cx.zero hf r5, cy.inf hf r4] at hK
    exact hK
  · rw [cy.inf hf r4] at hK
    obtain ⟨c, q, hz, he⟩ := cx.fin r5 (by omega) r3
    rw [he] at hK
    unfold FP.Core.exactProduct at hK
    dsimp only at hK
    rw [if_neg (by have := hz.2.1; omega)] at hK
    exact hK
