/-! floats: exponent and significand -/
/-- a size that is neither 0 nor infinite -/
def Nz (f : FP.Core.Fmt) (m c : Nat) (q : Int) : Prop := m < (f.exps - 1) * f.tails ∧ 0 < c ∧ ((m / f.tails = 0 ∧ c = m ∧ q = f.qmin) ∨ (m / f.tails ≠ 0 ∧ c = f.tails + m % f.tails ∧ q = f.qmin + ((m / f.tails : Nat) : Int) - 1))
theorem pw_uniq {c a b : Nat} (a1 : 4611686018427387904 ≤ c * 2 ^ a) (a2 : c * 2 ^ a < 9223372036854775808) (b1 : 4611686018427387904 ≤ c * 2 ^ b) (b2 : c * 2 ^ b < 9223372036854775808) : a = b := by
  have key : ∀ x y : Nat, x < y → 4611686018427387904 ≤ c * 2 ^ x → c * 2 ^ y < 9223372036854775808 → False := by
    intro x y h h1 h2
    have h3 : 2 ^ (x + 1) ≤ 2 ^ y := Nat.pow_le_pow_right (by decide) h
    have h4 := Nat.mul_le_mul_left c h3
    rw [Nat.pow_succ, ← Nat.mul_assoc] at h4
    omega
  rcases Nat.lt_trichotomy a b with h | h | h
  · exact (key a b h a1 b2).elim
  · exact h
  · exact (key b a h b1 a2).elim
def Fk (f : FP.Core.Fmt) : Prop := FP.Core.Good f ∧ f.p ≤ 53 ∧ sb f ≤ 63 ∧ f.emax ≤ 1023
theorem Fk.mag {f : FP.Core.Fmt} (h : Fk f) : 2 ^ sb f ≤ 9223372036854775808 := Nat.le_trans (Nat.pow_le_pow_right (n := 2) (j := 63) (by decide) h.2.2.1) (by decide)
theorem Fk.inf {f : FP.Core.Fmt} (h : Fk f) : (f.exps - 1) * f.tails + f.tails = 2 ^ sb f := by
  have hex := FP.Core.emax_exps h.1
  rw [sb_e, ← Nat.succ_mul, Nat.succ_eq_add_one, Nat.sub_add_cancel (by omega)]
theorem wp_signif {f : FP.Core.Fmt} {m c j : Nat} {q : Int} {K : Int64 → Prop} (hf : Fk f) (h : Nz f m c q) (j1 : 4611686018427387904 ≤ c * 2 ^ j) (j2 : c * 2 ^ j < 9223372036854775808) (hK : K (lN (c * 2 ^ j))) : wp_X7_significandOf (lN m) (nI (f.p - 1)) K := by
  have hm := hf.mag
  have hi := hf.inf
  obtain ⟨hg, hp, -, -⟩ := hf
  obtain ⟨h1, h2, h3⟩ := h
  have hpp := hg.2
  have hT : f.tails = 2 ^ (f.p - 1) := rfl
  have hT0 := FP.Core.tails_pos f
  have pd : f.tails * 2 ^ (62 - (f.p - 1)) = 4611686018427387904 := by
    rw [hT, ← Nat.pow_add, show f.p - 1 + (62 - (f.p - 1)) = 62 by omega]
  unfold wp_X7_significandOf
  intro y1 q1
  rw [lN_b1 (by omega), lN_m1, lN_mask, ← hT] at q1
  subst q1
  rw [lN_shr (by omega) (by omega), ← hT, show (0 : Int64) = lN 0 from rfl, c_eq (by have := Nat.div_le_self m f.tails; omega) (by decide)]
  have hlt := Nat.mod_lt m hT0
  refine ⟨fun r => ?_, fun r => ?_⟩
  · intro y2 q2
    rw [show (62 : Int32) = nI 62 from rfl, pk_sub (show f.p - 1 ≤ 62 by omega), lN_shl (by omega)] at q2
    subst q2
    have h4 : c = m := by
      rcases h3 with h3 | h3
      · exact h3.2.1
      · exact absurd r h3.1
    have e1 : m % f.tails = m := by
      have := Nat.div_add_mod m f.tails
      rw [r, Nat.mul_zero] at this
      omega
    rw [e1, ← h4]
    have h5 : c * 2 ^ (62 - (f.p - 1)) < 9223372036854775808 := by
      have := Nat.mul_le_mul_right (2 ^ (62 - (f.p - 1))) (show c ≤ f.tails by omega)
      omega
    refine wp_gapOf (Nat.mul_pos h2 (Nat.two_pow_pos _)) h5 (fun g g1 g2 g3 => ?_)
    rw [lN_shl (by omega), Nat.mul_assoc, ← Nat.pow_add]
    rw [Nat.mul_assoc, ← Nat.pow_add] at g2 g3
    rw [pw_uniq g2 g3 j1 j2]
    exact hK
  · have h4 : c = f.tails + m % f.tails := by
      rcases h3 with h3 | h3
      · exact absurd h3.1 r
      · exact h3.2.1
    rw [lN_b1 (by omega), show (62 : Int32) = nI 62 from rfl, pk_sub (show f.p - 1 ≤ 62 by omega), lN_or, Nat.or_comm, ← hT, show f.tails ||| m % f.tails = f.tails + m % f.tails from by
      have := or_add (a := 1) (k := f.p - 1) (b := m % f.tails) hlt
      rw [Nat.one_mul, ← hT] at this
      exact this, ← h4, lN_shl (by omega)]
    have g2 : 4611686018427387904 ≤ c * 2 ^ (62 - (f.p - 1)) := by
      have := Nat.mul_le_mul_right (2 ^ (62 - (f.p - 1))) (show f.tails ≤ c by omega)
      omega
    have g3 : c * 2 ^ (62 - (f.p - 1)) < 9223372036854775808 := by
      have h6 := Nat.mul_lt_mul_of_pos_right (show c < 2 * f.tails by omega) (Nat.two_pow_pos (62 - (f.p - 1)))
      rw [Nat.mul_assoc, pd] at h6
      omega
    rw [pw_uniq g2 g3 j1 j2]
    exact hK
theorem wp_expo {f : FP.Core.Fmt} {m c j : Nat} {q : Int} {K : Int32 → Prop} (hf : Fk f) (h : Nz f m c q) (j1 : 4611686018427387904 ≤ c * 2 ^ j) (j2 : c * 2 ^ j < 9223372036854775808) (hK : K (iZ (q + 62 - (j : Int)))) : wp_X7_exponentOf (lN m) (nI (f.p - 1)) (nI f.emax) K := by
  have hm := hf.mag
  have hi := hf.inf
  obtain ⟨hg, hp, -, hem⟩ := hf
  obtain ⟨h1, h2, h3⟩ := h
  have hpp := hg.2
  have hex := FP.Core.emax_exps hg
  have hqm : f.qmin = 2 - (f.emax : Int) - (f.p : Int) := rfl
  have hT : f.tails = 2 ^ (f.p - 1) := rfl
  have hT0 := FP.Core.tails_pos f
  have pd : f.tails * 2 ^ (62 - (f.p - 1)) = 4611686018427387904 := by
    rw [hT, ← Nat.pow_add, show f.p - 1 + (62 - (f.p - 1)) = 62 by omega]
  have hdv : m / f.tails < f.exps - 1 := Nat.div_lt_of_lt_mul (by rw [Nat.mul_comm]; exact h1)
  unfold wp_X7_exponentOf
  intro y1 q1
  rw [lN_shr (by omega) (by omega), ← hT, lN_i] at q1
  subst q1
  have hlt := Nat.mod_lt m hT0
  rw [show (0 : Int32) = nI 0 from rfl, nI_eq (by omega) (by decide)]
  refine ⟨fun r => ?_, fun r => ?_⟩
  · obtain ⟨h4, h6⟩ : c = m ∧ q = f.qmin := by
      rcases h3 with h3 | h3
      · exact h3.2
      · exact absurd r h3.1
    have e1 : m % f.tails = m := by
      have := Nat.div_add_mod m f.tails
      rw [r, Nat.mul_zero] at this
      omega
    rw [show (62 : Int32) = nI 62 from rfl, pk_sub (show f.p - 1 ≤ 62 by omega), lN_shl (by omega), ← h4]
    have h5 : c * 2 ^ (62 - (f.p - 1)) < 9223372036854775808 := by
      have := Nat.mul_le_mul_right (2 ^ (62 - (f.p - 1))) (show c ≤ f.tails by omega)
      omega
    refine wp_gapOf (Nat.mul_pos h2 (Nat.two_pow_pos _)) h5 (fun g g1 g2 g3 => ?_)
    rw [Nat.mul_assoc, ← Nat.pow_add] at g2 g3
    have h7 := pw_uniq g2 g3 j1 j2
    rw [show (1 : Int32) = iZ 1 from rfl, iZ_n (by omega), iZ_n (n := g) (by omega), iZ_sub (by omega) (by omega), iZ_sub (by omega) (by omega)]
    rw [show (1 : Int) - (f.emax : Int) - (g : Int) = q + 62 - (j : Int) by omega]
    exact hK
  · obtain ⟨h4, h6⟩ : c = f.tails + m % f.tails ∧ q = f.qmin + ((m / f.tails : Nat) : Int) - 1 := by
      rcases h3 with h3 | h3
      · exact absurd h3.1 r
      · exact h3.2
    have g2 : 4611686018427387904 ≤ c * 2 ^ (62 - (f.p - 1)) := by
      have := Nat.mul_le_mul_right (2 ^ (62 - (f.p - 1))) (show f.tails ≤ c by omega)
      omega
    have g3 : c * 2 ^ (62 - (f.p - 1)) < 9223372036854775808 := by
      have h6 := Nat.mul_lt_mul_of_pos_right (show c < 2 * f.tails by omega) (Nat.two_pow_pos (62 - (f.p - 1)))
      rw [Nat.mul_assoc, pd] at h6
      omega
    have h7 := pw_uniq g2 g3 j1 j2
    have hnn : 0 ≤ ((m / f.tails : Nat) : Int) := Int.natCast_nonneg _
    rw [iZ_n (n := m / f.tails) (by omega), iZ_n (n := f.emax) (by omega), iZ_sub (by omega) (by omega)]
    rw [show ((m / f.tails : Nat) : Int) - (f.emax : Int) = q + 62 - (j : Int) by omega]
    exact hK
/-- there is such an exponent -/
theorem Nz.up {f : FP.Core.Fmt} {m c : Nat} {q : Int} (hf : Fk f) (h : Nz f m c q) : ∃ j : Nat, j ≤ 62 ∧ 62 - (f.p - 1) ≤ j ∧ 4611686018427387904 ≤ c * 2 ^ j ∧ c * 2 ^ j < 9223372036854775808 ∧ -3000 ≤ q ∧ q ≤ 3000 := by
  have hi := hf.inf
  obtain ⟨hg, hp, -, hem⟩ := hf
  obtain ⟨h1, h2, h3⟩ := h
  have hpp := hg.2
  have hex := FP.Core.emax_exps hg
  have hqm : f.qmin = 2 - (f.emax : Int) - (f.p : Int) := rfl
  have hT : f.tails = 2 ^ (f.p - 1) := rfl
  have hT0 := FP.Core.tails_pos f
  have hpw : 2 ^ f.p = 2 * f.tails := FP.Core.two_tails hg
  have hdv : m / f.tails < f.exps - 1 := Nat.div_lt_of_lt_mul (by rw [Nat.mul_comm]; exact h1)
  have hlt := Nat.mod_lt m hT0
  have hc : c < 2 ^ f.p := by
    rcases h3 with h3 | h3
    · have := Nat.div_add_mod m f.tails
      rw [h3.1, Nat.mul_zero] at this
      omega
    · omega
  have hnn : 0 ≤ ((m / f.tails : Nat) : Int) := Int.natCast_nonneg _
  have l1 := Nat.log2_self_le (show c ≠ 0 by omega)
  have l2 := Nat.lt_log2_self (n := c)
  have l3 : c.log2 < f.p := by
    rcases Nat.lt_or_ge c.log2 f.p with g | g
    · exact g
    · have := Nat.pow_le_pow_right (n := 2) (by decide) g
      omega
  have e1 : 2 ^ c.log2 * 2 ^ (62 - c.log2) = 4611686018427387904 := by
    rw [← Nat.pow_add, show c.log2 + (62 - c.log2) = 62 by omega]
  refine ⟨62 - c.log2, by omega, by omega, ?_, ?_, ?_, ?_⟩
  · have := Nat.mul_le_mul_right (2 ^ (62 - c.log2)) l1
    omega
  · have := Nat.mul_lt_mul_of_pos_right l2 (Nat.two_pow_pos (62 - c.log2))
    rw [Nat.pow_succ, Nat.mul_assoc, Nat.mul_comm 2, ← Nat.mul_assoc, e1] at this
    omega
  · rcases h3 with h3 | h3 <;> omega
  · rcases h3 with h3 | h3 <;> omega
