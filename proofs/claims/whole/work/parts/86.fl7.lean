/-! floats: plus -/
theorem Nz.enc {f : FP.Core.Fmt} {m c : Nat} {q : Int} (h : Nz f m c q) (s : Bool) : FP.Core.encode f (.fin s c q) = sg s (sb f) + m := by
  obtain ⟨h1, h2, h3⟩ := h
  have hT0 := FP.Core.tails_pos f
  have e1 := Nat.div_add_mod m f.tails
  have e2 := Nat.mod_lt m hT0
  unfold FP.Core.encode
  dsimp only
  rcases h3 with ⟨a1, a2, a3⟩ | ⟨a1, a2, a3⟩
  · rw [a1, Nat.mul_zero] at e1
    rw [if_pos (by omega), asm_e, Nat.zero_mul, a2, Nat.zero_add]
  · have hnn : 0 ≤ ((m / f.tails : Nat) : Int) := Int.natCast_nonneg _
    rw [if_neg (by omega), asm_e, a2, Nat.add_sub_cancel_left, show (q - f.qmin).toNat + 1 = m / f.tails by omega, Nat.mul_comm, e1]
theorem Nz.fits {f : FP.Core.Fmt} (hf : Fk f) {m c : Nat} {q : Int} (h : Nz f m c q) (s : Bool) : FP.Core.fits f (.fin s c q) := by
  obtain ⟨h1, h2, h3⟩ := h
  have hT0 := FP.Core.tails_pos f
  have e1 := Nat.div_add_mod m f.tails
  have e2 := Nat.mod_lt m hT0
  have hpw : 2 ^ f.p = 2 * f.tails := FP.Core.two_tails hf.1
  have hqq := FP.Core.qmax_qmin f
  have hex := FP.Core.emax_exps hf.1
  have hem := FP.Core.emax_pos hf.1
  have hdv : m / f.tails < f.exps - 1 := Nat.div_lt_of_lt_mul (by rw [Nat.mul_comm]; exact h1)
  have hnn : 0 ≤ ((m / f.tails : Nat) : Int) := Int.natCast_nonneg _
  unfold FP.Core.fits
  dsimp only
  rcases h3 with ⟨a1, a2, a3⟩ | ⟨a1, a2, a3⟩
  · rw [a1, Nat.mul_zero] at e1
    refine ⟨by omega, by omega, by omega, Or.inl a3⟩
  · refine ⟨by omega, by omega, by omega, Or.inr (by omega)⟩
/-- sizes in order, values in order -/
theorem Nz.le {f : FP.Core.Fmt} {m n c1 c2 : Nat} {q1 q2 : Int} (h1 : Nz f m c1 q1) (h2 : Nz f n c2 q2) (h : n ≤ m) : c2 * 2 ^ (q2 - f.qmin).toNat ≤ c1 * 2 ^ (q1 - f.qmin).toNat := by
  obtain ⟨_, _, h1⟩ := h1
  obtain ⟨_, _, h2⟩ := h2
  have hT0 := FP.Core.tails_pos f
  have e1 := Nat.div_add_mod m f.tails
  have e2 := Nat.mod_lt m hT0
  have e3 := Nat.div_add_mod n f.tails
  have e4 := Nat.mod_lt n hT0
  have hd : n / f.tails ≤ m / f.tails := Nat.div_le_div_right h
  generalize m / f.tails = am at *
  generalize n / f.tails = an at *
  rcases h1 with ⟨a1, a2, a3⟩ | ⟨a1, a2, a3⟩
  · rcases h2 with ⟨b1, b2, b3⟩ | ⟨b1, b2, b3⟩
    · rw [a2, b2, a3, b3]
      exact Nat.mul_le_mul_right _ h
    · exact absurd hd (by omega)
  · have k1 : (q1 - f.qmin).toNat = am - 1 := by
      omega
    rw [k1]
    rcases h2 with ⟨b1, b2, b3⟩ | ⟨b1, b2, b3⟩
    · rw [b3, Int.sub_self]
      rw [b1, Nat.mul_zero] at e3
      have := Nat.mul_le_mul_left c1 (Nat.one_le_two_pow (n := am - 1))
      show c2 * 1 ≤ _
      omega
    · have k2 : (q2 - f.qmin).toNat = an - 1 := by
        omega
      rw [k2]
      by_cases c : an = am
      · rw [c]
        rw [c] at e3
        exact Nat.mul_le_mul_right _ (by omega)
      · have p1 : 2 ^ (an - 1 + 1) ≤ 2 ^ (am - 1) := Nat.pow_le_pow_right (by decide) (by omega)
        rw [Nat.pow_succ] at p1
        have p2 := Nat.mul_le_mul_left f.tails p1
        have p3 := Nat.mul_le_mul_right (2 ^ (an - 1)) (show c2 ≤ f.tails * 2 by omega)
        have p4 := Nat.mul_le_mul_right (2 ^ (am - 1)) (show f.tails ≤ c1 by omega)
        have p5 : f.tails * 2 * 2 ^ (an - 1) = f.tails * (2 ^ (an - 1) * 2) := by ac_rfl
        omega
theorem sum_al {s : Bool} {c d : Nat} {q r : Int} (hc : 0 < c) : FP.Core.exactSum (.fin s c q) (.fin s d r) = .fin s (c * 2 ^ (q - min q r).toNat + d * 2 ^ (r - min q r).toNat) (min q r) := by
  have hP := Nat.mul_pos hc (Nat.two_pow_pos (q - min q r).toNat)
  unfold FP.Core.exactSum
  dsimp only
  unfold FP.Core.sumUnits FP.Core.inUnits FP.Core.sumSign FP.Core.signed
  generalize c * 2 ^ (q - min q r).toNat = u at *
  generalize d * 2 ^ (r - min q r).toNat = v at *
  cases s
  · rw [if_neg Bool.false_ne_true, if_neg Bool.false_ne_true, if_neg (by omega), show decide ((u : Int) + (v : Int) < 0) = false from decide_eq_false (by omega), show ((u : Int) + (v : Int)).natAbs = u + v by omega]
  · rw [if_pos rfl, if_pos rfl, if_neg (by omega), show decide (-(u : Int) + -(v : Int) < 0) = true from decide_eq_true (by omega), show (-(u : Int) + -(v : Int)).natAbs = u + v by omega]
theorem sum_df {s t : Bool} {c d : Nat} {q r : Int} (hst : s ≠ t) (h : d * 2 ^ (r - min q r).toNat ≤ c * 2 ^ (q - min q r).toNat) : FP.Core.exactSum (.fin s c q) (.fin t d r) = .fin (if c * 2 ^ (q - min q r).toNat - d * 2 ^ (r - min q r).toNat = 0 then false else s) (c * 2 ^ (q - min q r).toNat - d * 2 ^ (r - min q r).toNat) (min q r) := by
  unfold FP.Core.exactSum
  dsimp only
  unfold FP.Core.sumUnits FP.Core.inUnits FP.Core.sumSign FP.Core.signed
  generalize c * 2 ^ (q - min q r).toNat = u at *
  generalize d * 2 ^ (r - min q r).toNat = v at *
  by_cases z : u - v = 0
  · rw [if_pos z]
    cases s <;> cases t
    · exact absurd rfl hst
    · rw [if_neg Bool.false_ne_true, if_pos rfl, if_pos (by omega), show ((u : Int) + -(v : Int)).natAbs = u - v by omega]
      rfl
    · rw [if_neg Bool.false_ne_true, if_pos rfl, if_pos (by omega), show (-(u : Int) + (v : Int)).natAbs = u - v by omega]
      rfl
    · exact absurd rfl hst
  · rw [if_neg z]
    cases s <;> cases t
    · exact absurd rfl hst
    · rw [if_neg Bool.false_ne_true, if_pos rfl, if_neg (by omega), show decide ((u : Int) + -(v : Int) < 0) = false from decide_eq_false (by omega), show ((u : Int) + -(v : Int)).natAbs = u - v by omega]
    · rw [if_neg Bool.false_ne_true, if_pos rfl, if_neg (by omega), show decide (-(u : Int) + (v : Int) < 0) = true from decide_eq_true (by omega), show (-(u : Int) + (v : Int)).natAbs = u - v by omega]
    · exact absurd rfl hst
