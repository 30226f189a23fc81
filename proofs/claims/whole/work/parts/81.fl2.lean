/-! floats: rounding, told of a significand of 63 digits whose lowest tells of the rest -/
theorem near_lo {A B i : Nat} (h1 : i * B ≤ A) (h2 : 2 * A < (2 * i + 1) * B) : FP.Core.nearest A B = i := by
  have e0 : (2 * i + 1) * B = 2 * (i * B) + B := by rw [Nat.add_mul, Nat.one_mul, Nat.mul_assoc]
  have hd : A / B = i := Nat.div_eq_of_lt_le h1 (by rw [Nat.add_mul, Nat.one_mul]; omega)
  have hm := Nat.div_add_mod A B
  rw [hd, Nat.mul_comm] at hm
  unfold FP.Core.nearest
  rw [hd, if_pos (by omega)]
theorem near_hi {A B i : Nat} (h1 : (2 * i + 1) * B < 2 * A) (h2 : A < (i + 1) * B) : FP.Core.nearest A B = i + 1 := by
  have e0 : (2 * i + 1) * B = 2 * (i * B) + B := by rw [Nat.add_mul, Nat.one_mul, Nat.mul_assoc]
  have hd : A / B = i := Nat.div_eq_of_lt_le (by rw [Nat.add_mul, Nat.one_mul] at h2; omega) h2
  have hm := Nat.div_add_mod A B
  rw [hd, Nat.mul_comm] at hm
  unfold FP.Core.nearest
  rw [hd, if_neg (by omega), if_pos (by omega)]
/-- S tells of A / B -/
def St (A B S : Nat) : Prop := A = B * S ∨ (S % 2 = 1 ∧ B * (S - 1) < A ∧ A < B * (S + 1))
theorem near_st {A B S d : Nat} (hB : 0 < B) (hd : 2 ≤ d) (h : St A B S) : FP.Core.nearest A (B * 2 ^ d) = FP.Core.nearest S (2 ^ d) := by
  rcases h with h | ⟨ho, h1, h2⟩
  · rw [h, Nat.mul_comm B S, Nat.mul_comm B, FP.Core.nearest_scale _ _ _ hB]
  · have eH : 2 ^ d = 2 * 2 ^ (d - 1) := FP.Core.two_pow_pred d (by omega)
    have eQ : 2 ^ (d - 1) = 2 * 2 ^ (d - 1 - 1) := FP.Core.two_pow_pred (d - 1) (by omega)
    have hH : 0 < 2 ^ (d - 1) := Nat.two_pow_pos _
    generalize 2 ^ (d - 1) = H at eH eQ hH
    generalize 2 ^ (d - 1 - 1) = Q at eQ
    have e1 := Nat.div_add_mod S H
    have e2 := Nat.mod_lt S hH
    generalize S / H = j at e1
    generalize S % H = r at e1 e2
    have hr : r ≠ 0 := by
      intro q
      rw [q, Nat.add_zero, eQ, Nat.mul_assoc] at e1
      omega
    have e3 : H * (j + 1) = H * j + H := by rw [Nat.mul_add, Nat.mul_one]
    have l1 : H * j ≤ S - 1 := by omega
    have l2 : S + 1 ≤ H * (j + 1) := by omega
    have g1 := Nat.mul_le_mul_left B l1
    have g2 := Nat.mul_le_mul_left B l2
    rw [eH]
    rcases Nat.mod_two_eq_zero_or_one j with c | c
    · have ej : j = 2 * (j / 2) := by omega
      generalize j / 2 = i at ej
      have k1 : i * (2 * H) = H * j := by rw [ej]; ac_rfl
      have k2 : (2 * i + 1) * (2 * H) = 2 * (H * (j + 1)) := by rw [ej]; ac_rfl
      have k3 : i * (B * (2 * H)) = B * (H * j) := by rw [ej]; ac_rfl
      have k4 : (2 * i + 1) * (B * (2 * H)) = 2 * (B * (H * (j + 1))) := by rw [ej]; ac_rfl
      rw [near_lo (i := i) (by omega) (by omega), near_lo (i := i) (by omega) (by omega)]
    · have ej : j = 2 * (j / 2) + 1 := by omega
      generalize j / 2 = i at ej
      have k1 : (i + 1) * (2 * H) = H * (j + 1) := by rw [ej, show 2 * i + 1 + 1 = 2 * (i + 1) by omega]; ac_rfl
      have k2 : (2 * i + 1) * (2 * H) = 2 * (H * j) := by rw [ej]; ac_rfl
      have k3 : (i + 1) * (B * (2 * H)) = B * (H * (j + 1)) := by rw [ej, show 2 * i + 1 + 1 = 2 * (i + 1) by omega]; ac_rfl
      have k4 : (2 * i + 1) * (B * (2 * H)) = 2 * (B * (H * j)) := by rw [ej]; ac_rfl
      rw [near_hi (i := i) (by omega) (by omega), near_hi (i := i) (by omega) (by omega)]
def sb (f : FP.Core.Fmt) : Nat := f.w + (f.p - 1)
theorem sb_e (f : FP.Core.Fmt) : 2 ^ sb f = f.exps * f.tails := by
  unfold sb FP.Core.Fmt.exps FP.Core.Fmt.tails
  rw [Nat.pow_add]
theorem asm_e (f : FP.Core.Fmt) (s : Bool) (e t : Nat) : FP.Core.assemble f s e t = sg s (sb f) + (e * f.tails + t) := by
  unfold FP.Core.assemble sg
  rw [sb_e, Nat.add_mul, Nat.mul_assoc, Nat.add_assoc]
/-- what the class makes of exponent and significand -/
def crd (f : FP.Core.Fmt) (E : Int) (S : Nat) : Nat := if (2 * (f.emax : Int) + 1) ≤ E + f.emax then (f.exps - 1) * f.tails else (max (E + f.emax) 1 - 1).toNat * f.tails + FP.Core.nearest S (2 ^ (62 - (f.p - 1) + (1 - (E + f.emax)).toNat))
theorem rnd_gen {f : FP.Core.Fmt} (hf : FP.Core.Good f) (hp : f.p ≤ 53) {s : Bool} {A B S : Nat} {E : Int} (hB : 0 < B) (h1 : 4611686018427387904 ≤ S) (h2 : S < 9223372036854775808) (hlo : B * 4611686018427387904 ≤ A) (hhi : A < B * 9223372036854775808) (hnr : ∀ d, 62 - (f.p - 1) ≤ d → FP.Core.nearest A (B * 2 ^ d) = FP.Core.nearest S (2 ^ d)) : FP.Core.encode f (FP.Core.roundRatio f s A B (E - 62)) = sg s (sb f) + crd f E S := by
  have hA : 0 < A := by omega
  have hpp := hf.2
  have hpw : 2 ^ f.p = 2 * f.tails := FP.Core.two_tails hf
  have hex := FP.Core.emax_exps hf
  have hem := FP.Core.emax_pos hf
  have hT0 := FP.Core.tails_pos f
  have hT2 : f.tails = 2 ^ (f.p - 1) := rfl
  -- the last digit kept
  have hb63 : FP.Core.Below A B 63 := by
    unfold FP.Core.Below
    show A * 2 ^ 0 < B * 2 ^ 63
    omega
  have hb62 : ¬ FP.Core.Below A B 62 := by
    unfold FP.Core.Below
    show ¬ A * 2 ^ 0 < B * 2 ^ 62
    omega
  have hq : FP.Core.quantum f A B (E - 62) = max f.qmin (E - ((f.p : Int) - 1)) := by
    refine FP.Core.quantum_eq hA hB (by omega) (FP.Core.below_mono (by omega) hb63) ?_
    by_cases c : f.qmin ≤ E - ((f.p : Int) - 1)
    · refine Or.inr ?_
      rw [show max f.qmin (E - ((f.p : Int) - 1)) - (E - 62) + ((f.p : Int) - 1) = 62 by omega]
      exact hb62
    · exact Or.inl (by omega)
  have hqm : f.qmin = 2 - (f.emax : Int) - (f.p : Int) := rfl
  have hqx : f.qmax = (f.emax : Int) - (f.p : Int) + 1 := rfl
  generalize hdq : 62 - (f.p - 1) + (1 - (E + (f.emax : Int))).toNat = d
  have hd : (max f.qmin (E - ((f.p : Int) - 1)) - (E - 62)).toNat = d := by omega
  have hz : (E - 62 - max f.qmin (E - ((f.p : Int) - 1))).toNat = 0 := by omega
  have hd2 : 62 - (f.p - 1) ≤ d := by omega
  unfold FP.Core.roundRatio
  rw [if_neg (by omega), hq]
  unfold FP.Core.roundAt FP.Core.unitsNum FP.Core.unitsDen
  rw [hd, hz, Nat.pow_zero, Nat.mul_one, hnr d hd2]
  -- how great it is
  have pd : 2 ^ (62 - (f.p - 1)) * f.tails = 4611686018427387904 := by
    rw [hT2, ← Nat.pow_add, show 62 - (f.p - 1) + (f.p - 1) = 62 by omega]
  have c1 : FP.Core.nearest S (2 ^ d) ≤ 2 ^ f.p := by
    refine FP.Core.nearest_le (Nat.two_pow_pos _) ?_
    have h3 : 2 ^ (62 - (f.p - 1)) ≤ 2 ^ d := Nat.pow_le_pow_right (by decide) (by omega)
    have h4 := Nat.mul_le_mul_left (2 ^ f.p) h3
    have h5 : 2 ^ f.p * 2 ^ (62 - (f.p - 1)) = 9223372036854775808 := by
      rw [hpw, Nat.mul_assoc, Nat.mul_comm f.tails, pd]
    omega
  have c2 : f.qmin < E - ((f.p : Int) - 1) → f.tails ≤ FP.Core.nearest S (2 ^ d) := by
    intro c
    refine FP.Core.nearest_ge (Nat.two_pow_pos _) ?_
    rw [show d = 62 - (f.p - 1) by omega, Nat.mul_comm, pd]
    exact h1
  unfold crd
  rw [hdq]
  generalize FP.Core.nearest S (2 ^ d) = c at c1 c2
  have hmx : (max (E + (f.emax : Int)) 1 - 1).toNat = (max f.qmin (E - ((f.p : Int) - 1)) - f.qmin).toNat := by omega
  rw [hmx]
  unfold FP.Core.settle
  by_cases q1 : c < 2 ^ f.p
  · rw [if_pos q1]
    unfold FP.Core.bound
    by_cases q2 : max f.qmin (E - ((f.p : Int) - 1)) ≤ f.qmax
    · rw [if_pos q2, if_neg (by omega)]
      unfold FP.Core.encode
      by_cases q3 : c < f.tails
      · have q4 : ¬ f.qmin < E - ((f.p : Int) - 1) := fun q => by
          have := c2 q
          omega
        dsimp only
        rw [if_pos q3, asm_e, show (max f.qmin (E - ((f.p : Int) - 1)) - f.qmin).toNat = 0 by omega]
      · dsimp only
        rw [if_neg q3, asm_e, Nat.add_mul, Nat.one_mul, Nat.add_assoc _ f.tails, Nat.add_sub_cancel' (by omega)]
    · rw [if_neg q2, if_pos (by omega)]
      unfold FP.Core.encode
      dsimp only
      rw [asm_e, Nat.add_zero]
  · have q5 : c = 2 ^ f.p := by omega
    rw [if_neg q1, q5, hpw]
    unfold FP.Core.bound
    by_cases q2 : max f.qmin (E - ((f.p : Int) - 1)) + 1 ≤ f.qmax
    · rw [if_pos q2, if_neg (by omega)]
      unfold FP.Core.encode
      dsimp only
      rw [if_neg (Nat.lt_irrefl _), asm_e, Nat.sub_self, Nat.add_zero, show (max f.qmin (E - ((f.p : Int) - 1)) + 1 - f.qmin).toNat + 1 = (max f.qmin (E - ((f.p : Int) - 1)) - f.qmin).toNat + 2 by omega, Nat.add_mul]
    · rw [if_neg q2]
      unfold FP.Core.encode
      dsimp only
      rw [asm_e, Nat.add_zero]
      by_cases q6 : 2 * (f.emax : Int) + 1 ≤ E + f.emax
      · rw [if_pos q6]
      · rw [if_neg q6, ← Nat.add_mul]
        congr 2
        omega

theorem rnd_ex {f : FP.Core.Fmt} (hf : FP.Core.Good f) (hp : f.p ≤ 53) {s : Bool} {A B S : Nat} {E : Int} (hB : 0 < B) (h1 : 4611686018427387904 ≤ S) (h2 : S < 9223372036854775808) (h : A = B * S) : FP.Core.encode f (FP.Core.roundRatio f s A B (E - 62)) = sg s (sb f) + crd f E S := by
  refine rnd_gen hf hp hB h1 h2 ?_ ?_ (fun d hd => near_st hB (by omega) (Or.inl h))
  · rw [h]
    exact Nat.mul_le_mul_left B h1
  · rw [h]
    exact Nat.mul_lt_mul_of_pos_left h2 hB
theorem rnd_st {f : FP.Core.Fmt} (hf : FP.Core.Good f) (hp : f.p ≤ 53) {s : Bool} {A B H g : Nat} {E : Int} (hB : 0 < B) (hg : g ≤ 8) (h1 : 4611686018427387904 ≤ H * 2 ^ g) (h2 : H * 2 ^ g < 9223372036854775808) (h : St A B H) : FP.Core.encode f (FP.Core.roundRatio f s (A * 2 ^ g) B (E - 62)) = sg s (sb f) + crd f E (H * 2 ^ g) := by
  rcases h with h | ⟨ho, h3, h4⟩
  · exact rnd_ex hf hp hB h1 h2 (by rw [h, Nat.mul_assoc])
  · have hP : 0 < 2 ^ g := Nat.two_pow_pos g
    have e1 : 2 ^ (62 - g) * 2 ^ g = 4611686018427387904 := by rw [← Nat.pow_add, show 62 - g + g = 62 by omega]
    have e2 : 2 ^ (62 - g) = 2 * 2 ^ (62 - g - 1) := FP.Core.two_pow_pred _ (by omega)
    have k1 : 2 ^ (62 - g) ≤ H := by
      rcases Nat.lt_or_ge H (2 ^ (62 - g)) with q | q
      · have := Nat.mul_lt_mul_of_pos_right q hP
        omega
      · exact q
    have k2 : H < 2 * 2 ^ (62 - g) := by
      rcases Nat.lt_or_ge H (2 * 2 ^ (62 - g)) with q | q
      · exact q
      · have := Nat.mul_le_mul_right (2 ^ g) q
        rw [Nat.mul_assoc, e1] at this
        omega
    refine rnd_gen hf hp hB h1 h2 ?_ ?_ (fun d hd => ?_)
    · have := Nat.mul_le_mul_left B (show 2 ^ (62 - g) ≤ H - 1 by omega)
      have h5 := Nat.mul_le_mul_right (2 ^ g) (show B * 2 ^ (62 - g) ≤ A by omega)
      rw [Nat.mul_assoc, e1] at h5
      exact h5
    · have := Nat.mul_le_mul_left B (show H + 1 ≤ 2 * 2 ^ (62 - g) by omega)
      have h5 := Nat.mul_lt_mul_of_pos_right (show A < B * (2 * 2 ^ (62 - g)) by omega) hP
      rw [Nat.mul_assoc, Nat.mul_assoc, e1] at h5
      exact h5
    · have e3 : 2 ^ d = 2 ^ (d - g) * 2 ^ g := by rw [← Nat.pow_add, show d - g + g = d by omega]
      rw [e3, ← Nat.mul_assoc, FP.Core.nearest_scale _ _ _ hP, FP.Core.nearest_scale _ _ _ hP]
      exact near_st hB (by omega) (Or.inr ⟨ho, h3, h4⟩)
/-- the digits above, the lowest one telling of the rest -/
def stk (N k : Nat) : Nat := N / 2 ^ k ||| (if N % 2 ^ k = 0 then 0 else 1)
theorem or_1 (a : Nat) : a ||| 1 = if a % 2 = 0 then a + 1 else a := by
  have h := or_add (a := a / 2) (k := 1) (b := a % 2) (Nat.mod_lt a (by decide))
  have h1 := or_add (a := a / 2) (k := 1) (b := 1) (by decide)
  have e : a / 2 * 2 ^ 1 + a % 2 = a := by
    have := Nat.div_add_mod a 2
    omega
  by_cases c : a % 2 = 0
  · rw [if_pos c]
    rw [c, Nat.add_zero] at e
    rw [e] at h1
    exact h1
  · rw [if_neg c]
    have c2 : a % 2 = 1 := by omega
    rw [c2] at e
    rw [e] at h1
    rw [← h1, Nat.or_assoc, Nat.or_self]
theorem stk_ex {N k : Nat} (h : N % 2 ^ k = 0) : N = 2 ^ k * stk N k := by
  unfold stk
  rw [if_pos h, Nat.or_zero]
  have := Nat.div_add_mod N (2 ^ k)
  omega
theorem stk_st {N k : Nat} (h : ¬ N % 2 ^ k = 0) : stk N k % 2 = 1 ∧ 2 ^ k * (stk N k - 1) < N ∧ N < 2 ^ k * (stk N k + 1) := by
  unfold stk
  rw [if_neg h, or_1]
  have h1 := Nat.div_add_mod N (2 ^ k)
  have h2 := Nat.mod_lt N (Nat.two_pow_pos k)
  generalize N / 2 ^ k = a at h1
  generalize 2 ^ k = D at *
  have e1 : D * (a + 1) = D * a + D := by rw [Nat.mul_add, Nat.mul_one]
  have e2 : D * (a + 1 + 1) = D * a + D + D := by rw [Nat.mul_add, e1, Nat.mul_one]
  by_cases c : a % 2 = 0
  · rw [if_pos c, Nat.add_sub_cancel]
    omega
  · rw [if_neg c]
    have e3 : D * (a - 1) ≤ D * a := Nat.mul_le_mul_left D (by omega)
    omega
theorem stk_St (N k : Nat) : St N (2 ^ k) (stk N k) := by
  by_cases h : N % 2 ^ k = 0
  · exact Or.inl (stk_ex h)
  · exact Or.inr (stk_st h)
