/-! floats: products, shifts; the sorts of numbers -/
theorem hp_tot {PQ ac mid bd ml mh low lh rs X Y : Nat} (hX : Y * Y = X) (pq : PQ = ac * X + mid * Y + bd) (hmd : Y * mh + ml = mid) (hlow : bd + ml * Y = low) (hld : X * lh + rs = low) : PQ = (ac + mh + lh) * X + rs := by
  have e1 : Y * mh * Y = mh * X := by rw [← hX]; ac_rfl
  have e2 : X * lh = lh * X := Nat.mul_comm _ _
  rw [pq, ← hmd, Nat.add_mul (Y * mh), e1, Nat.add_mul, Nat.add_mul]
  omega
theorem wp_highProduct {p q : Nat} {K : Int64 → Prop} (hp : p < 9007199254740992) (hq : q < 9007199254740992) (hK : K (lN (stk (p * q) 43))) : wp_X7_highProduct (lN p) (lN q) K := by
  have ep := Nat.div_add_mod p 134217728
  have eq := Nat.div_add_mod q 134217728
  have bp := Nat.mod_lt p (show 0 < 134217728 by decide)
  have bq := Nat.mod_lt q (show 0 < 134217728 by decide)
  unfold wp_X7_highProduct
  intro y1 q1 y2 q2 y3 q3 y4 q4 y5 q5 y6 q6 y7 q7 y8 q8 y9 q9 y10 q10
  rw [show (27 : Int32) = nI 27 from rfl, lN_shr (by omega) (by decide), show (2 : Nat) ^ 27 = 134217728 from rfl] at q1 q3
  rw [show (134217727 : Int64) = lN (2 ^ 27 - 1) from rfl, lN_mask, show (2 : Nat) ^ 27 = 134217728 from rfl] at q2 q4
  generalize p / 134217728 = a at *
  generalize p % 134217728 = b at *
  generalize q / 134217728 = c at *
  generalize q % 134217728 = d at *
  subst q1 q2 q3 q4
  have m1 : a * d ≤ 67108863 * 134217727 := Nat.mul_le_mul (by omega) (by omega)
  have m2 : b * c ≤ 134217727 * 67108863 := Nat.mul_le_mul (by omega) (by omega)
  have m3 : b * d ≤ 134217727 * 134217727 := Nat.mul_le_mul (by omega) (by omega)
  have m4 : a * c ≤ 67108863 * 67108863 := Nat.mul_le_mul (by omega) (by omega)
  have pq : p * q = a * c * 18014398509481984 + (a * d + b * c) * 134217728 + b * d := by
    rw [← ep, ← eq, Nat.add_mul, Nat.mul_add, Nat.mul_add, Nat.add_mul]
    have t1 : 134217728 * a * (134217728 * c) = a * c * 18014398509481984 := by
      rw [show (18014398509481984 : Nat) = 134217728 * 134217728 from rfl]; ac_rfl
    have t2 : 134217728 * a * d = a * d * 134217728 := by ac_rfl
    have t3 : b * (134217728 * c) = b * c * 134217728 := by ac_rfl
    omega
  rw [lN_mul, lN_mul, lN_add] at q5
  have hmid : a * d + b * c < 18014398509481984 := by omega
  generalize a * d + b * c = mid at *
  generalize hac : a * c = ac at *
  generalize hbd : b * d = bd at *
  subst q5
  rw [lN_mul, hbd, show (134217727 : Int64) = lN (2 ^ 27 - 1) from rfl, lN_mask, show (27 : Int32) = nI 27 from rfl, lN_shl (by decide), lN_add, show (2 : Nat) ^ 27 = 134217728 from rfl] at q6
  have hmd := Nat.div_add_mod mid 134217728
  have hmb := Nat.mod_lt mid (show 0 < 134217728 by decide)
  generalize hlow : bd + mid % 134217728 * 134217728 = low at *
  subst q6
  have hlb : low < 36028797018963968 := by omega
  rw [lN_mul, hac, show (27 : Int32) = nI 27 from rfl, lN_shr (by omega) (by decide), show (54 : Int32) = nI 54 from rfl, lN_shr (by omega) (by decide), lN_add, lN_add, show (2 : Nat) ^ 27 = 134217728 from rfl, show (2 : Nat) ^ 54 = 18014398509481984 from rfl] at q7
  rw [show (18014398509481983 : Int64) = lN (2 ^ 54 - 1) from rfl, lN_mask, show (2 : Nat) ^ 54 = 18014398509481984 from rfl] at q8
  have hld := Nat.div_add_mod low 18014398509481984
  have hlr := Nat.mod_lt low (show 0 < 18014398509481984 by decide)
  generalize mid / 134217728 = mh at *
  generalize mid % 134217728 = ml at *
  generalize low / 18014398509481984 = lh at *
  generalize low % 18014398509481984 = rs at *
  have tot : p * q = (ac + mh + lh) * 18014398509481984 + rs := hp_tot (by decide) pq hmd hlow hld
  generalize ac + mh + lh = hi at *
  generalize p * q = pq2 at *
  subst q7 q8
  rw [show (54 : Int32) - (11 : Int32) = nI 43 from rfl] at q9
  subst q9
  rw [lN_b1 (by decide), lN_m1, lN_mask] at q10
  subst q10
  have v1 : pq2 / 2 ^ 43 = hi * 2 ^ 11 + rs / 2 ^ 43 := by omega
  have v2 : pq2 % 2 ^ 43 = rs % 2 ^ 43 := by omega
  have v3 : rs / 2 ^ 43 < 2 ^ 11 := by omega
  unfold stk at hK
  rw [v1, v2] at hK
  rw [show (11 : Int32) = nI 11 from rfl, lN_shl (by decide), lN_shr (by omega) (by decide), lN_or, or_add v3, show (0 : Int64) = lN 0 from rfl, c_eq (by omega) (by decide)]
  generalize hi * 2 ^ 11 + rs / 2 ^ 43 = V at hK ⊢
  refine ⟨fun r => ?_, fun r => ?_⟩
  · rw [if_pos r] at hK
    rw [show ((0 : Int32).toInt64) = lN 0 from rfl, lN_or]
    exact hK
  · rw [if_neg r] at hK
    rw [show ((1 : Int32).toInt64) = lN 1 from rfl, lN_or]
    exact hK
theorem wp_lowered {N k : Nat} {K : Int64 → Prop} (h0 : 0 < N) (h1 : N < 4611686018427387904) (hk : k < 1000000) (hK : K (lN (stk N k))) : wp_X7_lowered (lN N) (nI k) K := by
  unfold wp_X7_lowered
  by_cases c : k ≤ 62
  · refine br_t (nle c (by decide)) ?_
    intro y1 q1
    rw [lN_b1 (by omega), lN_m1, lN_mask] at q1
    subst q1
    have b1 : N % 2 ^ k ≤ N := Nat.mod_le _ _
    unfold stk at hK
    rw [lN_shr (by omega) (by omega), show (0 : Int64) = lN 0 from rfl, c_eq (by omega) (by decide)]
    refine ⟨fun r => ?_, fun r => ?_⟩
    · rw [if_pos r] at hK
      rw [show ((0 : Int32).toInt64) = lN 0 from rfl, lN_or]
      exact hK
    · rw [if_neg r] at hK
      rw [show ((1 : Int32).toInt64) = lN 1 from rfl, lN_or]
      exact hK
  · refine br_f (ngt (a := 62) (b := k) (by omega) (by omega)) ?_
    have h3 : 2 ^ 62 ≤ 2 ^ k := Nat.pow_le_pow_right (by decide) (by omega)
    unfold stk at hK
    rw [Nat.div_eq_of_lt (by omega), Nat.mod_eq_of_lt (by omega), if_neg (by omega), Nat.zero_or] at hK
    exact hK
/-- the sorts of numbers, by their size -/
def Cl (f : FP.Core.Fmt) (s : Bool) (m : Nat) (d : FP.Core.Datum) : Prop := ((f.exps - 1) * f.tails < m ∧ d = .nan) ∨ (m = (f.exps - 1) * f.tails ∧ d = .inf s) ∨ (m = 0 ∧ d = .fin s 0 f.qmin) ∨ ∃ c q, Nz f m c q ∧ 0 < m ∧ d = .fin s c q
theorem dec_cl {f : FP.Core.Fmt} (hf : Fk f) {s : Bool} {m : Nat} (hm : m < 2 ^ sb f) : Cl f s m (FP.Core.decode f (sg s (sb f) + m)) := by
  have hi := hf.inf
  have hex := FP.Core.emax_exps hf.1
  have hT0 := FP.Core.tails_pos f
  have e1 := Nat.div_add_mod m f.tails
  have e2 := Nat.mod_lt m hT0
  have e3 : m / f.tails < f.exps := Nat.div_lt_of_lt_mul (by rw [Nat.mul_comm, ← sb_e]; exact hm)
  have e4 : sg s (sb f) + m = FP.Core.assemble f s (m / f.tails) (m % f.tails) := by
    rw [asm_e, Nat.mul_comm, e1]
  rw [e4, FP.Core.decode_assemble f s _ _ e3 e2]
  by_cases c1 : m / f.tails = f.exps - 1
  · rw [if_pos c1]
    rw [c1, Nat.mul_comm] at e1
    by_cases c2 : m % f.tails = 0
    · rw [if_pos c2]
      exact Or.inr (Or.inl ⟨by omega, rfl⟩)
    · rw [if_neg c2]
      exact Or.inl ⟨by omega, rfl⟩
  · have lt : m < (f.exps - 1) * f.tails := by
      have h5 := Nat.mul_le_mul_left f.tails (show m / f.tails + 1 ≤ f.exps - 1 by omega)
      rw [Nat.mul_add, Nat.mul_one, Nat.mul_comm f.tails (f.exps - 1)] at h5
      omega
    rw [if_neg c1]
    by_cases c2 : m / f.tails = 0
    · rw [if_pos c2]
      rw [c2, Nat.mul_zero, Nat.zero_add] at e1
      rw [e1]
      by_cases c3 : m = 0
      · exact Or.inr (Or.inr (Or.inl ⟨c3, by rw [c3]⟩))
      · exact Or.inr (Or.inr (Or.inr ⟨m, f.qmin, ⟨lt, by omega, Or.inl ⟨c2, rfl, rfl⟩⟩, by omega, rfl⟩))
    · rw [if_neg c2]
      have m0 : 0 < m := by
        rcases Nat.eq_zero_or_pos m with q | q
        · rw [q, Nat.zero_div] at c2
          exact absurd rfl c2
        · exact q
      refine Or.inr (Or.inr (Or.inr ⟨_, _, ⟨lt, by omega, Or.inr ⟨c2, rfl, ?_⟩⟩, m0, rfl⟩))
      omega
/-- bits that stand for a number -/
def Pn (f : FP.Core.Fmt) (x : Int64) (d : FP.Core.Datum) : Prop := ∃ s m, m < 2 ^ sb f ∧ x = lN (sg s (sb f) + m) ∧ Cl f s m d
