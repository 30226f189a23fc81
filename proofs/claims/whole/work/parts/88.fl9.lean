/-! floats: whole numbers, and from doubles to floats -/
theorem rr_up {f : FP.Core.Fmt} {s : Bool} {c j : Nat} {q : Int} : FP.Core.roundRatio f s c 1 q = FP.Core.roundRatio f s (c * 2 ^ j) 1 (q + 62 - (j : Int) - 62) := by
  refine FP.Core.roundRatio_congr (by decide) (by decide) ?_
  rw [Nat.mul_one, Nat.mul_one, Nat.mul_assoc, ← Nat.pow_add]
  congr 2
  omega
theorem sg_F (k : Nat) : lN (sg false k) = 0 := by
  unfold sg
  rw [show Bool.toNat false = 0 from rfl, Nat.zero_mul]
  rfl
theorem sg_T (k : Nat) : lN (sg true k) = lN (2 ^ k) := by
  unfold sg
  rw [show Bool.toNat true = 1 from rfl, Nat.one_mul]
theorem wp_ofWhole {f : FP.Core.Fmt} {x : Int32} {K : Int64 → Prop} (hf : Fk f) (hK : K (lN (FP.Core.encode f (FP.Core.round f (FP.Core.ofInt x.toInt))))) : wp_X7_ofWhole x (nI (f.p - 1)) (nI f.emax) (nI (f.exps - 1)) (lN (2 ^ sb f)) (lN ((f.exps - 1) * f.tails)) K := by
  have hb := ib x
  have z0 : (0 : Int32).toInt = 0 := rfl
  have main : ∀ (s : Bool) (N : Nat), 0 < N → N ≤ 2147483648 → s = decide (x.toInt < 0) → N = x.toInt.natAbs → jn_X7_ofWhole_18 x (nI (f.p - 1)) (nI f.emax) (nI (f.exps - 1)) (lN (2 ^ sb f)) (lN ((f.exps - 1) * f.tails)) K (lN N) := by
    intro s N h0 h1 hs hN
    unfold jn_X7_ofWhole_18
    refine wp_gapOf h0 (by omega) (fun g g1 g2 g3 => ?_)
    have last : jn_X7_ofWhole_38 x (nI (f.p - 1)) (nI f.emax) (nI (f.exps - 1)) (lN (2 ^ sb f)) (lN ((f.exps - 1) * f.tails)) K (lN N) (nI g) (lN (sg s (sb f))) := by
      unfold jn_X7_ofWhole_38
      rw [show (62 : Int32) = iZ 62 from rfl, lN_shl (by omega), iZ_n (n := g) (by omega), iZ_sub (by omega) (by omega)]
      refine wp_rounded hf.1 (by have := hf.2.1; omega) (by have := hf.2.2.1; omega) (by omega) hf.2.2.2 g3 ?_
      have hK2 : K (lN (FP.Core.encode f (FP.Core.roundRatio f s N 1 0))) := by
        rw [hs, hN]
        exact hK
      rw [rr_up (j := g), show (0 : Int) + 62 - (g : Int) = 62 - (g : Int) by omega, rnd_ex hf.1 hf.2.1 (by decide) g2 g3 (by rw [Nat.one_mul])] at hK2
      exact hK2
    rw [Int32.le_iff_toInt_le, z0]
    refine ⟨fun r => ?_, fun r => ?_⟩
    · rw [show s = false from by rw [hs]; exact decide_eq_false (by omega), sg_F] at last
      exact last
    · rw [show s = true from by rw [hs]; exact decide_eq_true (by omega), sg_T] at last
      exact last
  unfold wp_X7_ofWhole
  refine ⟨fun r => ⟨fun r2 => ?_, fun r2 => ?_⟩, fun r => ?_⟩
  · rw [Int32.le_iff_toInt_le, z0] at r2
    have hne : x.toInt ≠ 0 := fun q => r (ieq (by rw [q, z0]))
    rw [show x.toInt64 = lN x.toInt.natAbs from leq (by rw [Int32.toInt_toInt64, lN_t (by omega)]; omega)]
    exact main _ _ (by omega) (by omega) rfl rfl
  · rw [Int32.le_iff_toInt_le, z0] at r2
    rw [show -x.toInt64 = lN x.toInt.natAbs from leq (by rw [lng (Int32.toInt_toInt64 x) (by omega), lN_t (by omega)]; omega)]
    exact main _ _ (by omega) (by omega) rfl rfl
  · rw [r] at hK
    have e : FP.Core.round f (FP.Core.ofInt (0 : Int32).toInt) = .fin false 0 f.qmin := rnd_0 f false 0
    rw [e, enc_z, sg_F] at hK
    exact hK
theorem wp_likeOther {f g : FP.Core.Fmt} {x : Int64} {d : FP.Core.Datum} {K : Int64 → Prop} (hf : Fk f) (hg : Fk g) (hx : Pn g x d) (hK : K (lN (FP.Core.encode f (FP.Core.round f d)))) : wp_X7_likeOther x (nI (f.p - 1)) (nI f.emax) (nI (f.exps - 1)) (lN (2 ^ sb f)) (lN ((f.exps - 1) * f.tails)) (lN (FP.Core.encode f .nan)) (nI (g.p - 1)) (nI g.emax) (lN (2 ^ sb g)) (lN ((g.exps - 1) * g.tails)) K := by
  obtain ⟨s, m, hm, ex, cx⟩ := hx
  subst ex
  have hmag := hg.mag
  have hi := hg.inf
  have hT0 := FP.Core.tails_pos g
  unfold wp_X7_likeOther
  refine wp_mag hm ?_
  rw [c_le (a := m) (by omega) (by omega), lN_and, sg_and hm]
  have last : m ≤ (g.exps - 1) * g.tails → jn_X7_likeOther_41 (lN (sg s (sb g) + m)) (nI (f.p - 1)) (nI f.emax) (nI (f.exps - 1)) (lN (2 ^ sb f)) (lN ((f.exps - 1) * f.tails)) (lN (FP.Core.encode f .nan)) (nI (g.p - 1)) (nI g.emax) (lN (2 ^ sb g)) (lN ((g.exps - 1) * g.tails)) K (lN m) (lN (sg s (sb f))) := by
    intro r
    unfold jn_X7_likeOther_41
    rw [show (0 : Int64) = lN 0 from rfl, c_eq (a := m) (b := (g.exps - 1) * g.tails) (by omega) (by omega), c_eq (a := m) (b := 0) (by omega) (by decide), sg_inf hf]
    refine ⟨fun r2 => ⟨fun r3 => ?_, fun r3 => ?_⟩, fun r2 => ?_⟩
    · obtain ⟨c, q, z, e⟩ := cx.fin r3 r r2
      obtain ⟨j, j0, j1, j2, j3, j4, j5⟩ := z.up hg
      rw [e] at hK
      refine wp_expo hg z j2 j3 (wp_signif hg z j2 j3 ?_)
      refine wp_rounded hf.1 (by have := hf.2.1; omega) (by have := hf.2.2.1; omega) (by omega) hf.2.2.2 j3 ?_
      have hK2 : K (lN (FP.Core.encode f (FP.Core.roundRatio f s c 1 q))) := hK
      rw [rr_up (j := j), rnd_ex hf.1 hf.2.1 (by decide) j2 j3 (by rw [Nat.one_mul])] at hK2
      exact hK2
    · rw [cx.zero hg r3, rnd_0, enc_z] at hK
      exact hK
    · rw [cx.inf hg r2] at hK
      exact hK
  refine ⟨fun r => ?_, fun r => ?_⟩
  · have hP := Nat.two_pow_pos (sb g)
    have h := last r
    cases s
    · rw [sg_F] at h
      refine br_t ((lg_cmp_eq _ _).mpr (sg_F _)) h
    · rw [sg_T] at h
      refine br_f (fun q => ?_) h
      rw [sg_T, show (0 : Int64) = lN 0 from rfl, c_eq (by omega) (by decide)] at q
      omega
  · rw [cx.nan (by omega)] at hK
    exact hK
