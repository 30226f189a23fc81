/-! floats: narrowed, steps -/
theorem v32_d2f (y : UInt64) : FP.Core.val32 (FP.d2f y) = FP.Core.round FP.Core.b32 (FP.Core.val64 y) := by
  unfold FP.d2f
  by_cases h : FP.Core.val64 y = .nan
  · have e : FP.Core.dIsNaN y = true := decide_eq_true h
    rw [if_pos e, h]
    exact v32_nan (isNaN32_or_left (isNaN32_or_right (by decide)))
  · have e : ¬ FP.Core.dIsNaN y = true := fun q => h (of_decide_eq_true q)
    rw [if_neg e]
    exact FP.Core.val32_d2f y
theorem pr_narrowed {x1 : Int64} {F F' : Nat → Int32} {z : Nat → Int} {K : Int32 → Int32 → Prop} (h : rl 5 F F' z) (hK : ∀ r, K r r) : wp_X11_narrowed x1 F (nI (FP.Core.b32.p - 1)) (nI FP.Core.b32.emax) (nI (FP.Core.b32.exps - 1)) (lN (2 ^ sb FP.Core.b32)) (lN ((FP.Core.b32.exps - 1) * FP.Core.b32.tails)) (lN (FP.Core.encode FP.Core.b32 .nan)) (nI (FP.Core.b64.p - 1)) (nI FP.Core.b64.emax) (nI (FP.Core.b64.exps - 1)) (lN (2 ^ sb FP.Core.b64)) (lN ((FP.Core.b64.exps - 1) * FP.Core.b64.tails)) (lN (FP.Core.encode FP.Core.b64 .nan)) (fun r => wp_X12_narrowed x1 F' (fun r2 => K r r2)) := by
  unfold wp_X11_narrowed wp_X12_narrowed
  have e1 : x1 = lN x1.toUInt64.toNat := lBe (Nat.mod_eq_of_lt x1.toBitVec.isLt).symm
  have hP := Pn_of Fk64 (show x1.toUInt64.toNat < 2 * 2 ^ 63 from x1.toUInt64.toNat_lt)
  rw [← e1] at hP
  refine wp_atPoint Fk64 hP ?_
  refine wp_likeOther Fk32 Fk64 (Pn_enc Fk64 (vlD_fits Fk64 5 _ (FP.Core.zero_fits FP.Core.good_b64 false))) ?_
  intro w1 h1
  refine wp_valueIn (rl_m h) (fun y hy w3 h3 => wp_f2b ?_)
  rw [v32_al h3, v32_d2f y, hy, v64_al h1, lN_i, vlD_cg 5 (zeroD FP.Core.b64) (g := fun i => (F i).toInt) (h := fun i => (fdI (z i)).toInt) (fun i hi => by rw [(h i hi).1])]
  exact hK _
