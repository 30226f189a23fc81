/-! floats: the other calls -/
theorem pr_slope {x1 : Int32} {F F' : Nat → Int32} {z : Nat → Int} {K : Int32 → Int32 → Prop} (h : rl 5 F F' z) (hK : ∀ r, K r r) : wp_X11_slope x1 F (nI (FP.Core.b32.p - 1)) (nI FP.Core.b32.emax) (nI (FP.Core.b32.exps - 1)) (lN (2 ^ sb FP.Core.b32)) (lN ((FP.Core.b32.exps - 1) * FP.Core.b32.tails)) (lN (FP.Core.encode FP.Core.b32 .nan)) (fun r => wp_X12_slope x1 F' (fun r2 => K r r2)) := by
  unfold wp_X11_slope wp_X11_floatPattern wp_X12_slope
  rw [fpat]
  refine wp_risingAt Fk32 (Pn_of Fk32 (show x1.toUInt32.toNat < 2 * 2 ^ 31 from x1.toUInt32.toNat_lt)) ?_
  intro w1 h1
  refine wp_slopeOf (rl_m h) (fun y hy => wp_f2b ?_)
  rw [hy, v32_al h1, lN_i, vlD_cg 4 (zeroD FP.Core.b32) (g := fun i => (nI (i + 1) * F (i + 1)).toInt) (h := fun i => (nI (i + 1) * fdI (z (i + 1))).toInt) (fun i hi => by rw [(h (i + 1) (by omega)).1])]
  exact hK _
theorem pr_cut {x1 : Int32} {F F' : Nat → Int32} {z : Nat → Int} {K : Int32 → Int32 → Prop} (h : rl 5 F F' z) (hK : ∀ r, K r r) : wp_X11_cut x1 F (nI (FP.Core.b32.p - 1)) (nI FP.Core.b32.emax) (nI (FP.Core.b32.exps - 1)) (lN (2 ^ sb FP.Core.b32)) (lN ((FP.Core.b32.exps - 1) * FP.Core.b32.tails)) (lN (FP.Core.encode FP.Core.b32 .nan)) (fun r => wp_X12_cut x1 F' (fun r2 => K r r2)) := by
  unfold wp_X11_cut wp_X11_floatPattern wp_X12_cut
  rw [fpat]
  refine wp_atPoint Fk32 (Pn_of Fk32 (show x1.toUInt32.toNat < 2 * 2 ^ 31 from x1.toUInt32.toNat_lt)) ?_
  refine wp_cutToInt Fk32 (by decide) (Pn_enc Fk32 (vlD_fits Fk32 5 _ (FP.Core.zero_fits FP.Core.good_b32 false))) ?_
  intro w1 h1
  refine wp_valueOf (rl_m h) (fun y hy => ?_)
  have e : FP.f2i y = FP.Core.toI (FP.Core.val32 y) := rfl
  rw [e, hy, v32_al h1, vlD_cg 5 (zeroD FP.Core.b32) (g := fun i => (F i).toInt) (h := fun i => (fdI (z i)).toInt) (fun i hi => by rw [(h i hi).1])]
  exact hK _
theorem pr_valued {x1 : Int64} {F F' : Nat → Int32} {z : Nat → Int} {K : Int64 → Int64 → Prop} (h : rl 5 F F' z) (hK : ∀ r, K r r) : wp_X11_valued x1 F (nI (FP.Core.b64.p - 1)) (nI FP.Core.b64.emax) (nI (FP.Core.b64.exps - 1)) (lN (2 ^ sb FP.Core.b64)) (lN ((FP.Core.b64.exps - 1) * FP.Core.b64.tails)) (lN (FP.Core.encode FP.Core.b64 .nan)) (fun r => wp_X12_valued x1 F' (fun r2 => K r r2)) := by
  unfold wp_X11_valued wp_X12_valued
  have e1 : x1 = lN x1.toUInt64.toNat := lBe (Nat.mod_eq_of_lt x1.toBitVec.isLt).symm
  have hP := Pn_of Fk64 (show x1.toUInt64.toNat < 2 * 2 ^ 63 from x1.toUInt64.toNat_lt)
  rw [← e1] at hP
  refine wp_atPoint Fk64 hP ?_
  intro w1 h1
  refine wp_valueIn (rl_m h) (fun y hy => wp_d2b ?_)
  rw [hy, v64_al h1, vlD_cg 5 (zeroD FP.Core.b64) (g := fun i => (F i).toInt) (h := fun i => (fdI (z i)).toInt) (fun i hi => by rw [(h i hi).1])]
  exact hK _
theorem wp_msteps {x1 : Int32} {n : Nat} {F' : Nat → Int32} {z : Nat → Int} {K : Int32 → Prop} (h : mA 5 F' z) (hn : n ≤ 20) (hK : K (nI (FP.Core.encode FP.Core.b32 (itD FP.Core.b32 (fun i => (fdI (z i)).toInt) (fun i => (nI (i + 1) * fdI (z (i + 1))).toInt) n (FP.Core.val32 x1.toUInt32))))) (w2 : UInt32) (h2 : alike32 w2 (x1.toUInt32) = true) : ∃ k21 : Nat, lp_X12_steps_21 x1 (nI n) F' (jn_X12_steps_47 x1 (nI n) F' K) K k21 w2 (0 : Int32) := by
  refine V_X12_steps_21 n (fun i g => FP.Core.val32 g = itD FP.Core.b32 (fun i => (fdI (z i)).toInt) (fun i => (nI (i + 1) * fdI (z (i + 1))).toInt) i (FP.Core.val32 x1.toUInt32)) (fun k g e => ?_) (fun k i g hi e ih => ?_) (i := 0) (Nat.zero_le _) (v32_al h2)
  · unfold lp_X12_steps_21 jn_X12_steps_47
    refine br_t (nle (Nat.le_refl n) (by omega)) (wp_f2b ?_)
    rw [e]
    exact hK
  · unfold lp_X12_steps_21
    refine br_f (ngt (b := n) hi (by omega)) (wp_valueOf h (fun y1 e1 => wp_slopeOf h (fun y2 e2 w3 h3 w4 h4 => ih _ ?_)))
    rw [itD_s, ← e, v32_al h4, show FP.Core.val32 (FP.fsub g w3) = _ from FP.Core.val32_fsub g w3, v32_al h3, show FP.Core.val32 (FP.fdiv y1 y2) = _ from FP.Core.val32_fdiv y1 y2, e1, e2]
    rfl
