/-! floats: bits in, bits out -/
theorem k32_2 : ((((1 : Int32) <<< ((8 : Int32) &&& 31)) - (1 : Int32)) / (2 : Int32)) = nI FP.Core.b32.emax := by decide +kernel
theorem k32_3 : (((1 : Int32) <<< ((8 : Int32) &&& 31)) - (1 : Int32)) = nI (FP.Core.b32.exps - 1) := by decide +kernel
theorem k32_4 : ((1 : Int64) <<< (((23 : Int32) + (8 : Int32)).toInt64 &&& 63)) = lN (2 ^ sb FP.Core.b32) := by decide +kernel
theorem k32_5 : (((((1 : Int32) <<< ((8 : Int32) &&& 31)) - (1 : Int32)).toInt64) <<< ((23 : Int32).toInt64 &&& 63)) = lN ((FP.Core.b32.exps - 1) * FP.Core.b32.tails) := by decide +kernel
theorem k32_6 : ((((((1 : Int32) <<< ((8 : Int32) &&& 31)) - (1 : Int32)).toInt64) <<< ((23 : Int32).toInt64 &&& 63)) ||| ((1 : Int64) <<< (((23 : Int32) - (1 : Int32)).toInt64 &&& 63))) = lN (FP.Core.encode FP.Core.b32 .nan) := by decide +kernel
theorem k64_2 : ((((1 : Int32) <<< ((11 : Int32) &&& 31)) - (1 : Int32)) / (2 : Int32)) = nI FP.Core.b64.emax := by decide +kernel
theorem k64_3 : (((1 : Int32) <<< ((11 : Int32) &&& 31)) - (1 : Int32)) = nI (FP.Core.b64.exps - 1) := by decide +kernel
theorem k64_4 : ((1 : Int64) <<< (((52 : Int32) + (11 : Int32)).toInt64 &&& 63)) = lN (2 ^ sb FP.Core.b64) := by decide +kernel
theorem k64_5 : (((((1 : Int32) <<< ((11 : Int32) &&& 31)) - (1 : Int32)).toInt64) <<< ((52 : Int32).toInt64 &&& 63)) = lN ((FP.Core.b64.exps - 1) * FP.Core.b64.tails) := by decide +kernel
theorem k64_6 : ((((((1 : Int32) <<< ((11 : Int32) &&& 31)) - (1 : Int32)).toInt64) <<< ((52 : Int32).toInt64 &&& 63)) ||| ((1 : Int64) <<< (((52 : Int32) - (1 : Int32)).toInt64 &&& 63))) = lN (FP.Core.encode FP.Core.b64 .nan) := by decide +kernel
theorem fpat (x : Int32) : x.toInt64 &&& (4294967295 : Int64) = lN x.toUInt32.toNat := by
  have e1 : x.toInt64 = lN (x.toInt64.toBitVec.toNat) := lBe (Nat.mod_eq_of_lt x.toInt64.toBitVec.isLt).symm
  rw [e1, show (4294967295 : Int64) = lN (2 ^ 32 - 1) from rfl, lN_mask]
  congr 1
  have e2 : x.toInt64.toBitVec = x.toBitVec.signExtend 64 := rfl
  have e3 : x.toUInt32.toNat = x.toBitVec.toNat := rfl
  have hb := x.toBitVec.isLt
  rw [e2, e3, BitVec.toNat_signExtend]
  split <;> simp <;> omega
theorem fc_self (d : FP.Core.Datum) : FP.Core.order d d = if d = .nan then none else some .eq := by
  cases d <;> simp [FP.Core.order]
theorem wp_f2b {y : UInt32} {K : Int32 → Prop} (hK : K (nI (FP.Core.encode FP.Core.b32 (FP.Core.val32 y)))) : wp_Jxf58ca_floatToIntBits_5c35a y K := by
  unfold wp_Jxf58ca_floatToIntBits_5c35a wp_Jxf58ca_isNaN_12338
  have e : FP.fcmp y y = if FP.Core.val32 y = .nan then none else some .eq := fc_self _
  by_cases h : FP.Core.val32 y = .nan
  · rw [if_pos h] at e
    rw [e]
    refine br_f (by decide) ⟨fun _ => ?_, fun q => absurd q (by decide)⟩
    rw [h] at hK
    exact hK
  · rw [if_neg h] at e
    rw [e]
    have e1 := FP.Core.toNat_of32 (FP.Core.val32_fits y)
    rw [FP.Core.of32_val32 h] at e1
    rw [← e1] at hK
    refine br_t (by decide) ⟨fun q => absurd rfl q, fun _ => ?_⟩
    have e2 : y.toInt32 = nI y.toNat := Int32.toBitVec_inj.mp (BitVec.eq_of_toNat_eq (by
      show y.toBitVec.toNat = (BitVec.ofNat 32 y.toNat).toNat
      rw [BitVec.toNat_ofNat]
      exact (Nat.mod_eq_of_lt y.toBitVec.isLt).symm))
    rw [e2]
    exact hK
theorem wp_d2b {y : UInt64} {K : Int64 → Prop} (hK : K (lN (FP.Core.encode FP.Core.b64 (FP.Core.val64 y)))) : wp_Jxe99ae_doubleToLongBits_ccdee y K := by
  unfold wp_Jxe99ae_doubleToLongBits_ccdee wp_Jxe99ae_isNaN_b9ae7
  have e : FP.dcmp y y = if FP.Core.val64 y = .nan then none else some .eq := fc_self _
  by_cases h : FP.Core.val64 y = .nan
  · rw [if_pos h] at e
    rw [e]
    refine br_f (by decide) ⟨fun _ => ?_, fun q => absurd q (by decide)⟩
    rw [h] at hK
    exact hK
  · rw [if_neg h] at e
    rw [e]
    have e1 := FP.Core.toNat_of64 (FP.Core.val64_fits y)
    rw [FP.Core.of64_val64 h] at e1
    rw [← e1] at hK
    refine br_t (by decide) ⟨fun q => absurd rfl q, fun _ => ?_⟩
    have e2 : y.toInt64 = lN y.toNat := lBe (Nat.mod_eq_of_lt y.toBitVec.isLt).symm
    rw [e2]
    exact hK
theorem rl_m {n : Nat} {A B : Nat → Int32} {z : Nat → Int} (h : rl n A B z) : mA n B z := (rl_iff.mp h).2
theorem pr_value {x1 : Int32} {F F' : Nat → Int32} {z : Nat → Int} {K : Int32 → Int32 → Prop} (h : rl 5 F F' z) (hK : ∀ r, K r r) : wp_X11_value x1 F (nI (FP.Core.b32.p - 1)) (nI FP.Core.b32.emax) (nI (FP.Core.b32.exps - 1)) (lN (2 ^ sb FP.Core.b32)) (lN ((FP.Core.b32.exps - 1) * FP.Core.b32.tails)) (lN (FP.Core.encode FP.Core.b32 .nan)) (fun r => wp_X12_value x1 F' (fun r2 => K r r2)) := by
  unfold wp_X11_value wp_X11_floatPattern wp_X12_value
  rw [fpat]
  refine wp_atPoint Fk32 (Pn_of Fk32 (show x1.toUInt32.toNat < 2 * 2 ^ 31 from x1.toUInt32.toNat_lt)) ?_
  intro w1 h1
  refine wp_valueOf (rl_m h) (fun y hy => wp_f2b ?_)
  rw [hy, v32_al h1, lN_i, vlD_cg 5 (zeroD FP.Core.b32) (g := fun i => (F i).toInt) (h := fun i => (fdI (z i)).toInt) (fun i hi => by rw [(h i hi).1])]
  exact hK _
