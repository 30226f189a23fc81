/-! floats: the model's values -/
theorem v32_nan {b : UInt32} (h : isNaN32 b = true) : FP.Core.val32 b = .nan := by
  have h1 := isNaN32_iff.mp h
  have hb := b.toNat_lt
  have e0 : b.toNat &&& 0x7fffffff = b.toNat % 2 ^ 31 := Nat.and_two_pow_sub_one_eq_mod b.toNat 31
  rw [e0] at h1
  obtain ⟨s, m, hm, ex, cx⟩ := Pn_of Fk32 (n := b.toNat) (show b.toNat < 2 * 2 ^ 31 by omega)
  have hm2 : m < 2 ^ 31 := hm
  have h2 : b.toNat = sg s 31 + m := by
    have := sg_le s 31
    have h3 : sg s (sb FP.Core.b32) = sg s 31 := rfl
    rw [h3] at ex
    exact (lN_inj (by omega) (by omega)).mp ex
  rw [h2, sg_mag hm2] at h1
  exact cx.nan h1
theorem v64_nan {b : UInt64} (h : isNaN64 b = true) : FP.Core.val64 b = .nan := by
  have h1 := isNaN64_iff.mp h
  have hb := b.toNat_lt
  have e0 : b.toNat &&& 0x7fffffffffffffff = b.toNat % 2 ^ 63 := Nat.and_two_pow_sub_one_eq_mod b.toNat 63
  rw [e0] at h1
  obtain ⟨s, m, hm, ex, cx⟩ := Pn_of Fk64 (n := b.toNat) (show b.toNat < 2 * 2 ^ 63 by omega)
  have hm2 : m < 2 ^ 63 := hm
  have h2 : b.toNat = sg s 63 + m := by
    have := sg_le s 63
    have h3 : sg s (sb FP.Core.b64) = sg s 63 := rfl
    rw [h3] at ex
    exact (lN_inj (by omega) (by omega)).mp ex
  rw [h2, sg_mag hm2] at h1
  exact cx.nan h1
theorem v32_al {w u : UInt32} (h : alike32 w u = true) : FP.Core.val32 w = FP.Core.val32 u := by
  unfold alike32 at h
  rcases (Bool.or_eq_true _ _).mp h with h | h
  · rw [of_decide_eq_true h]
  · have h2 := (Bool.and_eq_true _ _).mp h
    rw [v32_nan h2.1, v32_nan h2.2]
theorem v64_al {w u : UInt64} (h : alike64 w u = true) : FP.Core.val64 w = FP.Core.val64 u := by
  unfold alike64 at h
  rcases (Bool.or_eq_true _ _).mp h with h | h
  · rw [of_decide_eq_true h]
  · have h2 := (Bool.and_eq_true _ _).mp h
    rw [v64_nan h2.1, v64_nan h2.2]
theorem vlD_cg {f : FP.Core.Fmt} {dx : FP.Core.Datum} {g h : Nat → Int} : ∀ (n : Nat) (D : FP.Core.Datum), (∀ i, i < n → g i = h i) → vlD f dx g n D = vlD f dx h n D
  | 0, _, _ => rfl
  | n + 1, D, q => by
    show vlD f dx g n (stp f dx D (g n)) = vlD f dx h n (stp f dx D (h n))
    rw [q n (by omega)]
    exact vlD_cg n _ (fun i hi => q i (by omega))
theorem wp_valueOf {w : UInt32} {B : Nat → Int32} {z : Nat → Int} {K : UInt32 → Prop} (hB : mA 5 B z) (hK : ∀ y, FP.Core.val32 y = vlD FP.Core.b32 (FP.Core.val32 w) (fun i => (fdI (z i)).toInt) 5 (zeroD FP.Core.b32) → K y) : wp_X12_valueOf w B K := by
  unfold wp_X12_valueOf
  intro y1 hy
  subst hy
  refine V_X12_valueOf_4 (fun i g => i ≤ 5 ∧ vlD FP.Core.b32 (FP.Core.val32 w) (fun i => (fdI (z i)).toInt) i (FP.Core.val32 g) = vlD FP.Core.b32 (FP.Core.val32 w) (fun i => (fdI (z i)).toInt) 5 (zeroD FP.Core.b32)) (fun k g e => ?_) (fun k i g e ih => ?_) (n := 4) ⟨Nat.le_refl 5, rfl⟩
  · unfold lp_X12_valueOf_4 jn_X12_valueOf_29
    exact br_t (by decide) (hK g e.2)
  · obtain ⟨hi, e⟩ := e
    unfold lp_X12_valueOf_4
    refine br_f (nlt0 (by omega)) (fun w1 h1 => ⟨vpn (by omega) (by decide), ?_⟩)
    rw [cln (by omega), hB.g i (by omega)]
    refine wp_signed (fun w4 h4 => ih _ ⟨by omega, ?_⟩)
    rw [v32_al h4, FP.Core.val32_fadd, v32_al h1, FP.Core.val32_fmul, FP.Core.val32_i2f]
    exact e
theorem wp_slopeOf {w : UInt32} {B : Nat → Int32} {z : Nat → Int} {K : UInt32 → Prop} (hB : mA 5 B z) (hK : ∀ y, FP.Core.val32 y = vlD FP.Core.b32 (FP.Core.val32 w) (fun i => (nI (i + 1) * fdI (z (i + 1))).toInt) 4 (zeroD FP.Core.b32) → K y) : wp_X12_slopeOf w B K := by
  unfold wp_X12_slopeOf
  intro y1 hy
  subst hy
  refine V_X12_slopeOf_4 (fun i g => i ≤ 4 ∧ vlD FP.Core.b32 (FP.Core.val32 w) (fun i => (nI (i + 1) * fdI (z (i + 1))).toInt) i (FP.Core.val32 g) = vlD FP.Core.b32 (FP.Core.val32 w) (fun i => (nI (i + 1) * fdI (z (i + 1))).toInt) 4 (zeroD FP.Core.b32)) (fun k g e => ?_) (fun k i g e ih => ?_) (n := 4) ⟨Nat.le_refl 4, rfl⟩
  · unfold lp_X12_slopeOf_4 jn_X12_slopeOf_31
    exact br_t (by decide) (hK g e.2)
  · obtain ⟨hi, e⟩ := e
    unfold lp_X12_slopeOf_4
    refine br_f (nle0 (by omega) (by omega)) (fun w1 h1 => ⟨vpn (by omega) (by decide), ?_⟩)
    rw [cln (by omega), hB.g (i + 1) (by omega)]
    refine wp_signed (fun w4 h4 => ih _ ⟨by omega, ?_⟩)
    rw [v32_al h4, FP.Core.val32_fadd, v32_al h1, FP.Core.val32_fmul, FP.Core.val32_i2f]
    exact e
theorem wp_valueIn {w : UInt64} {B : Nat → Int32} {z : Nat → Int} {K : UInt64 → Prop} (hB : mA 5 B z) (hK : ∀ y, FP.Core.val64 y = vlD FP.Core.b64 (FP.Core.val64 w) (fun i => (fdI (z i)).toInt) 5 (zeroD FP.Core.b64) → K y) : wp_X12_valueIn w B K := by
  unfold wp_X12_valueIn
  intro y1 hy
  subst hy
  refine V_X12_valueIn_5 (fun i g => i ≤ 5 ∧ vlD FP.Core.b64 (FP.Core.val64 w) (fun i => (fdI (z i)).toInt) i (FP.Core.val64 g) = vlD FP.Core.b64 (FP.Core.val64 w) (fun i => (fdI (z i)).toInt) 5 (zeroD FP.Core.b64)) (fun k g e => ?_) (fun k i g e ih => ?_) (n := 4) ⟨Nat.le_refl 5, rfl⟩
  · unfold lp_X12_valueIn_5 jn_X12_valueIn_32
    exact br_t (by decide) (hK g e.2)
  · obtain ⟨hi, e⟩ := e
    unfold lp_X12_valueIn_5
    refine br_f (nlt0 (by omega)) (fun w1 h1 => ⟨vpn (by omega) (by decide), ?_⟩)
    rw [cln (by omega), hB.g i (by omega)]
    refine wp_signed (fun w4 h4 => ih _ ⟨by omega, ?_⟩)
    rw [v64_al h4, FP.Core.val64_dadd, v64_al h1, FP.Core.val64_dmul, FP.Core.val64_i2d]
    exact e
