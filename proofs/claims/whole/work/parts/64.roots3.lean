/-! roots gathered, roots told -/
def GI (z : Nat → Int) (t n : Nat) (ab be oft : Nat → Int32) : Prop := ∀ m, m < n → isRt z t m = true → ab (rcn z t m) = nI (rA m) ∧ be (rcn z t m) = nI (rC m) ∧ oft (rcn z t m) = nI (ho (rR m) t z)
theorem rcn_s (z : Nat → Int) (t n : Nat) : rcn z t (n + 1) = rcn z t n + (if isRt z t n = true then 1 else 0) := rfl
theorem rA_at {c a : Nat} (ha : a < 25) : rA (25 * c + a) = a := by unfold rA; omega
theorem rC_at {c a : Nat} (ha : a < 25) : rC (25 * c + a) = c + 1 := by unfold rC; omega
theorem wp_gatherRoots {t : Nat} {b A1 A2 A3 R : Nat → Int32} {z : Nat → Int} {K : Int32 → (Nat → Int32) → (Nat → Int32) → (Nat → Int32) → (Nat → Int32) → Prop} (ht : t ≤ 8) (h0 : ¬ cg (z t) 0) (hz : zab t z) (h : fA 9 b z) (hK : ∀ ab be oft R', GI z t 150 ab be oft → K (nI (rcn z t 150)) ab be oft R') : wp_X0_gatherRoots (nI t) b A1 A2 A3 R K := by
  unfold wp_X0_gatherRoots
  refine V_X0_gatherRoots_4 7 (fun c x1 ab be oft R' => 1 ≤ c ∧ nI (rcn z t (25 * (c - 1))) = x1 ∧ GI z t (25 * (c - 1)) ab be oft) (fun k x1 ab be oft R' e => ?_) (fun k c x1 ab be oft R' hc e ih => ?_) (i := 1) (by decide) ⟨Nat.le_refl 1, rfl, fun m hm => absurd hm (Nat.not_lt_zero m)⟩
  · obtain ⟨-, r1, e⟩ := e
    subst r1
    unfold lp_X0_gatherRoots_4
    exact br_t (nI_lt (a := 6) (by decide) (by decide)) (hK _ _ _ _ e)
  · obtain ⟨hc1, r1, e⟩ := e
    subst r1
    obtain ⟨c', rfl⟩ : ∃ c', c = c' + 1 := ⟨c - 1, by omega⟩
    rw [Nat.add_sub_cancel] at e ⊢
    unfold lp_X0_gatherRoots_4
    refine br_f (nI_nlt (a := 6) (by omega) (by decide)) ?_
    refine wp_inverse (z := ((c' + 1 : Nat) : Int)) (fdI_n (by omega)).symm ?_
    refine V_X0_gatherRoots_18 25 (fun a x1 x2 x3 ab be oft R' => nI (rcn z t (25 * c' + a)) = x1 ∧ nI (c' + 1) = x2 ∧ fdI (((c' + 1 : Nat) : Int) ^ 10005) = x3 ∧ GI z t (25 * c' + a) ab be oft) (fun k2 x1 x2 x3 ab be oft R' e2 => ?_) (fun k2 a x1 x2 x3 ab be oft R' ha e2 ih2 => ?_) (i := 0) (Nat.zero_le _) ⟨rfl, rfl, rfl, e⟩
    · obtain ⟨r1, r2, r3, e2⟩ := e2
      subst r1 r2 r3
      unfold lp_X0_gatherRoots_18
      refine br_t (nI_lt (a := 24) (by decide) (by decide)) ?_
      unfold jn_X0_gatherRoots_97
      refine ih _ _ _ _ _ ⟨by omega, ?_, ?_⟩
      · rw [Nat.add_sub_cancel, show 25 * (c' + 1) = 25 * c' + 25 by omega]
      · rw [Nat.add_sub_cancel, show 25 * (c' + 1) = 25 * c' + 25 by omega]
        exact e2
    · obtain ⟨r1, r2, r3, e2⟩ := e2
      subst r1 r2 r3
      have hlt : rcn z t (25 * c' + a) ≤ t := rcn_le ht h0 hz _ (by omega)
      have hlt2 : rcn z t (25 * c' + a + 1) ≤ t := rcn_le ht h0 hz _ (by omega)
      unfold lp_X0_gatherRoots_18
      refine br_f (nI_nlt (a := 24) (by omega) (by decide)) ?_
      -- no root here
      have no : isRt z t (25 * c' + a) ≠ true → ∀ R2, lp_X0_gatherRoots_18 (nI t) b (jn_X0_gatherRoots_97 (nI t) b (fun x1 x2 A_above A_below A_often A_rest => lp_X0_gatherRoots_4 (nI t) b K k x1 x2 A_above A_below A_often A_rest) K) K k2 (nI (rcn z t (25 * c' + a))) (nI (c' + 1)) (fdI (((c' + 1 : Nat) : Int) ^ 10005)) (nI a + 1) ab be oft R2 := by
        intro hn R2
        refine ih2 _ _ _ _ _ _ _ ⟨?_, rfl, rfl, fun m hm hr => ?_⟩
        · rw [← Nat.add_assoc, rcn_s, if_neg hn, Nat.add_zero]
        · refine e2 m ?_ hr
          by_cases c2 : m = 25 * c' + a
          · rw [c2] at hr
            exact absurd hr hn
          · omega
      refine wp_lowest ha (by omega) (by omega) (fun g => br_f (by decide) ?_) (fun g => br_t rfl ?_)
      · have e3 : ((-(nI a).toInt64) * (fdI (((c' + 1 : Nat) : Int) ^ 10005)).toInt64).toInt = -(a : Int) * (((c' + 1 : Nat) : Int) ^ 10005).bmod 10007 := by
          have hb := mb (X := 100) (Y := 5003) (x := -(a : Int)) (by omega) (fdI_b (((c' + 1 : Nat) : Int) ^ 10005))
          exact lm (lng (i2l_t (nI_t (by omega))) (by omega)) (i2l_t (fdI_t _)) (by omega)
        refine fd_long e3 (z := rR (25 * c' + a)) ?_ ?_
        · unfold rR
          rw [rA_at ha, rC_at ha, ← Int.neg_mul]
          exact cg.mul cg.rf (cg_bm _)
        refine wp_timesDivided ht h (fun R2 => ?_)
        unfold jn_X0_gatherRoots_52 jn_X0_gatherRoots_91
        have hho := ho_le (rR (25 * c' + a)) t z
        by_cases c2 : ho (rR (25 * c' + a)) t z = 0
        · refine br_t (by rw [c2]; decide) (no (fun hr => ?_) _)
          have := (isRt_iff.mp hr).2
          omega
        · refine br_f (nI_nle (by omega) (by omega)) ?_
          have hr : isRt z t (25 * c' + a) = true := isRt_iff.mpr ⟨by rw [rA_at ha, rC_at ha]; exact g, by omega⟩
          rw [rcn_s, if_pos hr] at hlt2
          refine br_f (ngt (b := 9) (by omega) (by decide)) ⟨vpn (by omega) (by decide), ?_⟩
          rw [cln (by omega), nI_1]
          refine ih2 _ _ _ _ _ _ _ ⟨?_, rfl, rfl, fun m hm hr2 => ?_⟩
          · rw [← Nat.add_assoc, rcn_s, if_pos hr]
          · by_cases c3 : m = 25 * c' + a
            · rw [c3, pk_us, pk_us, pk_us, rA_at ha, rC_at ha]
              exact ⟨rfl, rfl, rfl⟩
            · have h5 : rcn z t m ≠ rcn z t (25 * c' + a) := by
                have h6 := rcn_mono z t (n := m + 1) (m := 25 * c' + a) (by omega)
                rw [rcn_s, if_pos hr2] at h6
                omega
              rw [pk_un h5, pk_un h5, pk_un h5]
              exact e2 m (by omega) hr2
      · unfold jn_X0_gatherRoots_52 jn_X0_gatherRoots_91
        refine br_t (by decide) (no (fun hr => g ?_) _)
        have := (isRt_iff.mp hr).1
        rw [rA_at ha, rC_at ha] at this
        exact this
theorem wp_rootAt {x1 : Int32} {t : Nat} {B R : Nat → Int32} {z : Nat → Int} {K : Int32 → (Nat → Int32) → Prop} (ht : t ≤ 8) (h0 : ¬ cg (z t) 0) (hz : zab t z) (h : mA 9 B z) (hf : ∀ n, n < 150 → isRt z t n = true → nI (rcn z t n) = x1 → ∀ R', K (nI (6 * rA n + rC n - 1)) R') (hn : (∀ n, n < 150 → isRt z t n = true → ¬ nI (rcn z t n) = x1) → ∀ R', K (-1 - nI (rcn z t 150)) R') : wp_X12_rootAt x1 (nI t) B R K := by
  unfold wp_X12_rootAt
  refine V_X12_rootAt_4 7 (fun c x2 R' => 1 ≤ c ∧ nI (rcn z t (25 * (c - 1))) = x2 ∧ ∀ m, m < 25 * (c - 1) → isRt z t m = true → ¬ nI (rcn z t m) = x1) (fun k x2 R' e => ?_) (fun k c x2 R' hc e ih => ?_) (i := 1) (by decide) ⟨Nat.le_refl 1, rfl, fun m hm => absurd hm (Nat.not_lt_zero m)⟩
  · obtain ⟨-, r1, e⟩ := e
    subst r1
    unfold lp_X12_rootAt_4
    refine br_t (nI_lt (a := 6) (by decide) (by decide)) ?_
    unfold jn_X12_rootAt_78
    exact hn (fun n h1 h2 => e n h1 h2) _
  · obtain ⟨hc1, r1, e⟩ := e
    subst r1
    obtain ⟨c', rfl⟩ : ∃ c', c = c' + 1 := ⟨c - 1, by omega⟩
    rw [Nat.add_sub_cancel] at e ⊢
    unfold lp_X12_rootAt_4
    refine br_f (nI_nlt (a := 6) (by omega) (by decide)) ?_
    refine V_X12_rootAt_13 25 (fun a x2 x3 R' => nI (rcn z t (25 * c' + a)) = x2 ∧ nI (c' + 1) = x3 ∧ ∀ m, m < 25 * c' + a → isRt z t m = true → ¬ nI (rcn z t m) = x1) (fun k2 x2 x3 R' e2 => ?_) (fun k2 a x2 x3 R' ha e2 ih2 => ?_) (i := 0) (Nat.zero_le _) ⟨rfl, rfl, e⟩
    · obtain ⟨r1, r2, e2⟩ := e2
      subst r1 r2
      unfold lp_X12_rootAt_13
      refine br_t (nI_lt (a := 24) (by decide) (by decide)) ?_
      unfold jn_X12_rootAt_72
      refine ih _ _ ⟨by omega, ?_, ?_⟩
      · rw [Nat.add_sub_cancel, show 25 * (c' + 1) = 25 * c' + 25 by omega]
      · rw [Nat.add_sub_cancel, show 25 * (c' + 1) = 25 * c' + 25 by omega]
        exact e2
    · obtain ⟨r1, r2, e2⟩ := e2
      subst r1 r2
      unfold lp_X12_rootAt_13
      refine br_f (nI_nlt (a := 24) (by omega) (by decide)) (wp_divisor ha (by omega) ?_)
      unfold jn_X12_rootAt_66
      have no : isRt z t (25 * c' + a) ≠ true → ∀ R2, lp_X12_rootAt_13 x1 (nI t) B (jn_X12_rootAt_53 x1 (nI t) B K) (jn_X12_rootAt_72 x1 (nI t) B (fun x2 x3 A_rests => lp_X12_rootAt_4 x1 (nI t) B (jn_X12_rootAt_53 x1 (nI t) B K) (jn_X12_rootAt_78 x1 (nI t) B K) K k x2 x3 A_rests) (jn_X12_rootAt_53 x1 (nI t) B K) (jn_X12_rootAt_78 x1 (nI t) B K) K) K k2 (nI (rcn z t (25 * c' + a))) (nI (c' + 1)) (nI a + 1) R2 := by
        intro hn2 R2
        refine ih2 _ _ _ ⟨?_, rfl, fun m hm hr => ?_⟩
        · rw [← Nat.add_assoc, rcn_s, if_neg hn2, Nat.add_zero]
        · refine e2 m ?_ hr
          by_cases c2 : m = 25 * c' + a
          · rw [c2] at hr
            exact absurd hr hn2
          · omega
      have hgb : Nat.gcd a (c' + 1) ≤ 6 := Nat.le_trans (Nat.le_of_dvd (by omega) (Nat.gcd_dvd_right a (c' + 1))) (by omega)
      by_cases g : Nat.gcd a (c' + 1) = 1
      · refine rb_t (by rw [g]; rfl) (wp_minverse (z := ((c' + 1 : Nat) : Int)) (mdI_n (by omega)).symm ?_)
        rw [← mdI_n (n := a) (by omega), md_mul]
        refine wp_howOften (r := rR (25 * c' + a)) ht h hz ?_ (fun R2 => ?_)
        · unfold rR
          rw [rA_at ha, rC_at ha]
          exact cg.rf
        rw [mdI_n (n := a) (by omega)]
        have hho := ho_le (rR (25 * c' + a)) t z
        by_cases c2 : ho (rR (25 * c' + a)) t z = 0
        · refine br_t (by rw [c2]; decide) (no (fun hr => ?_) _)
          have := (isRt_iff.mp hr).2
          omega
        · refine br_f (nI_nle (by omega) (by omega)) ?_
          have hr : isRt z t (25 * c' + a) = true := isRt_iff.mpr ⟨by rw [rA_at ha, rC_at ha]; exact g, by omega⟩
          refine ⟨fun q => ?_, fun q => ?_⟩
          · rw [nI_1]
            refine ih2 _ _ _ ⟨?_, rfl, fun m hm hr2 => ?_⟩
            · rw [← Nat.add_assoc, rcn_s, if_pos hr]
            · by_cases c3 : m = 25 * c' + a
              · rw [c3]
                exact q
              · exact e2 m (by omega) hr2
          · unfold jn_X12_rootAt_53
            have e4 : (6 : Int32) * nI a + nI (c' + 1) - 1 = nI (6 * rA (25 * c' + a) + rC (25 * c' + a) - 1) := by
              rw [rA_at ha, rC_at ha, show (6 : Int32) = nI 6 from rfl, pk_mul, nI_add, sub1 (by omega)]
            rw [e4]
            exact hf _ (by omega) hr q _
      · refine rb_f (fun q => g ((nI_eq (b := 1) (by omega) (by decide)).mp q)) (no (fun hr => g ?_) _)
        have := (isRt_iff.mp hr).1
        rw [rA_at ha, rC_at ha] at this
        exact this
theorem mon.t {z : Nat → Int} {fB : Int32} (h : mon z fB) : ∃ t : Nat, t ≤ 8 ∧ fB = nI t ∧ ¬ cg (z t) 0 ∧ zab t z := by
  obtain ⟨t, h1, h2, h3, h4⟩ := h
  exact ⟨t, h1, h2, fun h => cg_10 (h3.sy.tr h), h4⟩
theorem fnd.top {top isF fB : Int32} (h : fnd top isF fB) (q : ¬ isF = 0) : top = fB := by
  rcases h with ⟨_, h⟩ | ⟨t, _, h2, _, h4⟩
  · exact absurd h q
  · rw [h2, h4]
theorem m1_m1 (n : Nat) : (-1 : Int32) - (-1 - nI n) = nI n := by
  rw [Int32.sub_eq_add_neg, Int32.sub_eq_add_neg, Int32.neg_add, Int32.neg_neg, Int32.sub_eq_add_neg, Int32.neg_neg, ← Int32.add_assoc, show (-1 : Int32) + 1 = 0 from rfl, Int32.zero_add]
theorem pr_roots {top isF fB : Int32} {b A1 A2 A3 A4 b' R : Nat → Int32} {z : Nat → Int} {K : Int32 → (Nat → Int32) → (Nat → Int32) → (Nat → Int32) → (Nat → Int32) → Int32 → (Nat → Int32) → Prop} (hfn : fnd top isF fB) (hb : ¬ isF = 0 → rl 9 b b' z ∧ mon z fB) (hK : ∀ r a b c d e, K r a b c d r e) : wp_X11_roots top b A1 A2 A3 A4 (fun r a b c d => wp_X12_roots isF fB b' R (fun r2 e => K r a b c d r2 e)) := by
  unfold wp_X11_roots
  refine wp_isThere hfn ⟨fun q => ?_, fun q => ?_⟩
  · unfold wp_X12_roots
    exact br_t q (hK _ _ _ _ _ _)
  · obtain ⟨hz, hm⟩ := hb q
    obtain ⟨t, ht, rfl, h0, hzz⟩ := hm.t
    rw [hfn.top q]
    refine wp_gatherRoots ht h0 hzz (rl_iff.mp hz).1 (fun ab be oft R' hG => ?_)
    have hr := rcn_le ht h0 hzz 150 (Nat.le_refl 150)
    unfold wp_X12_roots
    refine br_f q (wp_rootAt ht h0 hzz (rl_iff.mp hz).2 (fun n h1 h2 h3 R2 => ?_) (fun _ R2 => ?_))
    · have h4 := rcn_mono z t (n := n) (m := 150) (by omega)
      exact absurd h3 (nI_ne_m1 (by omega))
    · rw [m1_m1]
      exact hK _ _ _ _ _ _
theorem pr_root {x1 x2 top isF fB : Int32} {b A1 A2 A3 A4 b' R : Nat → Int32} {z : Nat → Int} {K : Int32 → (Nat → Int32) → (Nat → Int32) → (Nat → Int32) → (Nat → Int32) → Int32 → (Nat → Int32) → Prop} (hfn : fnd top isF fB) (hb : ¬ isF = 0 → rl 9 b b' z ∧ mon z fB) (hK : ∀ r a b c d e, K r a b c d r e) : wp_X11_root x1 x2 top b A1 A2 A3 A4 (fun r a b c d => wp_X12_root x1 x2 isF fB b' R (fun r2 e => K r a b c d r2 e)) := by
  unfold wp_X11_root
  refine wp_isThere hfn ⟨fun q => ?_, fun q => ?_⟩
  · obtain ⟨hz, hm⟩ := hb q
    obtain ⟨t, ht, rfl, h0, hzz⟩ := hm.t
    rw [hfn.top q]
    refine wp_gatherRoots ht h0 hzz (rl_iff.mp hz).1 (fun ab be oft R' hG => ?_)
    have hr := rcn_le ht h0 hzz 150 (Nat.le_refl 150)
    refine wp_within ⟨fun q2 => ?_, fun q2 => ?_⟩
    · obtain ⟨i, hi, rfl⟩ := btw_sm (by omega) q2
      -- the model's answer
      have key : ∀ r : Int32, (∀ n, n < 150 → isRt z t n = true → rcn z t n = i → (x2 = 0 ∧ r = nI (rA n)) ∨ (x2 = 1 ∧ r = nI (rC n)) ∨ (x2 = 2 ∧ r = nI (ho (rR n) t z)) ∨ (¬ x2 = 0 ∧ ¬ x2 = 1 ∧ ¬ x2 = 2 ∧ r = -1)) → ∀ (K2 : Int32 → (Nat → Int32) → Prop), (∀ R2, K2 r R2) → wp_X12_root (nI i) x2 isF (nI t) b' R K2 := by
        intro r hr2 K2 hK2
        unfold wp_X12_root
        refine rb_f q (br_t (nI_pos' (by omega)) (wp_rootAt ht h0 hzz (rl_iff.mp hz).2 (fun n h1 h2 h3 R2 => ?_) (fun h1 R2 => ?_)))
        · have h4 := rcn_mono z t (n := n) (m := 150) (by omega)
          have e : rcn z t n = i := (nI_eq (by omega) (by omega)).mp h3
          have a1 : rA n < 25 := Nat.mod_lt n (by decide)
          have c1 : 1 ≤ rC n ∧ rC n ≤ 6 := by unfold rC; omega
          unfold jn_X12_root_23
          refine br_f (nlt0 (by omega)) ?_
          have ea : nI (6 * rA n + rC n - 1) / (6 : Int32) = nI (rA n) := by
            rw [show (6 : Int32) = nI 6 from rfl, pk_div (by omega) (by decide) (by decide)]
            congr 1
            omega
          have ec : nI (6 * rA n + rC n - 1) - nI (6 * rA n + rC n - 1) / (6 : Int32) * (6 : Int32) + 1 = nI (rC n) := by
            rw [show (6 : Int32) = nI 6 from rfl, pk_rem (by omega) (by decide) (by decide), nI_1]
            congr 1
            omega
          rw [ec, ea]
          rcases hr2 n h1 h2 e with ⟨rfl, d2⟩ | ⟨rfl, d2⟩ | ⟨rfl, d2⟩ | ⟨d1, d3, d4, d2⟩
          · refine wp_isIn (rb_f (by decide) (fun y2 q2 y3 q3 => rb_t rfl ?_))
            rw [q2, ← d2]
            exact hK2 _
          · refine wp_isIn (rb_f (by decide) (fun y2 q2 y3 q3 => rb_f (by decide) (rb_t rfl ?_)))
            rw [q3, ← d2]
            exact hK2 _
          · refine wp_isIn (rb_f (by decide) (fun y2 q2 y3 q3 => rb_f (by decide) (rb_f (by decide) ?_)))
            rw [q2, q3]
            refine wp_minverse (z := (rC n : Int)) (mdI_n (by omega)).symm ?_
            rw [← mdI_n (n := rA n) (by omega), md_mul]
            refine wp_howOften (r := rR n) ht (rl_iff.mp hz).2 hzz cg.rf (fun R3 => ?_)
            rw [← d2]
            exact hK2 _
          · refine wp_isIn (rb_t ?_ ?_)
            · rw [btw_0]
              intro hq
              have b1 := Int32.le_iff_toInt_le.mp hq.1
              have b2 := Int32.le_iff_toInt_le.mp hq.2
              have k0 : (0 : Int32).toInt = 0 := rfl
              have k2 : (2 : Int32).toInt = 2 := rfl
              have n0 : x2.toInt ≠ 0 := fun e => d1 (ieq e)
              have n1 : x2.toInt ≠ 1 := fun e => d3 (ieq e)
              have n2 : x2.toInt ≠ 2 := fun e => d4 (ieq e)
              omega
            · rw [← d2]
              exact hK2 _
        · obtain ⟨n, h2, h3, h4⟩ := rcn_find z t hi
          exact absurd (by rw [h4]) (h1 n h2 h3)
      have gi : ∃ n, n < 150 ∧ isRt z t n = true ∧ rcn z t n = i := rcn_find z t hi
      obtain ⟨n0, p1, p2, p3⟩ := gi
      have hG0 := hG n0 p1 p2
      rw [p3] at hG0
      have uni : ∀ n, n < 150 → isRt z t n = true → rcn z t n = i → n = n0 := by
        intro n h1 h2 h3
        rcases Nat.lt_trichotomy n n0 with g | g | g
        · have h6 := rcn_mono z t (n := n + 1) (m := n0) (by omega)
          rw [rcn_s, if_pos h2] at h6
          omega
        · exact g
        · have h6 := rcn_mono z t (n := n0 + 1) (m := n) (by omega)
          rw [rcn_s, if_pos p2] at h6
          omega
      rw [cln (by omega)]
      refine ⟨fun d => ⟨vpn (by omega) (by decide), ?_⟩, fun d => ⟨vpn (by omega) (by decide), ?_⟩, fun d => ⟨vpn (by omega) (by decide), ?_⟩, fun d1 d2 d3 => ?_⟩
      · exact key _ (fun n h1 h2 h3 => Or.inl ⟨d, by rw [uni n h1 h2 h3]; exact hG0.1⟩) _ (fun R2 => hK _ _ _ _ _ _)
      · exact key _ (fun n h1 h2 h3 => Or.inr (Or.inl ⟨d, by rw [uni n h1 h2 h3]; exact hG0.2.1⟩)) _ (fun R2 => hK _ _ _ _ _ _)
      · exact key _ (fun n h1 h2 h3 => Or.inr (Or.inr (Or.inl ⟨d, by rw [uni n h1 h2 h3]; exact hG0.2.2⟩))) _ (fun R2 => hK _ _ _ _ _ _)
      · exact key _ (fun n h1 h2 h3 => Or.inr (Or.inr (Or.inr ⟨d1, d2, d3, rfl⟩))) _ (fun R2 => hK _ _ _ _ _ _)
    · unfold wp_X12_root
      refine rb_f q ?_
      have end_ : ∀ (s0 : Int32) (R2 : Nat → Int32), s0 < 0 → jn_X12_root_23 x1 x2 isF (nI t) b' (fun r2 e => K (-1) ab be oft R' r2 e) s0 R2 := by
        intro s0 R2 hs
        unfold jn_X12_root_23
        exact br_t hs (hK _ _ _ _ _ _)
      refine ⟨fun q3 => wp_rootAt ht h0 hzz (rl_iff.mp hz).2 (fun n h1 h2 h3 R2 => ?_) (fun h1 R2 => end_ _ _ ?_), fun q3 => end_ _ _ (by decide)⟩
      · exfalso
        have h6 := rcn_mono z t (n := n + 1) (m := 150) (by omega)
        rw [rcn_s, if_pos h2] at h6
        refine absurd q2 ?_
        rw [btw_0, ← h3]
        intro hx
        refine hx ⟨nI_pos' (by omega), ?_⟩
        rw [sub1 (by omega)]
        exact nle (by omega) (by omega)
      · rw [Int32.lt_iff_toInt_lt, is' (x := -1) rfl (nI_t (by omega)) (by omega), show (0 : Int32).toInt = 0 from rfl]
        omega
  · unfold wp_X12_root
    exact rb_t q (hK _ _ _ _ _ _)
