/-! polynomials of x and s: times F, derivatives, WORK -/
def mg (f : Nat → Int) (Z : Nat → Nat → Int) : Nat → Nat → Int := fun u v => sm (fun i => if i ≤ u then f i * Z (u - i) v else 0) 5
def mgk (f : Nat → Int) : Nat → (Nat → Nat → Int) → Nat → Nat → Int
  | 0, Z => Z
  | e + 1, Z => mg f (mgk f e Z)
def shz (i j : Nat) (Z : Nat → Nat → Int) : Nat → Nat → Int := fun u v => if i ≤ u ∧ j ≤ v then Z (u - i) (v - j) else 0
/-- derivative: from k to k and 1 -/
def dv (f : Nat → Int) (k : Nat) (Z : Nat → Nat → Int) : Nat → Nat → Int := fun u v =>
  sm (fun i => if i ≤ u + 1 then f i * ((((u + 1 - i : Nat) : Int) + (i : Int) * (1 - (k : Int))) * Z (u + 1 - i) v + (i : Int) * (if v = 0 then 0 else Z (u + 1 - i) (v - 1))) else 0) 5
def DD (f : Nat → Int) : Nat → Nat → Nat → Int
  | 0 => fun u v => if u = 0 ∧ v = 0 then 1 else 0
  | k + 1 => dv f k (DD f k)
theorem DD_z (f : Nat → Int) : ∀ k u v : Nat, 3 * k < u ∨ k < v → DD f k u v = 0
  | 0, u, v, h => if_neg (by omega)
  | k + 1, u, v, h => by
    show dv f k (DD f k) u v = 0
    unfold dv
    refine sm_z (fun i hi => ?_)
    by_cases e : i ≤ u + 1
    · rw [if_pos e, DD_z f k (u + 1 - i) v (by omega), Int.mul_zero, Int.zero_add]
      by_cases e2 : v = 0
      · rw [if_pos e2, Int.mul_zero, Int.mul_zero]
      · rw [if_neg e2, DD_z f k (u + 1 - i) (v - 1) (by omega), Int.mul_zero, Int.mul_zero]
    · rw [if_neg e]
theorem at9 (u v : Nat) : nI u * (9 : Int32) + nI v = nI (9 * u + v) := by
  rw [show (9 : Int32) = nI 9 from rfl, pk_mul, nI_add, Nat.mul_comm u 9]
theorem at9' (u v : Nat) : (9 : Int32) * nI u + nI v = nI (9 * u + v) := by
  rw [show (9 : Int32) = nI 9 from rfl, pk_mul, nI_add]
/-- times F: the class -/
theorem wp_multiplyGrid {A F : Nat → Int32} {Z : Nat → Nat → Int} {f : Nat → Int} {K : (Nat → Int32) → Prop} (h : fG 9 25 A Z) (hf : fA 5 F f) (hK : ∀ A', fG 9 25 A' (mg f Z) → K A') : wp_X2_multiplyGrid A F K := by
  unfold wp_X2_multiplyGrid
  refine V_X2_multiplyGrid_3 (fun n g => n ≤ 25 ∧ fG 9 25 g (fun u v => if u < n then Z u v else mg f Z u v)) (fun k g e => ?_) (fun k i g e ih => ?_) (n := 24) ⟨by decide, h.ex (fun u v hu hv => by rw [if_pos hu])⟩
  · unfold lp_X2_multiplyGrid_3
    exact br_t (by decide) (hK _ (e.2.ex (fun u v hu hv => if_neg (by omega))))
  · obtain ⟨hi, e⟩ := e
    unfold lp_X2_multiplyGrid_3
    refine br_f (nlt0 (by omega)) ?_
    refine V_X2_multiplyGrid_9 9 (fun v a g => nI i = a ∧ fG 9 25 g (fun u' v' => if u' < i ∨ (u' = i ∧ v ≤ v') then Z u' v' else mg f Z u' v')) (fun k2 a g2 e2 => ?_) (fun k2 v a g2 hv e2 ih2 => ?_) (i := 0) (Nat.zero_le _) ⟨rfl, e.ex (fun u v hu hv => ?_)⟩
    · obtain ⟨r1, e2⟩ := e2
      subst r1
      unfold lp_X2_multiplyGrid_9
      refine br_t (nle (Nat.le_refl 9) (by decide)) ?_
      unfold jn_X2_multiplyGrid_81
      refine ih _ ⟨by omega, e2.ex (fun u v hu hv => ?_)⟩
      by_cases q : u < i
      · rw [if_pos q, if_pos (Or.inl q)]
      · rw [if_neg q, if_neg (by omega)]
    · obtain ⟨r1, e2⟩ := e2
      subst r1
      unfold lp_X2_multiplyGrid_9
      refine br_f (ngt (b := 9) hv (by decide)) ?_
      have hN : ∃ N : Nat, N ≤ 5 ∧ N ≤ i + 1 ∧ (N = 5 ∨ N = i + 1) := by
        by_cases e5 : i < 4
        · exact ⟨i + 1, by omega, by omega, Or.inr rfl⟩
        · exact ⟨5, by omega, by omega, Or.inl rfl⟩
      obtain ⟨N, hN1, hN2, hN3⟩ := hN
      have tb : ∀ j, j < 5 → -25030009 ≤ (f j).bmod 10007 * (Z (i - j) v).bmod 10007 ∧ (f j).bmod 10007 * (Z (i - j) v).bmod 10007 ≤ 25030009 := fun j _ => bb _ _
      have fin : ∀ x3 : Int64, x3.toInt = sm (fun j => (f j).bmod 10007 * (Z (i - j) v).bmod 10007) N → jn_X2_multiplyGrid_62 F (fun x2 x3 A0 => lp_X2_multiplyGrid_9 F (jn_X2_multiplyGrid_81 F (fun x2 A0 => lp_X2_multiplyGrid_3 F K k x2 A0) K) K k2 x2 x3 A0) (jn_X2_multiplyGrid_81 F (fun x2 A0 => lp_X2_multiplyGrid_3 F K k x2 A0) K) K (nI i) (nI v) x3 g2 := by
        intro x3 hx3
        unfold jn_X2_multiplyGrid_62
        rw [at9]
        refine fd_long hx3 (z := mg f Z i v) ?_ ⟨vpn (by omega) (by decide), ?_⟩
        · unfold mg
          rw [sm_cut (m := N) hN1 (fun j h1 h2 => if_neg (by omega))]
          refine sm_cg (fun j hj => ?_)
          rw [if_pos (by omega)]
          exact cg.mul (cg_bm _) (cg_bm _)
        · rw [cln (by omega)]
          refine ih2 _ _ ⟨rfl, (e2.up hv _).ex (fun u' v' hu' hv' => ?_)⟩
          by_cases q : u' = i ∧ v' = v
          · rw [zu2_p q, if_neg (by omega), q.1, q.2]
          · rw [zu2_n q]
            by_cases q2 : u' < i ∨ (u' = i ∧ v ≤ v')
            · rw [if_pos q2, if_pos (by omega)]
            · rw [if_neg q2, if_neg (by omega)]
      refine V_X2_multiplyGrid_21 N (fun j a b g3 g4 => nI i = a ∧ nI v = b ∧ g3.toInt = sm (fun j => (f j).bmod 10007 * (Z (i - j) v).bmod 10007) j ∧ g2 = g4) (fun k3 a b g3 g4 e3 => ?_) (fun k3 j a b g3 g4 hj e3 ih3 => ?_) (i := 0) (Nat.zero_le _) ⟨rfl, rfl, rfl, rfl⟩
      · obtain ⟨r1, r2, e4, r3⟩ := e3
        subst r1 r2 r3
        unfold lp_X2_multiplyGrid_21
        by_cases e7 : N = 5
        · rw [e7] at e4 fin ⊢
          exact br_t (by decide) (fin g3 e4)
        · refine br_f (nI_nlt (a := 4) (by omega) (by decide)) (br_t (nI_lt (by omega) (by omega)) (fin g3 e4))
      · obtain ⟨r1, r2, e4, r3⟩ := e3
        subst r1 r2 r3
        unfold lp_X2_multiplyGrid_21
        refine br_f (nI_nlt (a := 4) (by omega) (by decide)) (br_f (nI_nlt (by omega) (by omega)) ⟨vpn (by omega) (by decide), ?_⟩)
        rw [pk_sub (by omega), at9]
        refine ⟨vpn (by omega) (by decide), fun y3 q3 => ih3 _ _ _ _ ⟨rfl, rfl, ?_, rfl⟩⟩
        rw [q3, cln (by omega), cln (by omega), hf.g j (by omega), e2.g (i - j) v (by omega) hv, if_pos (by omega), sm_s]
        have b1 := sm_bd (n := j) (f := fun j => (f j).bmod 10007 * (Z (i - j) v).bmod 10007) (B := 25030009) (fun t ht => tb t (by omega))
        have b2 := tb j (by omega)
        have b3 : (j : Int) ≤ 5 := by omega
        rw [la e4 (lm (i2l_t (fdI_t _)) (i2l_t (fdI_t _)) (by omega)) (by omega)]
    · by_cases q : u < i + 1
      · rw [if_pos q, if_pos (by omega)]
      · rw [if_neg q, if_neg (by omega)]
theorem fG_cpy {N D : Nat → Int32} {Z : Nat → Nat → Int} (h : fG 9 25 N Z) : fG 9 25 (cpy 225 N D) Z := fun u v hu hv => by
  rw [cpy_at (by omega)]
  exact h u v hu hv
theorem wp_spread {e : Nat} {D A F : Nat → Int32} {Z : Nat → Nat → Int} {f : Nat → Int} {K : (Nat → Int32) → Prop} (he : e < 1000) (h : fG 9 25 D Z) (hf : fA 5 F f) (hK : ∀ A', fG 9 25 A' (mgk f e Z) → K A') : wp_X2_spread (nI e) D A F K := by
  unfold wp_X2_spread
  rw [cl0, show ((225 : Int32)).toNatClampNeg = 225 from rfl, va_cpy_0]
  refine V_X2_spread_16 e (fun i g => fG 9 25 g (mgk f i Z)) (fun k g e2 => ?_) (fun k i g hi e2 ih => ?_) (i := 0) (Nat.zero_le _) (fG_cpy h)
  · unfold lp_X2_spread_16
    exact br_t (nle (Nat.le_refl e) (by omega)) (hK _ e2)
  · unfold lp_X2_spread_16
    exact br_f (ngt hi (by omega)) (wp_multiplyGrid e2 hf (fun A' hA => ih _ hA))
theorem wp_startDeriving {D : Nat → Int32} {f : Nat → Int} {K : (Nat → Int32) → Prop} (hK : ∀ D', fG 9 25 D' (DD f 0) → K D') : wp_X2_startDeriving D K := by
  unfold wp_X2_startDeriving
  refine wp_fill_spec (by decide) (hK _ (fun u v hu hv => ?_))
  rw [cl0]
  show upd (fun i => if i < 225 then 0 else D i) 0 1 (9 * u + v) = fdI (if u = 0 ∧ v = 0 then 1 else 0)
  by_cases e : u = 0 ∧ v = 0
  · rw [if_pos e, e.1, e.2, pk_us]
    rfl
  · rw [if_neg e, pk_un (by omega)]
    show (if 9 * u + v < 225 then (0 : Int32) else D _) = fdI 0
    rw [if_pos (by omega), fdI_z]
/-- one derivative more: the class -/
theorem wp_deriveMore {k : Nat} {D N F : Nat → Int32} {f : Nat → Int} {K : (Nat → Int32) → (Nat → Int32) → Prop} (hk : k ≤ 3) (h : fG 9 25 D (DD f k)) (hf : fA 5 F f) (hK : ∀ D' N', fG 9 25 D' (DD f (k + 1)) → K D' N') : wp_X2_deriveMore (nI k) D N F K := by
  unfold wp_X2_deriveMore
  refine V_X2_deriveMore_2 25 (fun u g g2 => D = g ∧ ∀ u' v', u' < 25 → v' < 9 → u' < u → g2 (9 * u' + v') = fdI (DD f (k + 1) u' v')) (fun q g g2 e => ?_) (fun q u g g2 hu e ih => ?_) (i := 0) (Nat.zero_le _) ⟨rfl, fun u' v' _ _ h0 => absurd h0 (Nat.not_lt_zero u')⟩
  · obtain ⟨r1, e⟩ := e
    subst r1
    unfold lp_X2_deriveMore_2
    refine br_t (nle (Nat.le_refl 25) (by decide)) ?_
    unfold jn_X2_deriveMore_166
    rw [cl0, show ((225 : Int32)).toNatClampNeg = 225 from rfl, va_cpy_0]
    exact hK _ _ (fG_cpy (fun u' v' h1 h2 => e u' v' h1 h2 h1))
  · obtain ⟨r1, e⟩ := e
    subst r1
    unfold lp_X2_deriveMore_2
    refine br_f (ngt (b := 25) hu (by decide)) ?_
    refine V_X2_deriveMore_11 9 (fun v a g g3 => nI u = a ∧ D = g ∧ ∀ u' v', u' < 25 → v' < 9 → (u' < u ∨ (u' = u ∧ v' < v)) → g3 (9 * u' + v') = fdI (DD f (k + 1) u' v')) (fun q2 a g g3 e2 => ?_) (fun q2 v a g g3 hv e2 ih2 => ?_) (i := 0) (Nat.zero_le _) ⟨rfl, rfl, fun u' v' h1 h2 h3 => e u' v' h1 h2 (by omega)⟩
    · obtain ⟨r1, r2, e2⟩ := e2
      subst r1 r2
      unfold lp_X2_deriveMore_11
      refine br_t (nle (Nat.le_refl 9) (by decide)) ?_
      unfold jn_X2_deriveMore_160
      exact ih _ _ ⟨rfl, fun u' v' h1 h2 h3 => e2 u' v' h1 h2 (by omega)⟩
    · obtain ⟨r1, r2, e2⟩ := e2
      subst r1 r2
      unfold lp_X2_deriveMore_11
      refine br_f (ngt (b := 9) hv (by decide)) ?_
      refine V_X2_deriveMore_24 5 (fun i a b x5 g g4 => nI u = a ∧ nI v = b ∧ D = g ∧ g3 = g4 ∧ x5.toInt = sm (fun j => if j ≤ u + 1 ∧ u + 1 - j < 25 then (f j).bmod 10007 * ((((u + 1 - j : Nat) : Int) + (j : Int) * (1 - (k : Int))) * (DD f k (u + 1 - j) v).bmod 10007 + (j : Int) * (if v = 0 then 0 else (DD f k (u + 1 - j) (v - 1)).bmod 10007)) else 0) i) (fun q3 a b x5 g g4 e3 => ?_) (fun q3 i a b x5 g g4 hi e3 ih3 => ?_) (i := 0) (Nat.zero_le _) ⟨rfl, rfl, rfl, rfl, rfl⟩
      · obtain ⟨r1, r2, r3, r4, e3⟩ := e3
        subst r1 r2 r3 r4
        unfold lp_X2_deriveMore_24
        refine br_t (nI_lt (a := 4) (by decide) (by decide)) ?_
        unfold jn_X2_deriveMore_137
        rw [at9]
        refine fd_long e3 (z := DD f (k + 1) u v) ?_ ⟨vpn (by omega) (by decide), ?_⟩
        · show cg _ (dv f k (DD f k) u v)
          unfold dv
          refine sm_cg (fun j hj => ?_)
          by_cases c1 : j ≤ u + 1
          · rw [if_pos c1]
            by_cases c2 : u + 1 - j < 25
            · rw [if_pos ⟨c1, c2⟩]
              refine cg.mul (cg_bm _) (cg.add (cg.mul cg.rf (cg_bm _)) (cg.mul cg.rf ?_))
              by_cases c3 : v = 0
              · rw [if_pos c3, if_pos c3]
                exact cg.rf
              · rw [if_neg c3, if_neg c3]
                exact cg_bm _
            · rw [if_neg (fun c => c2 c.2), DD_z f k (u + 1 - j) v (by omega), Int.mul_zero, Int.zero_add]
              by_cases c3 : v = 0
              · rw [if_pos c3, Int.mul_zero, Int.mul_zero]
                exact cg.rf
              · rw [if_neg c3, DD_z f k (u + 1 - j) (v - 1) (by omega), Int.mul_zero, Int.mul_zero]
                exact cg.rf
          · rw [if_neg c1, if_neg (fun c => c1 c.1)]
            exact cg.rf
        · rw [cln (by omega)]
          refine ih2 _ _ _ ⟨rfl, rfl, fun u' v' h1 h2 h3 => ?_⟩
          by_cases c : u' = u ∧ v' = v
          · rw [c.1, c.2, pk_us]
          · rw [pk_un (fun c2 => c (ix_inj h2 hv c2))]
            exact e2 u' v' h1 h2 (by omega)
      · obtain ⟨r1, r2, r3, r4, e3⟩ := e3
        subst r1 r2 r3 r4
        unfold lp_X2_deriveMore_24
        refine br_f (nI_nlt (a := 4) (by omega) (by decide)) (fun y1 qy1 => ?_)
        by_cases c1 : i ≤ u + 1
        · have ey : y1 = nI (u + 1 - i) := ieq (by
            rw [qy1, ia (is' (nI_t (n := u) (by omega)) (nI_t (n := i) (by omega)) (by omega)) (y := 1) rfl (by omega), nI_t (by omega)]
            omega)
          subst ey
          refine br_f (nlt0 (by omega)) ?_
          by_cases c2 : u + 1 - i < 25
          · refine br_f (ngt (b := 25) c2 (by decide)) ⟨vpn (by omega) (by decide), ?_⟩
            rw [cln (by omega), hf.g i (by omega)]
            -- the sum so far, and the term
            have tb : ∀ j, j < 5 → ∀ lw : Int, -5003 ≤ lw ∧ lw ≤ 5003 → -(5003 * 210126) ≤ (f j).bmod 10007 * ((((u + 1 - j : Nat) : Int) + (j : Int) * (1 - (k : Int))) * (DD f k (u + 1 - j) v).bmod 10007 + (j : Int) * lw) ∧ (f j).bmod 10007 * ((((u + 1 - j : Nat) : Int) + (j : Int) * (1 - (k : Int))) * (DD f k (u + 1 - j) v).bmod 10007 + (j : Int) * lw) ≤ 5003 * 210126 := by
              intro j hj lw hlw
              have j4 : (0 : Int) ≤ j ∧ (j : Int) ≤ 4 := by omega
              have k1 : -2 ≤ 1 - (k : Int) ∧ 1 - (k : Int) ≤ 2 := by omega
              have m1 := mb (X := 4) (Y := 2) (x := (j : Int)) (by omega) k1
              have m2 := mb (X := 38) (Y := 5003) (x := ((u + 1 - j : Nat) : Int) + (j : Int) * (1 - (k : Int))) (by omega) (fdI_b (DD f k (u + 1 - j) v))
              have m3 := mb (X := 4) (Y := 5003) (x := (j : Int)) (by omega) hlw
              exact mb (fdI_b (f j)) (by omega)
            by_cases c3 : fdI (f i) = 0
            · refine br_t c3 ?_
              unfold jn_X2_deriveMore_131
              refine ih3 _ _ _ _ _ ⟨rfl, rfl, rfl, rfl, ?_⟩
              have c4 : (f i).bmod 10007 = 0 := by rw [← fdI_t, c3]; rfl
              rw [sm_s, if_pos ⟨c1, c2⟩, c4, Int.zero_mul, Int.add_zero]
              exact e3
            · refine br_f c3 ?_
              rw [at9]
              refine ⟨vpn (by omega) (by decide), fun y4 qy4 => ?_⟩
              rw [cln (by omega), h.g (u + 1 - i) v c2 hv] at qy4
              have fin : ∀ (s0 : Int64) (lw : Int), s0.toInt = lw → -5003 ≤ lw ∧ lw ≤ 5003 → (lw = if v = 0 then 0 else (DD f k (u + 1 - i) (v - 1)).bmod 10007) → jn_X2_deriveMore_98 (nI k) F (fun x3 x4 x5 x7 A_derived A_next => lp_X2_deriveMore_24 (nI k) F (jn_X2_deriveMore_137 (nI k) F (fun x3 x4 A_derived A_next => lp_X2_deriveMore_11 (nI k) F (jn_X2_deriveMore_160 (nI k) F (fun x3 A_derived A_next => lp_X2_deriveMore_2 (nI k) F (jn_X2_deriveMore_166 (nI k) F K) K q x3 A_derived A_next) (jn_X2_deriveMore_166 (nI k) F K) K) K q2 x3 x4 A_derived A_next) (jn_X2_deriveMore_160 (nI k) F (fun x3 A_derived A_next => lp_X2_deriveMore_2 (nI k) F (jn_X2_deriveMore_166 (nI k) F K) K q x3 A_derived A_next) (jn_X2_deriveMore_166 (nI k) F K) K) K) K q3 x3 x4 x5 x7 A_derived A_next) (jn_X2_deriveMore_137 (nI k) F (fun x3 x4 A_derived A_next => lp_X2_deriveMore_11 (nI k) F (jn_X2_deriveMore_160 (nI k) F (fun x3 A_derived A_next => lp_X2_deriveMore_2 (nI k) F (jn_X2_deriveMore_166 (nI k) F K) K q x3 A_derived A_next) (jn_X2_deriveMore_166 (nI k) F K) K) K q2 x3 x4 A_derived A_next) (jn_X2_deriveMore_160 (nI k) F (fun x3 A_derived A_next => lp_X2_deriveMore_2 (nI k) F (jn_X2_deriveMore_166 (nI k) F K) K q x3 A_derived A_next) (jn_X2_deriveMore_166 (nI k) F K) K) K) K (nI u) (nI v) x5 (nI i) (nI (u + 1 - i)) y4 s0 D g3 := by
                intro s0 lw hs0 hb hlw
                unfold jn_X2_deriveMore_98
                refine ⟨vpn (by omega) (by decide), fun y2 qy2 => ?_⟩
                unfold jn_X2_deriveMore_131
                refine ih3 _ _ _ _ _ ⟨rfl, rfl, rfl, rfl, ?_⟩
                rw [cln (by omega), hf.g i (by omega), qy4] at qy2
                have j4 : (0 : Int) ≤ i ∧ (i : Int) ≤ 4 := by omega
                have k1 : -2 ≤ 1 - (k : Int) ∧ 1 - (k : Int) ≤ 2 := by omega
                have m1 := mb (X := 4) (Y := 2) (x := (i : Int)) (by omega) k1
                have m2 := mb (X := 38) (Y := 5003) (x := ((u + 1 - i : Nat) : Int) + (i : Int) * (1 - (k : Int))) (by omega) (fdI_b (DD f k (u + 1 - i) v))
                have m3 := mb (X := 4) (Y := 5003) (x := (i : Int)) (by omega) hb
                have tbi := tb i hi lw hb
                have e5 : ((nI (u + 1 - i) + nI i * ((1 : Int32) - nI k)).toInt64).toInt = ((u + 1 - i : Nat) : Int) + (i : Int) * (1 - (k : Int)) := i2l_t (ia (nI_t (by omega)) (im (nI_t (by omega)) (is' (x := 1) rfl (nI_t (by omega)) (by omega)) (by omega)) (by omega))
                have b1 := sm_bd (n := i) (f := fun j => if j ≤ u + 1 ∧ u + 1 - j < 25 then (f j).bmod 10007 * ((((u + 1 - j : Nat) : Int) + (j : Int) * (1 - (k : Int))) * (DD f k (u + 1 - j) v).bmod 10007 + (j : Int) * (if v = 0 then 0 else (DD f k (u + 1 - j) (v - 1)).bmod 10007)) else 0) (B := 5003 * 210126) (fun t ht => by
                  by_cases c5 : t ≤ u + 1 ∧ u + 1 - t < 25
                  · rw [if_pos c5]
                    refine tb t (by omega) _ ?_
                    by_cases c6 : v = 0
                    · rw [if_pos c6]
                      decide
                    · rw [if_neg c6]
                      exact fdI_b _
                  · rw [if_neg c5]
                    decide)
                have b3 : (i : Int) ≤ 5 := by omega
                rw [sm_s, if_pos ⟨c1, c2⟩, ← hlw, qy2]
                rw [la e3 (lm (i2l_t (fdI_t _)) (la (lm e5 (i2l_t (fdI_t _)) (by omega)) (lm (i2l_t (nI_t (n := i) (by omega))) hs0 (by omega)) (by omega)) (by omega)) (by omega)]
              by_cases c7 : v = 0
              · subst c7
                exact br_t (by decide) (fin 0 0 rfl (by decide) rfl)
              · refine br_f (nle0 (by omega) (by omega)) ?_
                rw [sub1 (by omega)]
                refine ⟨vpn (by omega) (by decide), ?_⟩
                rw [cln (by omega), show 9 * (u + 1 - i) + v - 1 = 9 * (u + 1 - i) + (v - 1) by omega, h.g (u + 1 - i) (v - 1) c2 (by omega)]
                exact fin _ _ (i2l_t (fdI_t _)) (fdI_b _) (by rw [if_neg c7])
          · refine br_t (nle (a := 25) (by omega) (by omega)) ?_
            unfold jn_X2_deriveMore_131
            refine ih3 _ _ _ _ _ ⟨rfl, rfl, rfl, rfl, ?_⟩
            rw [sm_s, if_neg (fun c => c2 c.2), Int.add_zero]
            exact e3
        · refine br_t ?_ ?_
          · rw [Int32.lt_iff_toInt_lt, qy1, ia (is' (nI_t (n := u) (by omega)) (nI_t (n := i) (by omega)) (by omega)) (y := 1) rfl (by omega), show (0 : Int32).toInt = 0 from rfl]
            omega
          · unfold jn_X2_deriveMore_131
            refine ih3 _ _ _ _ _ ⟨rfl, rfl, rfl, rfl, ?_⟩
            rw [sm_s, if_neg (fun c => c1 c.1), Int.add_zero]
            exact e3
