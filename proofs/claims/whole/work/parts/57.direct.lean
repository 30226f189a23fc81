/-! easy, direct, checked -/
def ezz (m : Int) : Nat → Nat → Int
  | 0 => fun t => if t = 0 then 1 else 0
  | k + 1 => fun t => ezz m k t * (((k + 1 : Nat) : Int) * m) + (if t = 0 then 0 else ezz m k (t - 1))
theorem ezz_z (m : Int) : ∀ k t : Nat, k < t → ezz m k t = 0
  | 0, t, h => if_neg (by omega)
  | k + 1, t, h => by
    unfold ezz
    rw [ezz_z m k t (by omega), Int.zero_mul, if_neg (by omega), ezz_z m k (t - 1) (by omega)]
    rfl
theorem sub1 {i : Nat} (h : 1 ≤ i) : nI i - (1 : Int32) = nI (i - 1) := pk_sub (b := 1) h
/-- one factor more: the class -/
theorem wp_easy67 {x1 x2 : Int32} {K124 : Int32 → Int32 → (Nat → Int32) → Prop} {K : Int32 → (Nat → Int32) → Prop} {k : Nat} {g3 : Int32} {m : Int} {A : Nat → Int32} (hk : k + 1 ≤ 4) (h : fA 5 A (ezz m k)) (hK : ∀ A', fA 5 A' (ezz m (k + 1)) → K124 g3 (nI (k + 1)) A') : ∃ q, lp_X11_easy_67 x1 x2 K124 K q g3 (nI (k + 1)) (fdI (((k + 1 : Nat) : Int) * m)) (nI (k + 1)) A := by
  refine V_X11_easy_67 (fun n a b c g => n ≤ k + 2 ∧ g3 = a ∧ nI (k + 1) = b ∧ fdI (((k + 1 : Nat) : Int) * m) = c ∧ fA 5 g (fun t => if t < n then ezz m k t else ezz m (k + 1) t)) (fun q a b c g e => ?_) (fun q i a b c g e ih => ?_) ⟨Nat.le_refl _, rfl, rfl, rfl, h.ex (fun t ht => ?_)⟩
  · obtain ⟨-, e1, e2, e3, e⟩ := e
    subst e1 e2 e3
    unfold lp_X11_easy_67
    exact br_t (by decide) (hK _ (e.ex (fun t ht => if_neg (by omega))))
  · obtain ⟨hi, e1, e2, e3, e⟩ := e
    subst e1 e2 e3
    unfold lp_X11_easy_67
    refine br_f (nlt0 (by omega)) ?_
    have fin : ∀ (s0 : Int64) (c : Int), s0.toInt = c.bmod 10007 → (c = if i = 0 then 0 else ezz m k (i - 1)) → jn_X11_easy_91 x1 x2 (fun x3 x4 x5 x6 A_product => lp_X11_easy_67 x1 x2 K124 K q x3 x4 x5 x6 A_product) K124 K g3 (nI (k + 1)) (fdI (((k + 1 : Nat) : Int) * m)) (nI i) s0 g := by
      intro s0 c hs hc
      unfold jn_X11_easy_91
      refine ⟨vpn (by omega) (by decide), ?_⟩
      rw [cln (by omega), e.g i (by omega), if_pos (by omega)]
      have b1 := bb (((k + 1 : Nat) : Int) * m) (ezz m k i)
      have b2 := fdI_b c
      refine fd_long (la hs (lm (i2l_t (fdI_t _)) (i2l_t (fdI_t _)) (by omega)) (by omega)) (z := ezz m (k + 1) i) ?_ ?_
      · have e5 : ezz m (k + 1) i = c + ((k + 1 : Nat) : Int) * m * ezz m k i := by
          rw [hc, Int.add_comm, Int.mul_comm (((k + 1 : Nat) : Int) * m)]
          rfl
        rw [e5]
        exact cg.add (cg_bm _) (cg.mul (cg_bm _) (cg_bm _))
      · refine ih _ _ _ _ ⟨by omega, rfl, rfl, rfl, (e.up i _).ex (fun t ht => ?_)⟩
        by_cases e6 : t = i
        · rw [zu_p e6, if_neg (by omega), e6]
        · rw [zu_n e6]
          by_cases e7 : t < i
          · rw [if_pos e7, if_pos (by omega)]
          · rw [if_neg e7, if_neg (by omega)]
    by_cases e0 : i = 0
    · subst e0
      exact br_t (by decide) (fin 0 0 rfl rfl)
    · refine br_f (nle0 (by omega) (by omega)) ?_
      rw [sub1 (by omega)]
      refine ⟨vpn (by omega) (by decide), ?_⟩
      rw [cln (by omega), e.g (i - 1) (by omega), if_pos (by omega)]
      exact fin _ _ (i2l_t (fdI_t _)) (by rw [if_neg e0])
  · by_cases e7 : t < k + 1 + 1
    · rw [if_pos e7]
    · rw [if_neg e7, ezz_z m k t (by omega), ezz_z m (k + 1) t (by omega)]
theorem wp_easy74 {x1 x2 : Int32} {K125 : Int32 → (Nat → Int32) → Prop} {K : Int32 → (Nat → Int32) → Prop} {k w : Nat} {g3 : Int32} {m : Int} {A : Nat → Int32} (hk : k + 1 ≤ w) (hw : w ≤ 4) (h : mA 9 A (ezz m k)) (hK : ∀ A', mA 9 A' (ezz m (k + 1)) → K125 g3 A') : ∃ q, lp_X12_easy_74 x1 x2 K125 K q g3 (mdI (((k + 1 : Nat) : Int) * m)) (nI w) A := by
  refine V_X12_easy_74 (fun n a c g => n ≤ w + 1 ∧ g3 = a ∧ mdI (((k + 1 : Nat) : Int) * m) = c ∧ mA 9 g (fun t => if t < n then ezz m k t else ezz m (k + 1) t)) (fun q a c g e => ?_) (fun q i a c g e ih => ?_) ⟨Nat.le_refl _, rfl, rfl, h.ex (fun t ht => ?_)⟩
  · obtain ⟨-, e1, e3, e⟩ := e
    subst e1 e3
    unfold lp_X12_easy_74
    exact br_t (by decide) (hK _ (e.ex (fun t ht => if_neg (by omega))))
  · obtain ⟨hi, e1, e3, e⟩ := e
    subst e1 e3
    unfold lp_X12_easy_74
    refine br_f (nlt0 (by omega)) ⟨vpn (by omega) (by decide), ?_⟩
    rw [cln (by omega), e.g i (by omega), if_pos (by omega)]
    have fin : ∀ c : Int, (c = if i = 0 then 0 else ezz m k (i - 1)) → jn_X12_easy_113 x1 x2 (fun x3 x4 x5 A_rests => lp_X12_easy_74 x1 x2 K125 K q x3 x4 x5 A_rests) K125 K g3 (mdI (((k + 1 : Nat) : Int) * m)) (nI i) (nI i) (mdI (ezz m k i) * mdI (((k + 1 : Nat) : Int) * m)) (mdI c) g := by
      intro c hc
      unfold jn_X12_easy_113
      intro y q1
      rw [md_muladd] at q1
      subst q1
      refine ⟨vpn (by omega) (by decide), ?_⟩
      rw [cln (by omega)]
      refine ih _ _ _ ⟨by omega, rfl, rfl, (e.up i _).ex (fun t ht => ?_)⟩
      by_cases e6 : t = i
      · rw [zu_p e6, if_neg (by omega), e6, hc]
        rfl
      · rw [zu_n e6]
        by_cases e7 : t < i
        · rw [if_pos e7, if_pos (by omega)]
        · rw [if_neg e7, if_neg (by omega)]
    by_cases e0 : i = 0
    · subst e0
      have f0 := fin 0 rfl
      rw [mdI_z] at f0
      exact br_t (by decide) f0
    · refine br_f (nle0 (by omega) (by omega)) ?_
      rw [sub1 (by omega)]
      refine ⟨vpn (by omega) (by decide), ?_⟩
      rw [cln (by omega), e.g (i - 1) (by omega), if_pos (by omega)]
      exact fin _ (by rw [if_neg e0])
  · by_cases e7 : t < w + 1
    · rw [if_pos e7]
    · rw [if_neg e7, ezz_z m k t (by omega), ezz_z m (k + 1) t (by omega)]
theorem btw_14 {x : Int32} (h : ¬ btw x 1 4 = 0) : ∃ m : Nat, 1 ≤ m ∧ m ≤ 4 ∧ x = nI m := by
  have hb := btw_i h
  have k1 : (1 : Int32).toInt = 1 := rfl
  have k4 : (4 : Int32).toInt = 4 := rfl
  exact ⟨x.toInt.toNat, by omega, by omega, i_nI (by omega)⟩
theorem pr_easy {x1 x2 : Int32} {A B : Nat → Int32} {K : Int32 → (Nat → Int32) → Int32 → (Nat → Int32) → Prop} (hK : ∀ r A' B', K r A' r B') : wp_X11_easy x1 x2 A (fun r A' => wp_X12_easy x1 x2 B (fun r2 B' => K r A' r2 B')) := by
  unfold wp_X11_easy
  refine wp_within ⟨fun q => wp_within ⟨fun q2 => ?_, fun q2 => ?_⟩, fun q => ?_⟩
  · obtain ⟨m, h1, h4, rfl⟩ := btw_14 q
    obtain ⟨v, hv, rfl⟩ := btw_n (N := m) (by omega) q2
    refine wp_fill_spec (by decide) ?_
    refine wp_inverse (z := (m : Int)) (fdI_n (by omega)).symm ?_
    refine V_X11_easy_46 (m + 1) (fun i a g => 1 ≤ i ∧ fdI ((m : Int) ^ 10005) = a ∧ fA 5 g (ezz ((m : Int) ^ 10005) (i - 1))) (fun k a g e => ?_) (fun k i a g hi e ih => ?_) (i := 1) (by omega) ⟨Nat.le_refl 1, rfl, fun i hi => ?_⟩
    · obtain ⟨-, e1, e2⟩ := e
      subst e1
      unfold lp_X11_easy_46
      refine br_t (nI_lt (by omega) (by omega)) ?_
      unfold jn_X11_easy_130
      refine ⟨vpn (by omega) (by decide), ?_⟩
      rw [Nat.add_sub_cancel] at e2
      rw [cln (by omega), e2.g v (by omega)]
      unfold wp_X12_easy
      refine wp_isIn (rb_f q (wp_isIn (rb_f q2 ?_)))
      refine V_X12_easy_25 9 (fun i g => mA i g (ezz ((m : Int) ^ 10005) 0)) (fun k2 g2 e3 => ?_) (fun k2 i g2 hi e3 ih => ?_) (i := 0) (Nat.zero_le _) (fun i hi => absurd hi (Nat.not_lt_zero i))
      · unfold lp_X12_easy_25
        refine br_t (nle (Nat.le_refl 9) (by decide)) ?_
        unfold jn_X12_easy_52
        refine V_X12_easy_54 (m + 1) (fun i g => 1 ≤ i ∧ mA 9 g (ezz ((m : Int) ^ 10005) (i - 1))) (fun k3 g3 e4 => ?_) (fun k3 i g3 hi e4 ih => ?_) (i := 1) (by omega) ⟨Nat.le_refl 1, e3⟩
        · obtain ⟨-, e4⟩ := e4
          unfold lp_X12_easy_54
          refine br_t (nI_lt (by omega) (by omega)) ?_
          unfold jn_X12_easy_131
          refine ⟨vpn (by omega) (by decide), ?_⟩
          rw [Nat.add_sub_cancel] at e4
          rw [cln (by omega), e4.g v (by omega)]
          exact wp_told (hK _ _ _)
        · obtain ⟨h5, e4⟩ := e4
          obtain ⟨j, rfl⟩ : ∃ j, i = j + 1 := ⟨i - 1, by omega⟩
          rw [Nat.add_sub_cancel] at e4
          unfold lp_X12_easy_54
          refine br_f (nI_nlt (by omega) (by omega)) (wp_minverse (z := (m : Int)) (mdI_n (by omega)).symm (fun y qy => ?_))
          rw [← mdI_n (n := j + 1) (by omega), md_mul] at qy
          subst qy
          refine wp_easy74 (by omega) (by omega) e4 (fun A' hA => ?_)
          unfold jn_X12_easy_125
          exact ih _ ⟨by omega, hA⟩
      · unfold lp_X12_easy_25
        refine br_f (ngt (b := 9) hi (by decide)) ?_
        unfold jn_X12_easy_45
        rw [cln (by omega)]
        refine ⟨fun q => ⟨vpn hi (by decide), ih _ (fun n hn => ?_)⟩, fun q => ⟨vpn hi (by decide), ih _ (fun n hn => ?_)⟩⟩
        · by_cases q2 : n = i
          · have q3 : i ≠ 0 := fun q3 => q (by rw [q3]; rfl)
            rw [q2, pk_us]
            unfold ezz
            rw [if_neg q3, mdI_z]
          · rw [pk_un q2]
            exact e3 n (by omega)
        · have q3 : i = 0 := (nI_eq (a := i) (b := 0) (by omega) (by decide)).mp q
          by_cases q2 : n = i
          · rw [q2, pk_us]
            unfold ezz
            rw [if_pos q3, mdI_1]
          · rw [pk_un q2]
            exact e3 n (by omega)
    · obtain ⟨h5, e1, e2⟩ := e
      subst e1
      obtain ⟨j, rfl⟩ : ∃ j, i = j + 1 := ⟨i - 1, by omega⟩
      rw [Nat.add_sub_cancel] at e2
      unfold lp_X11_easy_46
      refine br_f (nI_nlt (by omega) (by omega)) ?_
      refine wp_foldim (m := ((j + 1 : Nat) : Int)) (nI_t (by omega)) (by omega) ?_
      refine wp_easy67 (by omega) e2 (fun A' hA => ?_)
      unfold jn_X11_easy_124
      exact ih _ _ ⟨by omega, rfl, hA⟩
    · rw [cl0]
      show upd (fun i => if i < 5 then 0 else A i) 0 1 i = fdI (if i = 0 then 1 else 0)
      by_cases e : i = 0
      · rw [e, pk_us]
        rfl
      · rw [pk_un e, if_neg e]
        show (if i < 5 then (0 : Int32) else A i) = fdI 0
        rw [if_pos hi, fdI_z]
  · unfold wp_X12_easy
    exact wp_isIn (rb_f q (wp_isIn (rb_t q2 (hK _ _ _))))
  · unfold wp_X12_easy
    exact wp_isIn (rb_t q (hK _ _ _))
/-- direct: a shifted row times a number, added -/
def adz (c : Int) (i : Nat) (W S : Nat → Int) : Nat → Int := fun t => S t + (if i ≤ t then c * W (t - i) else 0)
def fcz (o : Nat → Int) (n : Nat) (k i : Nat) : Nat → Int := fun j => sm (fun j => o (15 * k + 3 * i + j) * (n : Int) ^ j) j
def dzr (o : Nat → Int) (n k : Nat) (W S : Nat → Int) : Nat → Nat → Int
  | 0 => S
  | i + 1 => adz (fcz o n k i 3) i W (dzr o n k W S i)
def drk (P : Nat → Int) : Nat → Nat → Int
  | 0 => P
  | k + 1 => drz 25 (drk P k)
def dzs (o : Nat → Int) (n : Nat) (P : Nat → Int) : Nat → Nat → Int
  | 0 => fun _ => 0
  | k + 1 => dzr o n k (drk P k) (dzs o n P k) 5
theorem wp_factorOf {k i n : Nat} {O : Nat → Int32} {o : Nat → Int} {K : Int32 → Prop} (hk : k ≤ 4) (hi : i ≤ 4) (hn : n ≤ 3) (ho : fA 75 O o) (hK : K (fdI (fcz o n k i 3))) : wp_X2_factorOf (nI k) (nI i) (nI n) O K := by
  unfold wp_X2_factorOf
  have b0 := fdI_b (o (15 * k + 3 * i + 0))
  have b1 := fdI_b (o (15 * k + 3 * i + 1))
  have b2 := fdI_b (o (15 * k + 3 * i + 2))
  have hn' : -3 ≤ (n : Int) ∧ (n : Int) ≤ 3 := by omega
  have m2 := mb (X := 5003) (Y := 3) b2 hn'
  have m1 := mb (X := 20012) (Y := 3) (x := (o (15 * k + 3 * i + 2)).bmod 10007 * n + (o (15 * k + 3 * i + 1)).bmod 10007) (by omega) hn'
  refine ⟨4, ?_⟩
  have en : (nI n).toInt = (n : Int) := nI_t (by omega)
  unfold lp_X2_factorOf_6
  refine br_f (by decide) ?_
  rw [show (2 : Int32) = nI 2 from rfl]
  refine wp_index ⟨vpn (by omega) (by decide), fun y q => ?_⟩
  rw [cln (by omega), ho.g _ (by omega)] at q
  have t1 : y.toInt = (o (15 * k + 3 * i + 2)).bmod 10007 := by
    rw [q, la (x := 0 * (n : Int)) (lm rfl (i2l_t en) (by omega)) (i2l_t (fdI_t _)) (by omega)]
    omega
  dsimp only
  unfold lp_X2_factorOf_6
  refine br_f (by decide) ?_
  rw [show nI 2 + (-1 : Int32) = nI 1 from rfl]
  refine wp_index ⟨vpn (by omega) (by decide), fun y2 q2 => ?_⟩
  rw [cln (by omega), ho.g _ (by omega)] at q2
  have t2 : y2.toInt = (o (15 * k + 3 * i + 2)).bmod 10007 * n + (o (15 * k + 3 * i + 1)).bmod 10007 := by
    rw [q2, la (lm t1 (i2l_t en) (by omega)) (i2l_t (fdI_t _)) (by omega)]
  dsimp only
  unfold lp_X2_factorOf_6
  refine br_f (by decide) ?_
  rw [show nI 1 + (-1 : Int32) = nI 0 from rfl]
  refine wp_index ⟨vpn (by omega) (by decide), fun y3 q3 => ?_⟩
  rw [cln (by omega), ho.g _ (by omega)] at q3
  have t3 : y3.toInt = ((o (15 * k + 3 * i + 2)).bmod 10007 * n + (o (15 * k + 3 * i + 1)).bmod 10007) * n + (o (15 * k + 3 * i + 0)).bmod 10007 := by
    rw [q3, la (lm t2 (i2l_t en) (by omega)) (i2l_t (fdI_t _)) (by omega)]
  dsimp only
  unfold lp_X2_factorOf_6
  refine br_t (by decide) ?_
  unfold jn_X2_factorOf_38
  refine fd_long t3 ?_ hK
  have e : fcz o n k i 3 = ((o (15 * k + 3 * i + 2)) * n + (o (15 * k + 3 * i + 1))) * n + (o (15 * k + 3 * i + 0)) := by
    unfold fcz
    rw [sm_s, sm_s, sm_s, sm_0, Int.pow_zero, Int.pow_one, show (n : Int) ^ 2 = n * n from by rw [Int.pow_succ, Int.pow_one]]
    grind
  rw [e]
  exact cg.add (cg.mul (cg.add (cg.mul (cg_bm _) cg.rf) (cg_bm _)) cg.rf) (cg_bm _)
theorem wp_addWhole {c : Int} {i : Nat} {A P : Nat → Int32} {S W : Nat → Int} {K : (Nat → Int32) → Prop} (hi : i ≤ 4) (hA : fA 21 A S) (hP : fA 25 P W) (hK : ∀ A', fA 21 A' (adz c i W S) → K A') : wp_X2_addWhole (fdI c) (nI i) A P K := by
  unfold wp_X2_addWhole
  refine V_X2_addWhole_2 21 (fun u g => i ≤ u ∧ fA 21 g (fun t => if t < u then adz c i W S t else S t)) (fun k g e => ?_) (fun k u g hu e ih => ?_) (i := i) (by omega) ⟨Nat.le_refl i, hA.ex (fun t ht => ?_)⟩
  · unfold lp_X2_addWhole_2
    exact br_t (nI_lt (a := 20) (by decide) (by decide)) (hK _ (e.2.ex (fun t ht => if_pos ht)))
  · obtain ⟨h1, e⟩ := e
    unfold lp_X2_addWhole_2
    refine br_f (nI_nlt (a := 20) (by omega) (by decide)) ⟨vpn hu (by decide), ?_⟩
    rw [pk_sub h1]
    refine ⟨vpn (by omega) (by decide), ?_⟩
    rw [cln (by omega), cln (by omega), e.g u hu, if_neg (by omega), hP.g _ (by omega)]
    refine wp_foldaddmul (ih _ ⟨by omega, (e.up u _).ex (fun t ht => ?_)⟩)
    by_cases q : t = u
    · rw [zu_p q, if_pos (by omega), q]
      unfold adz
      rw [if_pos h1]
    · rw [zu_n q]
      by_cases q2 : t < u
      · rw [if_pos q2, if_pos (by omega)]
      · rw [if_neg q2, if_neg (by omega)]
  · by_cases q2 : t < i
    · rw [if_pos q2]
      unfold adz
      rw [if_neg (by omega), Int.add_zero]
    · rw [if_neg q2]
theorem wp_applyToWhole {n : Nat} {A P O F : Nat → Int32} {o f : Nat → Int} {K : (Nat → Int32) → (Nat → Int32) → Prop} (hn : n ≤ 3) (ho : fA 75 O o) (hf : fA 5 F f) (hK : ∀ A' P', fA 21 A' (dzs o n (pwz f (n + 1)) 5) → K A' P') : wp_X2_applyToWhole (nI n) A P O F K := by
  unfold wp_X2_applyToWhole
  rw [nI_1]
  refine wp_raise (by omega) hf (fun P0 hP0 => wp_fill_spec (by decide) ?_)
  refine V_X2_applyToWhole_22 5 (fun k g g2 => fA 21 g (dzs o n (pwz f (n + 1)) k) ∧ fA 25 g2 (drk (pwz f (n + 1)) (k - 1))) (fun q g g2 e => ?_) (fun q k g g2 hk e ih => ?_) (i := 0) (Nat.zero_le _) ⟨fun i hi => ?_, hP0⟩
  · unfold lp_X2_applyToWhole_22
    exact br_t (nI_lt (a := 4) (by decide) (by decide)) (hK _ _ e.1)
  · obtain ⟨e1, e2⟩ := e
    unfold lp_X2_applyToWhole_22
    refine br_f (nI_nlt (a := 4) (by omega) (by decide)) ?_
    have go : ∀ g3 : Nat → Int32, fA 25 g3 (drk (pwz f (n + 1)) k) → jn_X2_applyToWhole_40 (nI n) O F (fun x4 A_whole A_power => lp_X2_applyToWhole_22 (nI n) O F K q x4 A_whole A_power) K (nI k) g g3 := by
      intro g3 h3
      unfold jn_X2_applyToWhole_40
      refine V_X2_applyToWhole_43 5 (fun i a g4 g5 => nI k = a ∧ fA 21 g4 (dzr o n k (drk (pwz f (n + 1)) k) (dzs o n (pwz f (n + 1)) k) i) ∧ fA 25 g5 (drk (pwz f (n + 1)) k)) (fun q2 a g4 g5 e4 => ?_) (fun q2 i a g4 g5 hi e4 ih2 => ?_) (i := 0) (Nat.zero_le _) ⟨rfl, e1, h3⟩
      · obtain ⟨r1, r2, r3⟩ := e4
        subst r1
        unfold lp_X2_applyToWhole_43
        refine br_t (nI_lt (a := 4) (by decide) (by decide)) ?_
        unfold jn_X2_applyToWhole_70
        exact ih _ _ ⟨r2, r3⟩
      · obtain ⟨r1, r2, r3⟩ := e4
        subst r1
        unfold lp_X2_applyToWhole_43
        refine br_f (nI_nlt (a := 4) (by omega) (by decide)) (wp_factorOf (by omega) (by omega) hn ho ?_)
        exact wp_addWhole (by omega) r2 r3 (fun A' hA => ih2 _ _ _ ⟨rfl, hA, r3⟩)
    by_cases e0 : k = 0
    · subst e0
      exact br_t (by decide) (go g2 e2)
    · refine br_f (nle0 (by omega) (by omega)) (wp_derive (by decide) (by decide) e2 (fun A' hA => go A' ?_))
      obtain ⟨j, rfl⟩ : ∃ j, k = j + 1 := ⟨k - 1, by omega⟩
      exact hA
  · show (if i < 21 then (0 : Int32) else A i) = fdI 0
    rw [if_pos hi, fdI_z]
/-- the model's -/
theorem wp_power {n j : Nat} {K : Int32 → Prop} (hn : n < 10007) (hj : j < 1000) (hK : K (mdI ((n : Int) ^ j))) : wp_X12_power (nI n) (nI j) K := by
  unfold wp_X12_power
  refine V_X12_power_5 j (fun i g => mdI ((n : Int) ^ i) = g) (fun k g e => ?_) (fun k i g hi e ih => ?_) (i := 0) (Nat.zero_le _) (by rw [Int.pow_zero, mdI_1])
  · subst e
    unfold lp_X12_power_5
    exact br_t (nle (Nat.le_refl j) (by omega)) hK
  · subst e
    unfold lp_X12_power_5
    refine br_f (ngt hi (by omega)) (fun y q => ih _ ?_)
    rw [q, ← mdI_n (n := n) hn, md_mul, Int.pow_succ]
theorem adz_0 (i : Nat) (W S : Nat → Int) : adz 0 i W S = S := by
  funext t
  unfold adz
  by_cases h : i ≤ t
  · rw [if_pos h, Int.zero_mul, Int.add_zero]
  · rw [if_neg h, Int.add_zero]
theorem adz_add (a b : Int) (i : Nat) (W S : Nat → Int) (t : Nat) : adz (a + b) i W S t = adz b i W (adz a i W S) t := by
  unfold adz
  by_cases h : i ≤ t
  · rw [if_pos h, if_pos h, if_pos h, Int.add_mul, Int.add_assoc]
  · rw [if_neg h, if_neg h, if_neg h, Int.add_zero, Int.add_zero]
theorem wp_directs96 {x1 : Int32} {F O : Nat → Int32} {K144 : Int32 → Int32 → Int32 → (Nat → Int32) → (Nat → Int32) → (Nat → Int32) → Prop} {K : (Nat → Int32) → (Nat → Int32) → (Nat → Int32) → Prop} {g2 g4 : Int32} {i : Nat} {c : Int} {P W D : Nat → Int32} {w d : Nat → Int} (hi : i ≤ 4) (hW : mA 25 W w) (hD : mA 25 D d) (hK : ∀ D', mA 25 D' (adz c i w d) → K144 g2 (nI i) g4 P W D') : ∃ q, lp_X12_directs_96 x1 F O K144 K q g2 (nI i) g4 (mdI c) 0 P W D := by
  refine V_X12_directs_96 (25 - i) (fun u a b e f p v g => g2 = a ∧ nI i = b ∧ g4 = e ∧ mdI c = f ∧ P = p ∧ W = v ∧ mA 25 g (fun t => if t < i + u then adz c i w d t else d t)) (fun q a b e f p v g h => ?_) (fun q u a b e f p v g hu h ih => ?_) (i := 0) (Nat.zero_le _) ⟨rfl, rfl, rfl, rfl, rfl, rfl, hD.ex (fun t ht => ?_)⟩
  · obtain ⟨r1, r2, r3, r4, r5, r6, h⟩ := h
    subst r1 r2 r3 r4 r5 r6
    unfold lp_X12_directs_96
    rw [nI_add]
    exact br_t (nle (a := 25) (by omega) (by omega)) (hK _ (h.ex (fun t ht => if_pos (by omega))))
  · obtain ⟨r1, r2, r3, r4, r5, r6, h⟩ := h
    subst r1 r2 r3 r4 r5 r6
    unfold lp_X12_directs_96
    rw [nI_add]
    refine br_f (ngt (b := 25) (by omega) (by decide)) ⟨vpn (by omega) (by decide), vpn (by omega) (by decide), fun y qy => ?_⟩
    rw [cln (by omega), cln (by omega), h.g (u + i) (by omega), if_neg (by omega), hW.g u (by omega), md_addmul] at qy
    subst qy
    rw [cln (by omega)]
    refine ih _ _ _ _ _ _ _ ⟨rfl, rfl, rfl, rfl, rfl, rfl, (h.up (u + i) _).ex (fun t ht => ?_)⟩
    by_cases q2 : t = u + i
    · rw [zu_p q2, if_pos (by omega), q2]
      unfold adz
      rw [if_pos (by omega), Nat.add_sub_cancel]
    · rw [zu_n q2]
      by_cases q3 : t < i + u
      · rw [if_pos q3, if_pos (by omega)]
      · rw [if_neg q3, if_neg (by omega)]
  · by_cases q3 : t < i + 0
    · rw [if_pos q3]
      unfold adz
      rw [if_neg (by omega), Int.add_zero]
    · rw [if_neg q3]
theorem wp_directs {n : Nat} {F O P W D : Nat → Int32} {o f : Nat → Int} {K : (Nat → Int32) → (Nat → Int32) → (Nat → Int32) → Prop} (hn : n ≤ 3) (ho : mA 75 O o) (hf : mA 5 F f) (hK : ∀ P' W' D', mG 25 5 P' (pwz f) → mA 25 D' (dzs o n (pwz f (n + 1)) 5) → K P' W' D') : wp_X12_directs (nI n) F O P W D K := by
  unfold wp_X12_directs
  refine wp_tellsPowers hf (fun P' hP => ?_)
  refine V_X12_directs_6 25 (fun i p g g2 => P' = p ∧ mA i g (pwz f (n + 1)) ∧ mA i g2 (fun _ => 0)) (fun k p g g2 e => ?_) (fun k i p g g2 hi e ih => ?_) (i := 0) (Nat.zero_le _) ⟨rfl, fun i hi => absurd hi (Nat.not_lt_zero i), fun i hi => absurd hi (Nat.not_lt_zero i)⟩
  · obtain ⟨r1, e1, e2⟩ := e
    subst r1
    unfold lp_X12_directs_6
    refine br_t (nle (Nat.le_refl 25) (by decide)) ?_
    unfold jn_X12_directs_44
    refine V_X12_directs_46 5 (fun k p g g2 => P' = p ∧ mA 25 g (drk (pwz f (n + 1)) k) ∧ mA 25 g2 (dzs o n (pwz f (n + 1)) k)) (fun k2 p g g2 e => ?_) (fun k2 k p g g2 hk e ih => ?_) (i := 0) (Nat.zero_le _) ⟨rfl, e1, e2⟩
    · obtain ⟨r1, e1, e2⟩ := e
      subst r1
      unfold lp_X12_directs_46
      exact br_t (nle (Nat.le_refl 5) (by decide)) (hK _ _ _ hP e2)
    · obtain ⟨r1, e1, e2⟩ := e
      subst r1
      unfold lp_X12_directs_46
      refine br_f (ngt (b := 5) hk (by decide)) ?_
      refine V_X12_directs_53 5 (fun i a p g3 g4 => nI k = a ∧ P' = p ∧ mA 25 g3 (drk (pwz f (n + 1)) k) ∧ mA 25 g4 (dzr o n k (drk (pwz f (n + 1)) k) (dzs o n (pwz f (n + 1)) k) i)) (fun k3 a p g3 g4 e => ?_) (fun k3 i a p g3 g4 hi e ih3 => ?_) (i := 0) (Nat.zero_le _) ⟨rfl, rfl, e1, e2⟩
      · obtain ⟨r1, r2, e3, e4⟩ := e
        subst r1 r2
        unfold lp_X12_directs_53
        refine br_t (nle (Nat.le_refl 5) (by decide)) ?_
        unfold jn_X12_directs_156
        refine V_X12_directs_158 25 (fun u a p g5 g6 => nI k = a ∧ P' = p ∧ g4 = g6 ∧ mA 25 g5 (fun t => if t < u then drz 25 (drk (pwz f (n + 1)) k) t else drk (pwz f (n + 1)) k t)) (fun k4 a p g5 g6 e => ?_) (fun k4 u a p g5 g6 hu e ih4 => ?_) (i := 0) (Nat.zero_le _) ⟨rfl, rfl, rfl, e3.ex (fun t ht => by rw [if_neg (by omega)])⟩
        · obtain ⟨r1, r2, r3, e5⟩ := e
          subst r1 r2 r3
          unfold lp_X12_directs_158
          refine br_t (nle (Nat.le_refl 25) (by decide)) ?_
          unfold jn_X12_directs_204
          exact ih _ _ _ ⟨rfl, e5.ex (fun t ht => if_pos ht), e4⟩
        · obtain ⟨r1, r2, r3, e5⟩ := e
          subst r1 r2 r3
          unfold lp_X12_directs_158
          refine br_f (ngt (b := 25) hu (by decide)) ?_
          rw [nI_1]
          have fin : ∀ c : Int, c = drz 25 (drk (pwz f (n + 1)) k) u → jn_X12_directs_197 (nI n) F O (fun x2 x3 A_powers A_whole A_direct => lp_X12_directs_158 (nI n) F O (jn_X12_directs_204 (nI n) F O (fun x2 A_powers A_whole A_direct => lp_X12_directs_46 (nI n) F O K k2 x2 A_powers A_whole A_direct) K) K k4 x2 x3 A_powers A_whole A_direct) (jn_X12_directs_204 (nI n) F O (fun x2 A_powers A_whole A_direct => lp_X12_directs_46 (nI n) F O K k2 x2 A_powers A_whole A_direct) K) K (nI k) (nI u) (nI u) (mdI c) P' g5 g4 := by
            intro c hc
            unfold jn_X12_directs_197
            refine ⟨vpn hu (by decide), ?_⟩
            rw [cln (by omega)]
            refine ih4 _ _ _ _ ⟨rfl, rfl, rfl, (e5.up u _).ex (fun t ht => ?_)⟩
            by_cases q2 : t = u
            · rw [zu_p q2, if_pos (by omega), q2, hc]
            · rw [zu_n q2]
              by_cases q3 : t < u
              · rw [if_pos q3, if_pos (by omega)]
              · rw [if_neg q3, if_neg (by omega)]
          by_cases q : 25 ≤ u + 1
          · have f0 := fin 0 (by unfold drz; rw [if_neg (by omega)])
            rw [mdI_z] at f0
            exact br_t (nle (a := 25) q (by omega)) f0
          · refine br_f (ngt (b := 25) (by omega) (by decide)) ⟨vpn (by omega) (by decide), fun y qy => ?_⟩
            rw [cln (by omega), e5.g (u + 1) (by omega), if_neg (by omega), ← mdI_n (n := u + 1) (by omega), md_mul] at qy
            subst qy
            refine fin _ ?_
            unfold drz
            rw [if_pos (by omega), Int.mul_comm]
            rfl
      · obtain ⟨r1, r2, e3, e4⟩ := e
        subst r1 r2
        unfold lp_X12_directs_53
        refine br_f (ngt (b := 5) hi (by decide)) ?_
        refine V_X12_directs_61 3 (fun j a b p g5 g6 => nI k = a ∧ nI i = b ∧ P' = p ∧ mA 25 g5 (drk (pwz f (n + 1)) k) ∧ mA 25 g6 (adz (fcz o n k i j) i (drk (pwz f (n + 1)) k) (dzr o n k (drk (pwz f (n + 1)) k) (dzs o n (pwz f (n + 1)) k) i))) (fun k4 a b p g5 g6 e => ?_) (fun k4 j a b p g5 g6 hj e ih4 => ?_) (i := 0) (Nat.zero_le _) ⟨rfl, rfl, rfl, e3, e4.ex (fun t ht => ?_)⟩
        · obtain ⟨r1, r2, r3, e5, e6⟩ := e
          subst r1 r2 r3
          unfold lp_X12_directs_61
          refine br_t (nle (Nat.le_refl 3) (by decide)) ?_
          unfold jn_X12_directs_150
          exact ih3 _ _ _ _ ⟨rfl, rfl, e5, e6⟩
        · obtain ⟨r1, r2, r3, e5, e6⟩ := e
          subst r1 r2 r3
          unfold lp_X12_directs_61
          refine br_f (ngt (b := 3) hj (by decide)) (wp_placeOf ⟨vpn (by omega) (by decide), wp_power (by omega) (by omega) (fun y qy => ?_)⟩)
          rw [cln (by omega), ho.g _ (by omega), md_mul] at qy
          subst qy
          refine wp_directs96 (by omega) e5 e6 (fun D' hD => ?_)
          unfold jn_X12_directs_144
          refine ih4 _ _ _ _ _ ⟨rfl, rfl, rfl, e5, hD.ex (fun t ht => ?_)⟩
          rw [show fcz o n k i (j + 1) = fcz o n k i j + o (15 * k + 3 * i + j) * (n : Int) ^ j from rfl, adz_add]
        · rw [show fcz o n k i 0 = 0 from rfl, adz_0]
  · obtain ⟨r1, e1, e2⟩ := e
    subst r1
    unfold lp_X12_directs_6
    refine br_f (ngt (b := 25) hi (by decide)) ?_
    rw [nI_1, at25]
    refine ⟨vpn (by omega) (by decide), fun y qy => ⟨vpn hi (by decide), ?_⟩⟩
    rw [cln (by omega), hP.g (n + 1) i (by omega) hi] at qy
    subst qy
    rw [cln (by omega)]
    refine ih _ _ _ ⟨rfl, fun t ht => ?_, fun t ht => ?_⟩
    · by_cases q2 : t = i
      · rw [q2, pk_us]
      · rw [pk_un q2]
        exact e1 t (by omega)
    · by_cases q2 : t = i
      · rw [q2, pk_us]
        rfl
      · rw [pk_un q2]
        exact e2 t (by omega)
theorem pr_direct {x1 x2 : Int32} {F O A P F' O' P' W' D' : Nat → Int32} {f o : Nat → Int} {K : Int32 → (Nat → Int32) → (Nat → Int32) → Int32 → (Nat → Int32) → (Nat → Int32) → (Nat → Int32) → Prop} (hf : rl 5 F F' f) (ho : rl 75 O O' o) (hK : ∀ r a b c d e, K r a b r c d e) : wp_X11_direct x1 x2 F O A P (fun r a b => wp_X12_direct x1 x2 F' O' P' W' D' (fun r2 c d e => K r a b r2 c d e)) := by
  unfold wp_X11_direct
  refine wp_within ⟨fun q => wp_within ⟨fun q2 => ?_, fun q2 => ?_⟩, fun q => ?_⟩
  · obtain ⟨n, hn, rfl⟩ := btw_n (N := 3) (by decide) q
    obtain ⟨u, hu, rfl⟩ := btw_n (N := 20) (by decide) q2
    refine wp_applyToWhole hn (rl_iff.mp ho).1 (rl_iff.mp hf).1 (fun A1 P1 hA => ⟨vpn (by omega) (by decide), ?_⟩)
    unfold wp_X12_direct
    refine wp_isIn (rb_f q (wp_isIn (rb_f q2 (wp_directs hn (rl_iff.mp ho).2 (rl_iff.mp hf).2 (fun P2 W2 D2 h1 h2 => ⟨vpn (by omega) (by decide), ?_⟩)))))
    rw [cln (by omega), h2.g u (by omega), hA.g u (by omega)]
    exact wp_told (hK _ _ _ _ _ _)
  · unfold wp_X12_direct
    exact wp_isIn (rb_f q (wp_isIn (rb_t q2 (hK _ _ _ _ _ _))))
  · unfold wp_X12_direct
    exact wp_isIn (rb_t q (hK _ _ _ _ _ _))
/-- degrees -/
theorem mlz_z {f z : Nat → Int} {d : Nat} (h : ∀ u, d < u → z u = 0) {u : Nat} (hu : d + 4 < u) : mlz f z u = 0 := by
  unfold mlz
  refine sm_z (fun i hi => ?_)
  rw [if_pos (by omega), h (u - i) (by omega), Int.mul_zero]
theorem pwz_z (f : Nat → Int) : ∀ n u : Nat, 4 * n < u → pwz f n u = 0
  | 0, u, h => if_neg (by omega)
  | n + 1, u, h => mlz_z (d := 4 * n) (fun u hu => pwz_z f n u hu) (by omega)
theorem drk_z {P : Nat → Int} {d : Nat} (h : ∀ u, d < u → P u = 0) : ∀ k u : Nat, d < u → drk P k u = 0
  | 0, u, hu => h u hu
  | k + 1, u, hu => by
    show drz 25 (drk P k) u = 0
    unfold drz
    by_cases e : u + 1 < 25
    · rw [if_pos e, drk_z h k (u + 1) (by omega), Int.mul_zero]
    · rw [if_neg e]
theorem dzr_z {o : Nat → Int} {n k : Nat} {W S : Nat → Int} (hW : ∀ u, 16 < u → W u = 0) {u : Nat} (hu : 20 < u) (hS : S u = 0) : ∀ i : Nat, i ≤ 5 → dzr o n k W S i u = 0
  | 0, _ => hS
  | i + 1, h => by
    show adz (fcz o n k i 3) i W (dzr o n k W S i) u = 0
    unfold adz
    rw [dzr_z hW hu hS i (by omega), if_pos (by omega), hW (u - i) (by omega), Int.mul_zero]
    rfl
theorem dzs_z {o : Nat → Int} {n : Nat} {P : Nat → Int} (hP : ∀ u, 16 < u → P u = 0) {u : Nat} (hu : 20 < u) : ∀ k : Nat, dzs o n P k u = 0
  | 0 => rfl
  | k + 1 => dzr_z (drk_z hP k) hu (dzs_z hP hu k) 5 (Nat.le_refl 5)
/-- is it b times the power -/
def isW (w p : Nat → Int) (c : Int) (N : Nat) : Prop := ∀ u, u < N → cg (w u) (c * p u)
theorem wp_wholeIs {c : Int} {n : Nat} {A P F : Nat → Int32} {w f : Nat → Int} {K : Int32 → (Nat → Int32) → Prop} (hn : n ≤ 3) (hA : fA 21 A w) (hf : fA 5 F f) (h1 : isW w (pwz f n) c 21 → ∀ P', K 1 P') (h0 : ¬ isW w (pwz f n) c 21 → ∀ P', K 0 P') : wp_X2_wholeIs (fdI c) (nI n) A P F K := by
  unfold wp_X2_wholeIs
  refine wp_raise (by omega) hf (fun P' hP => ?_)
  refine V_X2_wholeIs_12 21 (fun u g => P' = g ∧ isW w (pwz f n) c u) (fun k g e => ?_) (fun k u g hu e ih => ?_) (i := 0) (Nat.zero_le _) ⟨rfl, fun u hu => absurd hu (Nat.not_lt_zero u)⟩
  · unfold lp_X2_wholeIs_12
    exact br_t (nI_lt (a := 20) (by decide) (by decide)) (h1 e.2 _)
  · obtain ⟨r1, e⟩ := e
    subst r1
    unfold lp_X2_wholeIs_12
    refine br_f (nI_nlt (a := 20) (by omega) (by decide)) ⟨vpn hu (by decide), vpn (by omega) (by decide), ?_⟩
    rw [cln (by omega), hP.g u (by omega), hA.g u hu]
    refine wp_foldmul ⟨fun q => ih _ ⟨rfl, fun t ht => ?_⟩, fun q => h0 (fun h => q (fdI_eq (h u hu))) _⟩
    by_cases q2 : t = u
    · rw [q2]
      exact cg_of_fdI q
    · exact e t (by omega)
theorem sm_ccut {f : Nat → Int} {m : Nat} : ∀ {n : Nat}, m ≤ n → (∀ i, m ≤ i → i < n → cg (f i) 0) → cg (sm f n) (sm f m)
  | 0, h, _ => by rw [Nat.le_zero.mp h]; exact cg.rf
  | n + 1, h, hz => by
    by_cases e : m = n + 1
    · rw [e]
      exact cg.rf
    · have h1 := sm_ccut (f := f) (m := m) (n := n) (by omega) (fun i h1 h2 => hz i h1 (by omega))
      have h2 := cg.add h1 (hz n (by omega) (Nat.lt_succ_self n))
      rw [Int.add_zero] at h2
      exact h2
theorem evz_cut {z : Nat → Int} {s : Int} {t : Nat} (ht : t ≤ 8) (h : ∀ v, t < v → v < 9 → cg (z v) 0) : cg (evz z s 0 9) (evz z s 0 (t + 1)) := by
  unfold evz
  refine sm_ccut (by omega) (fun i h1 h2 => ?_)
  rw [Nat.zero_add]
  exact cg0_mul (h i (by omega) h2)
theorem pr_checked {x1 top isF fB : Int32} {F O b A P F' O' b' P' W' D' : Nat → Int32} {f o z : Nat → Int} {K : Int32 → (Nat → Int32) → (Nat → Int32) → Int32 → (Nat → Int32) → (Nat → Int32) → (Nat → Int32) → Prop} (hf : rl 5 F F' f) (ho : rl 75 O O' o) (hfn : fnd top isF fB) (hb : ¬ isF = 0 → rl 9 b b' z ∧ mon z fB) (hK : ∀ r a b c d e, K r a b r c d e) : wp_X11_checked x1 F O top b A P (fun r a b => wp_X12_checked x1 isF fB F' O' b' P' W' D' (fun r2 c d e => K r a b r2 c d e)) := by
  unfold wp_X11_checked
  refine wp_within ⟨fun q => wp_isThere hfn ⟨fun q2 => ?_, fun q2 => ?_⟩, fun q => ?_⟩
  · obtain ⟨n, hn, rfl⟩ := btw_n (N := 3) (by decide) q
    obtain ⟨hz, t, ht, rfl, -, hz0⟩ := hb q2
    refine wp_applyToWhole hn (rl_iff.mp ho).1 (rl_iff.mp hf).1 (fun A1 P1 hA => ?_)
    refine wp_at (s := (n : Int)) (nI_t (by omega)) (by omega) (rl_iff.mp hz).1 ?_
    -- the model's answer
    have key : ∀ r : Int32, (isW (dzs o n (pwz f (n + 1)) 5) (pwz f n) (evz z n 0 9) 21 ∧ r = 1 ∨ ¬ isW (dzs o n (pwz f (n + 1)) 5) (pwz f n) (evz z n 0 9) 21 ∧ r = 0) → ∀ a b, wp_X12_checked (nI n) isF (nI t) F' O' b' P' W' D' (fun r2 c d e => K r a b r2 c d e) := by
      intro r hr a b1
      unfold wp_X12_checked
      refine wp_isIn (rb_f q (rb_f q2 (wp_directs hn (rl_iff.mp ho).2 (rl_iff.mp hf).2 (fun P2 W2 D2 hP2 hD2 => ?_))))
      refine V_X12_checked_34 (fun m g2 p w d => m ≤ t + 1 ∧ mdI (evz z n m (t + 1 - m)) = g2 ∧ P2 = p ∧ W2 = w ∧ D2 = d) (fun k g2 p w d e => ?_) (fun k i g2 p w d e ih => ?_) ⟨Nat.le_refl _, by rw [Nat.sub_self]; rfl, rfl, rfl, rfl⟩
      · obtain ⟨-, r1, r2, r3, r4⟩ := e
        subst r1 r2 r3 r4
        unfold lp_X12_checked_34
        refine br_t (by decide) ?_
        unfold jn_X12_checked_59
        refine V_X12_checked_64 25 (fun u g2 g3 p w d => mdI (evz z n 0 (t + 1 - 0)) = g2 ∧ P2 = p ∧ W2 = w ∧ D2 = d ∧ (isW (dzs o n (pwz f (n + 1)) 5) (pwz f n) (evz z n 0 (t + 1 - 0)) u ∧ g3 = 1 ∨ ¬ isW (dzs o n (pwz f (n + 1)) 5) (pwz f n) (evz z n 0 (t + 1 - 0)) u ∧ g3 = 0)) (fun k2 g2 g3 p w d e => ?_) (fun k2 u g2 g3 p w d hu e ih2 => ?_) (i := 0) (Nat.zero_le _) ⟨rfl, rfl, rfl, rfl, Or.inl ⟨fun u hu => absurd hu (Nat.not_lt_zero u), rfl⟩⟩
        · obtain ⟨r1, r2, r3, r4, e⟩ := e
          subst r1 r2 r3 r4
          unfold lp_X12_checked_64
          refine br_t (nle (Nat.le_refl 25) (by decide)) ?_
          unfold jn_X12_checked_115
          have hc := evz_cut (s := (n : Int)) ht hz0
          have hiff : isW (dzs o n (pwz f (n + 1)) 5) (pwz f n) (evz z n 0 (t + 1 - 0)) 25 ↔ isW (dzs o n (pwz f (n + 1)) 5) (pwz f n) (evz z n 0 9) 21 := by
            constructor
            · intro h u hu
              exact (h u (by omega)).tr (cg.mul hc.sy cg.rf)
            · intro h u hu
              by_cases g : u < 21
              · exact (h u g).tr (cg.mul hc cg.rf)
              · rw [dzs_z (fun v hv => pwz_z f (n + 1) v (by omega)) (by omega), pwz_z f n u (by omega), Int.mul_zero]
                exact cg.rf
          rw [hiff] at e
          rcases e with ⟨e1, e2⟩ | ⟨e1, e2⟩
          · rcases hr with ⟨h1, h2⟩ | ⟨h1, h2⟩
            · rw [e2, h2]
              exact br_f (by decide) (hK _ _ _ _ _ _)
            · exact absurd e1 h1
          · rcases hr with ⟨h1, h2⟩ | ⟨h1, h2⟩
            · exact absurd h1 e1
            · rw [e2, h2]
              exact br_t rfl (hK _ _ _ _ _ _)
        · obtain ⟨r1, r2, r3, r4, e⟩ := e
          subst r1 r2 r3 r4
          unfold lp_X12_checked_64
          refine br_f (ngt (b := 25) hu (by decide)) ?_
          rcases e with ⟨e1, e2⟩ | ⟨e1, e2⟩
          · rw [e2]
            refine br_f (by decide) ⟨vpn hu (by decide), ?_⟩
            rw [at25]
            refine ⟨vpn (by omega) (by decide), fun y qy => ?_⟩
            rw [cln (by omega), hP2.g n u (by omega) hu, md_mul] at qy
            subst qy
            rw [cln (by omega), hD2.g u hu]
            unfold jn_X12_checked_107 jn_X12_checked_108
            refine ⟨fun g => ih2 _ _ _ _ _ ⟨rfl, rfl, rfl, rfl, Or.inr ⟨fun h => g (mdI_eq (h u (Nat.lt_succ_self u))), rfl⟩⟩, fun g => ih2 _ _ _ _ _ ⟨rfl, rfl, rfl, rfl, Or.inl ⟨fun v hv => ?_, rfl⟩⟩⟩
            by_cases g2 : v = u
            · rw [g2]
              exact cg_of_mdI g
            · exact e1 v (by omega)
          · rw [e2]
            refine br_t rfl ?_
            unfold jn_X12_checked_107 jn_X12_checked_108
            exact ih2 _ _ _ _ _ ⟨rfl, rfl, rfl, rfl, Or.inr ⟨fun h => e1 (fun v hv => h v (by omega)), rfl⟩⟩
      · obtain ⟨hi, r1, r2, r3, r4⟩ := e
        subst r1 r2 r3 r4
        unfold lp_X12_checked_34
        refine br_f (nlt0 (by omega)) ⟨vpn (by omega) (by decide), fun y qy => ?_⟩
        rw [cln (by omega), (hz i (by omega)).2, ← mdI_n (n := n) (by omega), md_muladd] at qy
        refine ih _ _ _ _ ⟨by omega, ?_, rfl, rfl, rfl⟩
        rw [qy, show t + 1 - i = t + 1 - (i + 1) + 1 by omega, evz_s]
    refine wp_wholeIs hn hA (rl_iff.mp hf).1 (fun h P3 => br_f (by decide) (key _ (Or.inl ⟨h, rfl⟩) _ _)) (fun h P3 => br_t rfl (key _ (Or.inr ⟨h, rfl⟩) _ _))
  · unfold wp_X12_checked
    exact wp_isIn (rb_f q (rb_t q2 (hK _ _ _ _ _ _)))
  · unfold wp_X12_checked
    exact wp_isIn (rb_t q (hK _ _ _ _ _ _))
