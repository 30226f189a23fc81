/-! RIGHT -/
theorem hi_cases (A : Nat → Int32) : ∀ n : Nat, n < 2147483648 → (hiA A n = -1 ∧ ∀ i, i < n → A i = 0) ∨ ∃ j, j < n ∧ hiA A n = nI j ∧ ¬ A j = 0 ∧ ∀ i, j < i → i < n → A i = 0
  | 0, _ => Or.inl ⟨rfl, fun i hi => absurd hi (Nat.not_lt_zero i)⟩
  | n + 1, hn => by
    unfold hiA
    by_cases z : A n = 0
    · rw [if_pos z]
      rcases hi_cases A n (by omega) with ⟨h1, h2⟩ | ⟨j, h1, h2, h3, h4⟩
      · refine Or.inl ⟨h1, fun i hi => ?_⟩
        by_cases e : i = n
        · rw [e]
          exact z
        · exact h2 i (by omega)
      · refine Or.inr ⟨j, by omega, h2, h3, fun i h5 h6 => ?_⟩
        by_cases e : i = n
        · rw [e]
          exact z
        · exact h4 i h5 (by omega)
    · rw [if_neg z]
      exact Or.inr ⟨n, by omega, rfl, z, fun i h5 h6 => absurd h5 (by omega)⟩
theorem hi_at {A : Nat → Int32} {n j : Nat} (hn : n < 2147483648) (hj : j < n) (h1 : ¬ A j = 0) (h2 : ∀ i, j < i → i < n → A i = 0) : hiA A n = nI j := by
  rcases hi_cases A n hn with ⟨_, h3⟩ | ⟨m, h3, h4, h5, h6⟩
  · exact absurd (h3 j hj) h1
  · have e : m = j := by
      rcases Nat.lt_trichotomy m j with g | g | g
      · exact absurd (h6 j g hj) h1
      · exact g
      · exact absurd (h2 m g h3) h5
    rw [h4, e]
/-- the lead of a power of F -/
theorem pwz_lead {f : Nat → Int} {d : Nat} (hd : d < 5) (h : ∀ i, d < i → i < 5 → cg (f i) 0) : ∀ e : Nat, cg (pwz f e (d * e)) ((f d) ^ e) ∧ ∀ u, d * e < u → cg (pwz f e u) 0
  | 0 => ⟨by rw [Nat.mul_zero, Int.pow_zero]; exact cg.rf, fun u hu => by rw [show pwz f 0 u = 0 from if_neg (by omega)]; exact cg.rf⟩
  | e + 1 => by
    obtain ⟨h1, h2⟩ := pwz_lead hd h e
    have hm : d * (e + 1) = d * e + d := by rw [Nat.mul_add, Nat.mul_one]
    rw [hm]
    constructor
    · show cg (mlz f (pwz f e) (d * e + d)) (f d ^ (e + 1))
      unfold mlz
      have h3 : cg (sm (fun i => if i ≤ d * e + d then f i * pwz f e (d * e + d - i) else 0) 5) (sm (fun i => if i = d then f i * pwz f e (d * e + d - i) else 0) 5) := by
        refine sm_cg (fun i hi => ?_)
        by_cases c : i = d
        · rw [if_pos c, if_pos (by omega)]
          exact cg.rf
        · rw [if_neg c]
          by_cases c2 : i ≤ d * e + d
          · rw [if_pos c2]
            by_cases c3 : d < i
            · exact cg0_mul (h i c3 hi)
            · rw [Int.mul_comm]
              exact cg0_mul (h2 _ (by omega))
          · rw [if_neg c2]
            exact cg.rf
      refine h3.tr ?_
      rw [sm_if, if_pos hd, Nat.add_sub_cancel, Int.pow_succ, Int.mul_comm]
      exact cg.mul h1 cg.rf
    · intro u hu
      show cg (mlz f (pwz f e) u) 0
      unfold mlz
      have h3 := sm_cg (n := 5) (f := fun i => if i ≤ u then f i * pwz f e (u - i) else 0) (g := fun _ => 0) (fun i hi => by
        by_cases c2 : i ≤ u
        · rw [if_pos c2]
          by_cases c3 : d < i
          · exact cg0_mul (h i c3 hi)
          · rw [Int.mul_comm]
            exact cg0_mul (h2 _ (by omega))
        · rw [if_neg c2]
          exact cg.rf)
      rw [sm_z (f := fun _ => 0) (fun _ _ => rfl)] at h3
      exact h3
/-- RIGHT's numbers, and whether they are -/
def rtz (f : Nat → Int) (W : Nat → Nat → Int) (d L : Nat) : Nat → Int := fun v => if L = 0 then 0 else W (d * (L - 1)) v * (pwz f (L - 1) (d * (L - 1))) ^ 10005
def isR (f : Nat → Int) (W : Nat → Nat → Int) (R : Nat → Int) (L : Nat) : Prop := ∀ u v, u < 25 → v < 9 → cg (W u v) (R v * pwz f (L - 1) u)
theorem wp_sumIs {A b P : Nat → Int32} {W : Nat → Nat → Int} {R f : Nat → Int} {L : Nat} {K : Int32 → Prop} (hA : fG 9 25 A W) (hb : fA 9 b R) (hP : fA 25 P (pwz f (L - 1))) (hK : ∀ r, (isR f W R L ∧ r = 1 ∨ ¬ isR f W R L ∧ r = 0) → K r) : wp_X2_sumIsBTimesPower A b P K := by
  unfold wp_X2_sumIsBTimesPower
  refine V_X2_sumIsBTimesPower_2 25 (fun u => ∀ u' v', u' < u → v' < 9 → cg (W u' v') (R v' * pwz f (L - 1) u')) (fun k e => ?_) (fun k u hu e ih => ?_) (i := 0) (Nat.zero_le _) (fun u' v' h => absurd h (Nat.not_lt_zero u'))
  · unfold lp_X2_sumIsBTimesPower_2
    exact br_t (nle (Nat.le_refl 25) (by decide)) (hK _ (Or.inl ⟨fun u v hu hv => e u v hu hv, rfl⟩))
  · unfold lp_X2_sumIsBTimesPower_2
    refine br_f (ngt (b := 25) hu (by decide)) ?_
    refine V_X2_sumIsBTimesPower_10 9 (fun v a => nI u = a ∧ ∀ v', v' < v → cg (W u v') (R v' * pwz f (L - 1) u)) (fun k2 a e2 => ?_) (fun k2 v a hv e2 ih2 => ?_) (i := 0) (Nat.zero_le _) ⟨rfl, fun v' h => absurd h (Nat.not_lt_zero v')⟩
    · obtain ⟨r1, e2⟩ := e2
      subst r1
      unfold lp_X2_sumIsBTimesPower_10
      refine br_t (nle (Nat.le_refl 9) (by decide)) ?_
      unfold jn_X2_sumIsBTimesPower_56
      refine ih (fun u' v' h1 h2 => ?_)
      by_cases c : u' = u
      · rw [c]
        exact e2 v' h2
      · exact e u' v' (by omega) h2
    · obtain ⟨r1, e2⟩ := e2
      subst r1
      unfold lp_X2_sumIsBTimesPower_10
      refine br_f (ngt (b := 9) hv (by decide)) ?_
      rw [at9]
      refine ⟨vpn (by omega) (by decide), vpn hv (by decide), vpn hu (by decide), ?_⟩
      rw [cln (by omega), cln (by omega), cln (by omega), hb.g v hv, hP.g u hu, hA.g u v hu hv]
      refine wp_foldmul ⟨fun q => ih2 _ ⟨rfl, fun v' hv' => ?_⟩, fun q => hK _ (Or.inr ⟨fun h => q (fdI_eq (h u v hu hv)), rfl⟩)⟩
      by_cases c : v' = v
      · rw [c]
        exact cg_of_fdI q
      · exact e2 v' (by omega)
theorem wp_toPowerOfS {d : Nat} {A b D N P O F : Nat → Int32} {o f : Nat → Int} {W : Nat → Nat → Int} {K : Int32 → (Nat → Int32) → (Nat → Int32) → (Nat → Int32) → (Nat → Int32) → (Nat → Int32) → Prop} (ho : fA 75 O o) (hf : fA 5 F f) (hd : d < 5) (hd1 : ¬ cg (f d) 0) (hd2 : ∀ i, d < i → i < 5 → cg (f i) 0) (hW : W = fun u v => sm (fun n => o n * wt f (orA O 75) n u v) 75)
    (hK : ∀ r a b' c n p, fA 9 b' (rtz f W d (orA O 75)) → (isR f W (rtz f W d (orA O 75)) (orA O 75) ∧ r = 1 ∨ ¬ isR f W (rtz f W d (orA O 75)) (orA O 75) ∧ r = 0) → K r a b' c n p) : wp_X2_toPowerOfS A b D N P O F K := by
  unfold wp_X2_toPowerOfS
  refine wp_apply ho hf (fun A1 D1 N1 hA1 => wp_topDer ?_)
  have hA2 : fG 9 25 A1 W := by
    rw [hW]
    exact hA1.cg (fun u v _ _ => wk_eq ho u v)
  have hL : orA O 75 ≤ 4 := by
    have := orA_le O 75
    omega
  clear hW hA1
  generalize orA O 75 = L at hL hK ⊢
  by_cases L0 : L = 0
  · subst L0
    refine rb_t rfl (wp_fill_spec (by decide) (wp_highest (by decide) ?_))
    have hR : fA 9 (fun i => if i < 9 then 0 else b i) (rtz f W d 0) := fun i hi => by
      show (if i < 9 then (0 : Int32) else b i) = fdI 0
      rw [if_pos hi, fdI_z]
    rcases hi_cases A1 225 (by decide) with ⟨h1, h2⟩ | ⟨j, h1, h2, h3, h4⟩
    · rw [h1]
      refine br_f (by decide) (hK _ _ _ _ _ _ hR (Or.inl ⟨fun u v hu hv => ?_, rfl⟩))
      have h3 := h2 (9 * u + v) (by omega)
      rw [hA2.g u v hu hv, fdI_0] at h3
      show cg (W u v) (0 * _)
      rw [Int.zero_mul]
      exact h3
    · rw [h2]
      refine br_t (nI_pos' (by omega)) (hK _ _ _ _ _ _ hR (Or.inr ⟨fun h => h3 ?_, rfl⟩))
      have h5 := h (j / 9) (j % 9) (by omega) (by omega)
      have h6 : A1 j = A1 (9 * (j / 9) + j % 9) := by
        congr 1
        omega
      rw [h6, hA2.g (j / 9) (j % 9) (by omega) (by omega), fdI_0]
      have h7 : rtz f W d 0 (j % 9) = 0 := rfl
      rw [h7, Int.zero_mul] at h5
      exact h5
  · refine rb_f (fun e => L0 ((nI_eq (a := L) (b := 0) (by omega) (by decide)).mp e)) ?_
    rw [sub1 (by omega)]
    refine wp_raise (by omega) hf (fun P1 hP1 => wp_highest (by decide) ?_)
    obtain ⟨l1, l2⟩ := pwz_lead hd hd2 (L - 1)
    have hnz : ¬ cg (pwz f (L - 1) (d * (L - 1))) 0 := fun h => cg_pow0 hd1 (L - 1) (l1.sy.tr h)
    have hb1 : d * (L - 1) ≤ 12 := by
      have := Nat.mul_le_mul (show d ≤ 4 by omega) (show L - 1 ≤ 3 by omega)
      omega
    have hhi : hiA P1 25 = nI (d * (L - 1)) := hi_at (by decide) (by omega) (by rw [hP1.g _ (by omega), fdI_0]; exact hnz) (fun i h1 h2 => by rw [hP1.g i h2, fdI_0]; exact l2 i h1)
    rw [hhi]
    refine br_t (nI_pos' (by omega)) ⟨vpn (by omega) (by decide), ?_⟩
    rw [cln (by omega), hP1.g _ (by omega)]
    refine wp_inverse rfl ?_
    refine V_X2_toPowerOfS_81 9 (fun v a c s b' g1 g2 p => nI (d * (L - 1)) = a ∧ fdI (pwz f (L - 1) (d * (L - 1)) ^ 10005) = c ∧ A1 = s ∧ D1 = g1 ∧ N1 = g2 ∧ P1 = p ∧ fA v b' (rtz f W d L)) (fun k a c s b' g1 g2 p e => ?_) (fun k v a c s b' g1 g2 p hv e ih => ?_) (i := 0) (Nat.zero_le _) ⟨rfl, rfl, rfl, rfl, rfl, rfl, fun i hi => absurd hi (Nat.not_lt_zero i)⟩
    · obtain ⟨r1, r2, r3, r4, r5, r6, e⟩ := e
      subst r1 r2 r3 r4 r5 r6
      unfold lp_X2_toPowerOfS_81
      refine br_t (nle (Nat.le_refl 9) (by decide)) ?_
      unfold jn_X2_toPowerOfS_122
      refine wp_sumIs hA2 e hP1 (fun r hr => ⟨?_, hK _ _ _ _ _ _ e hr⟩)
      rcases hr with ⟨_, hr⟩ | ⟨_, hr⟩ <;> rw [hr] <;> rfl
    · obtain ⟨r1, r2, r3, r4, r5, r6, e⟩ := e
      subst r1 r2 r3 r4 r5 r6
      unfold lp_X2_toPowerOfS_81
      refine br_f (ngt (b := 9) hv (by decide)) ?_
      rw [at9]
      refine ⟨vpn (by omega) (by decide), ?_⟩
      rw [cln (by omega), hA2.g _ v (by omega) hv]
      refine wp_foldmul ⟨vpn hv (by decide), ?_⟩
      rw [cln (by omega)]
      refine ih _ _ _ _ _ _ _ ⟨rfl, rfl, rfl, rfl, rfl, rfl, fun t ht => ?_⟩
      by_cases c : t = v
      · rw [c, pk_us]
        unfold rtz
        rw [if_neg L0, Int.mul_comm]
      · rw [pk_un c]
        exact e t (by omega)
/-- the model's -/
theorem wp_isRight {d : Nat} {F O P g C Rt : Nat → Int32} {o f : Nat → Int} {W : Nat → Nat → Int} {K : Int32 → (Nat → Int32) → (Nat → Int32) → (Nat → Int32) → (Nat → Int32) → Prop} (ho : mA 75 O o) (hf : mA 5 F f) (hd : d < 5) (hdF : hiA F 5 = nI d) (hW : W = fun u v => sm (fun n => o n * wt f (orA O 75) n u v) 75)
    (hK : ∀ r p g' c R', mA 9 R' (rtz f W d (orA O 75)) → (isR f W (rtz f W d (orA O 75)) (orA O 75) ∧ r = 1 ∨ ¬ isR f W (rtz f W d (orA O 75)) (orA O 75) ∧ r = 0) → K r p g' c R') : wp_X12_isRight F O P g C Rt K := by
  unfold wp_X12_isRight
  refine wp_orderOf (wp_works ho hf (fun P' g' C' hP hC => ?_))
  rw [← hW] at hC
  clear hW
  have hL : orA O 75 ≤ 4 := by
    have := orA_le O 75
    omega
  generalize orA O 75 = L at hL hK ⊢
  have hb1 : d * (L - 1) ≤ 12 := by
    have := Nat.mul_le_mul (show d ≤ 4 by omega) (show L - 1 ≤ 3 by omega)
    omega
  -- the part behind, power e
  have main : jn_X12_isRight_20 F O K (nI L) (nI (L - 1)) P' g' C' Rt := by
    unfold jn_X12_isRight_20
    refine wp_degreeOf (fun y2 q2 => ?_)
    rw [hdF, pk_mul] at q2
    subst q2
    rw [at25]
    refine ⟨vpn (by omega) (by decide), ?_⟩
    rw [cln (by omega), hP.g (L - 1) (d * (L - 1)) (by omega) (by omega)]
    refine wp_minverse rfl ?_
    refine V_X12_isRight_50 9 (fun v a b c e5 x5 p q cc R' => nI L = a ∧ nI (L - 1) = b ∧ nI (d * (L - 1)) = c ∧ mdI (pwz f (L - 1) (d * (L - 1)) ^ 10005) = e5 ∧ P' = p ∧ g' = q ∧ C' = cc ∧ mA v R' (rtz f W d L) ∧ ((∀ u v', u < 25 → v' < v → cg (W u v') (rtz f W d L v' * pwz f (L - 1) u)) ∧ x5 = 1 ∨ ¬ (∀ u v', u < 25 → v' < v → cg (W u v') (rtz f W d L v' * pwz f (L - 1) u)) ∧ x5 = 0)) (fun k a b c e5 x5 p q cc R' e => ?_) (fun k v a b c e5 x5 p q cc R' hv e ih => ?_) (i := 0) (Nat.zero_le _) ⟨rfl, rfl, rfl, rfl, rfl, rfl, rfl, fun i hi => absurd hi (Nat.not_lt_zero i), Or.inl ⟨fun u v' _ h => absurd h (Nat.not_lt_zero v'), rfl⟩⟩
    · obtain ⟨r1, r2, r3, r4, r5, r6, r7, e, e2⟩ := e
      subst r1 r2 r3 r4 r5 r6 r7
      unfold lp_X12_isRight_50
      refine br_t (nle (Nat.le_refl 9) (by decide)) ⟨?_, hK _ _ _ _ _ e e2⟩
      rcases e2 with ⟨_, hr⟩ | ⟨_, hr⟩ <;> rw [hr] <;> rfl
    · obtain ⟨r1, r2, r3, r4, r5, r6, r7, e, e2⟩ := e
      subst r1 r2 r3 r4 r5 r6 r7
      unfold lp_X12_isRight_50
      refine br_f (ngt (b := 9) hv (by decide)) ?_
      have go : ∀ c : Int, c = rtz f W d L v → jn_X12_isRight_90 F O (fun x1 x2 x3 x4 x5 x6 A_powers A_lefts A_cells A_right => lp_X12_isRight_50 F O K k x1 x2 x3 x4 x5 x6 A_powers A_lefts A_cells A_right) K (nI L) (nI (L - 1)) (nI (d * (L - 1))) (mdI (pwz f (L - 1) (d * (L - 1)) ^ 10005)) x5 (nI v) (nI v) (mdI c) P' g' C' R' := by
        intro c hc
        subst hc
        unfold jn_X12_isRight_90
        refine ⟨vpn hv (by decide), ?_⟩
        rw [cln (by omega)]
        have hR2 : mA (v + 1) (upd R' v (mdI (rtz f W d L v))) (rtz f W d L) := fun t ht => by
          by_cases c2 : t = v
          · rw [c2, pk_us]
          · rw [pk_un c2]
            exact e t (by omega)
        refine V_X12_isRight_94 25 (fun u a b c e5 x5 x6 p q cc R2 => nI L = a ∧ nI (L - 1) = b ∧ nI (d * (L - 1)) = c ∧ mdI (pwz f (L - 1) (d * (L - 1)) ^ 10005) = e5 ∧ nI v = x6 ∧ P' = p ∧ g' = q ∧ C' = cc ∧ upd R' v (mdI (rtz f W d L v)) = R2 ∧ (((∀ u v', u < 25 → v' < v → cg (W u v') (rtz f W d L v' * pwz f (L - 1) u)) ∧ ∀ u', u' < u → cg (W u' v) (rtz f W d L v * pwz f (L - 1) u')) ∧ x5 = 1 ∨ ¬ ((∀ u v', u < 25 → v' < v → cg (W u v') (rtz f W d L v' * pwz f (L - 1) u)) ∧ ∀ u', u' < u → cg (W u' v) (rtz f W d L v * pwz f (L - 1) u')) ∧ x5 = 0)) (fun k2 a b c e5 x5 x6 p q cc R2 e3 => ?_) (fun k2 u a b c e5 x5 x6 p q cc R2 hu e3 ih3 => ?_) (i := 0) (Nat.zero_le _) ⟨rfl, rfl, rfl, rfl, rfl, rfl, rfl, rfl, rfl, ?_⟩
        · obtain ⟨r1, r2, r3, r4, r5, r6, r7, r8, r9, e3⟩ := e3
          subst r1 r2 r3 r4 r5 r6 r7 r8 r9
          unfold lp_X12_isRight_94
          refine br_t (nle (Nat.le_refl 25) (by decide)) ?_
          unfold jn_X12_isRight_159
          refine ih _ _ _ _ _ _ _ _ _ ⟨rfl, rfl, rfl, rfl, rfl, rfl, rfl, hR2, ?_⟩
          rcases e3 with ⟨⟨h1, h2⟩, h3⟩ | ⟨h1, h3⟩
          · refine Or.inl ⟨fun u v' hu hv' => ?_, h3⟩
            by_cases c2 : v' = v
            · rw [c2]
              exact h2 u hu
            · exact h1 u v' hu (by omega)
          · exact Or.inr ⟨fun h => h1 ⟨fun u v' hu hv' => h u v' hu (by omega), fun u' hu' => h u' v hu' (by omega)⟩, h3⟩
        · obtain ⟨r1, r2, r3, r4, r5, r6, r7, r8, r9, e3⟩ := e3
          subst r1 r2 r3 r4 r5 r6 r7 r8 r9
          unfold lp_X12_isRight_94
          refine br_f (ngt (b := 25) hu (by decide)) ?_
          unfold jn_X12_isRight_150 jn_X12_isRight_151
          rcases e3 with ⟨⟨h1, h2⟩, h3⟩ | ⟨h1, h3⟩
          · rw [h3]
            refine br_f (by decide) ?_
            rw [at9', at25]
            refine ⟨vpn (by omega) (by decide), vpn hv (by decide), vpn (by omega) (by decide), fun y4 q4 => ?_⟩
            rw [cln (by omega), cln (by omega), pk_us, hP.g (L - 1) u (by omega) hu, md_mul] at q4
            subst q4
            rw [cln (by omega), hC.g u v hu hv]
            refine ⟨fun q => ih3 _ _ _ _ _ _ _ _ _ _ ⟨rfl, rfl, rfl, rfl, rfl, rfl, rfl, rfl, rfl, Or.inr ⟨fun h => q (mdI_eq (h.2 u (Nat.lt_succ_self u))), rfl⟩⟩, fun q => ih3 _ _ _ _ _ _ _ _ _ _ ⟨rfl, rfl, rfl, rfl, rfl, rfl, rfl, rfl, rfl, Or.inl ⟨⟨h1, fun u' hu' => ?_⟩, rfl⟩⟩⟩
            by_cases c2 : u' = u
            · rw [c2]
              exact cg_of_mdI q
            · exact h2 u' (by omega)
          · rw [h3]
            exact br_t rfl (ih3 _ _ _ _ _ _ _ _ _ _ ⟨rfl, rfl, rfl, rfl, rfl, rfl, rfl, rfl, rfl, Or.inr ⟨fun h => h1 ⟨h.1, fun u' hu' => h.2 u' (by omega)⟩, rfl⟩⟩)
        · rcases e2 with ⟨h1, h3⟩ | ⟨h1, h3⟩
          · exact Or.inl ⟨⟨h1, fun u' h => absurd h (Nat.not_lt_zero u')⟩, h3⟩
          · exact Or.inr ⟨fun h => h1 h.1, h3⟩
      by_cases L0 : L = 0
      · subst L0
        have g0 := go 0 rfl
        rw [mdI_z] at g0
        exact rb_t rfl g0
      · refine rb_f (fun e => L0 ((nI_eq (a := L) (b := 0) (by omega) (by decide)).mp e)) ?_
        rw [at9']
        refine ⟨vpn (by omega) (by decide), fun y3 q3 => ?_⟩
        rw [cln (by omega), hC.g _ v (by omega) hv, md_mul] at q3
        subst q3
        exact go _ (by unfold rtz; rw [if_neg L0])
  by_cases L0 : L = 0
  · subst L0
    exact rb_t rfl main
  · refine rb_f (fun e => L0 ((nI_eq (a := L) (b := 0) (by omega) (by decide)).mp e)) ?_
    rw [sub1 (by omega)]
    exact main
theorem wp_right50 {x1 : Int32} {F O P g C R : Nat → Int32} {K : Int32 → (Nat → Int32) → (Nat → Int32) → (Nat → Int32) → (Nat → Int32) → Prop} (hK : K (hiA R 9) P g C R) : ∃ k, lp_X12_right_50 x1 F O K k 8 P g C R := by
  refine V_X12_right_50 (fun n a b c r => n ≤ 9 ∧ P = a ∧ g = b ∧ C = c ∧ R = r ∧ hiA R n = hiA R 9) (fun k a b c r e => ?_) (fun k i a b c r e ih => ?_) (n := 8) ⟨by decide, rfl, rfl, rfl, rfl, rfl⟩
  · obtain ⟨-, r1, r2, r3, r4, e⟩ := e
    subst r1 r2 r3 r4
    unfold lp_X12_right_50
    refine br_t (by decide) ?_
    rw [← e] at hK
    exact hK
  · obtain ⟨hi, r1, r2, r3, r4, e⟩ := e
    subst r1 r2 r3 r4
    unfold lp_X12_right_50
    refine br_f (nlt0 (by omega)) ⟨vpn (by omega) (by decide), ?_⟩
    rw [cln (by omega)]
    unfold hiA at e
    refine ⟨fun q => ?_, fun q => ?_⟩
    · rw [if_neg q] at e
      rw [show hiA R 9 = nI i from e.symm] at hK
      exact hK
    · rw [if_pos q] at e
      exact ih _ _ _ _ ⟨by omega, rfl, rfl, rfl, rfl, e⟩
theorem pr_right {x1 : Int32} {F O A b D N P F' O' P' g' C' R' : Nat → Int32} {f o : Nat → Int} {K : Int32 → (Nat → Int32) → (Nat → Int32) → (Nat → Int32) → (Nat → Int32) → (Nat → Int32) → Int32 → (Nat → Int32) → (Nat → Int32) → (Nat → Int32) → (Nat → Int32) → Prop} (hf : rl 5 F F' f) (ho : rl 75 O O' o) (hK : ∀ r a b c d e g h i j, K r a b c d e r g h i j) : wp_X11_right x1 F O A b D N P (fun r a b c d e => wp_X12_right x1 F' O' P' g' C' R' (fun r2 g h i j => K r a b c d e r2 g h i j)) := by
  unfold wp_X11_right
  refine wp_within ⟨fun q => wp_highest (by decide) ?_, fun q => ?_⟩
  · have hh := hf.hi 5 (Nat.le_refl 5)
    rcases hi_cases F 5 (by decide) with ⟨h1, _⟩ | ⟨d, h1, h2, h3, h4⟩
    · rw [h1] at hh ⊢
      refine br_f (by decide) ?_
      unfold wp_X12_right
      refine wp_isIn (rb_f q (wp_degreeOf ?_))
      rw [← hh]
      exact br_f (by decide) (hK _ _ _ _ _ _ _ _ _ _)
    · rw [h2] at hh ⊢
      refine ⟨fun q2 => ?_, fun q2 => ?_⟩
      · have hd1 : ¬ cg (f d) 0 := by
          rw [← fdI_0, ← (hf d h1).1]
          exact h3
        have hd2 : ∀ i, d < i → i < 5 → cg (f i) 0 := fun i h5 h6 => by
          rw [← fdI_0, ← (hf i h6).1]
          exact h4 i h5 h6
        refine wp_toPowerOfS (rl_iff.mp ho).1 (rl_iff.mp hf).1 h1 hd1 hd2 rfl (fun r a b' c n p hb hr => ?_)
        have hor := ho.or 75 (Nat.le_refl 75)
        rw [hor] at hb hr
        -- the model's side
        have key : ∀ (K2 : Int32 → (Nat → Int32) → (Nat → Int32) → (Nat → Int32) → (Nat → Int32) → Prop), (∀ (p2 g2 c2 R2 : Nat → Int32), mA 9 R2 (rtz f (fun u v => sm (fun n => o n * wt f (orA O' 75) n u v) 75) d (orA O' 75)) → ((¬ r = 0 → ((x1 < 0 → ∃ k50 : Nat, lp_X12_right_50 x1 F' O' K2 k50 8 p2 g2 c2 R2) ∧ (¬ x1 < 0 → vp_in x1 9 ∧ wp_X12_told (R2 x1.toNatClampNeg) (fun y9 => K2 y9 p2 g2 c2 R2)))) ∧ (r = 0 → K2 (-5) p2 g2 c2 R2))) → wp_X12_right x1 F' O' P' g' C' R' K2 := by
          intro K2 hK2
          unfold wp_X12_right
          refine wp_isIn (rb_f q (wp_degreeOf ?_))
          rw [← hh]
          refine br_t q2 (wp_isRight (rl_iff.mp ho).2 (rl_iff.mp hf).2 h1 hh.symm rfl (fun r2 p2 g2 c2 R2 hR2 hr2 => ?_))
          have e : r2 = r := by
            rcases hr with ⟨a1, a2⟩ | ⟨a1, a2⟩
            · rcases hr2 with ⟨b1, b2⟩ | ⟨b1, b2⟩
              · rw [a2, b2]
              · exact absurd a1 b1
            · rcases hr2 with ⟨b1, b2⟩ | ⟨b1, b2⟩
              · exact absurd b1 a1
              · rw [a2, b2]
          rw [e]
          exact hK2 p2 g2 c2 R2 hR2
        refine ⟨fun q3 => ⟨fun q4 => ?_, fun q4 => ?_⟩, fun q3 => ?_⟩
        · have hb2 := btw_i q
          have k1 : (-1 : Int32).toInt = -1 := rfl
          have k8 : (8 : Int32).toInt = 8 := rfl
          have hne : x1.toInt ≠ -1 := fun e => q4 (ieq e)
          obtain ⟨v, hv, rfl⟩ : ∃ v : Nat, v ≤ 8 ∧ x1 = nI v := ⟨x1.toInt.toNat, by omega, i_nI (by omega)⟩
          refine ⟨vpn (by omega) (by decide), key _ (fun p2 g2 c2 R2 hR2 => rb_f q3 (br_f (nlt0 (by omega)) ⟨vpn (by omega) (by decide), ?_⟩))⟩
          rw [cln (by omega), hR2.g v (by omega), hb.g v (by omega)]
          exact wp_told (hK _ _ _ _ _ _ _ _ _ _)
        · subst q4
          refine wp_highest (by decide) (key _ (fun p2 g2 c2 R2 hR2 => rb_f q3 (br_t (by decide) (wp_right50 ?_))))
          have h2 : rl 9 b' R2 (rtz f (fun u v => sm (fun n => o n * wt f (orA O' 75) n u v) 75) d (orA O' 75)) := rl_iff.mpr ⟨hb, hR2⟩
          rw [h2.hi 9 (Nat.le_refl 9)]
          exact hK _ _ _ _ _ _ _ _ _ _
        · exact key _ (fun p2 g2 c2 R2 hR2 => rb_t q3 (hK _ _ _ _ _ _ _ _ _ _))
      · unfold wp_X12_right
        refine wp_isIn (rb_f q (wp_degreeOf ?_))
        rw [← hh]
        exact br_f q2 (hK _ _ _ _ _ _ _ _ _ _)
  · unfold wp_X12_right
    exact wp_isIn (rb_t q (hK _ _ _ _ _ _ _ _ _ _))
