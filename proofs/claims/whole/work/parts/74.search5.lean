/-! search: the model lays its columns -/
def mT (N : Nat) (tb : Nat → Int32) (T : Nat → Nat → Int) : Prop := ∀ r c, r < 225 → c < N → tb (84 * r + c) = mdI (T r c)
theorem mT.g {N : Nat} {tb : Nat → Int32} {T : Nat → Nat → Int} (h : mT N tb T) (r c : Nat) (hr : r < 225) (hc : c < N) : tb (84 * r + c) = mdI (T r c) := h r c hr hc
theorem mT.up {N : Nat} {tb : Nat → Int32} {T : Nat → Nat → Int} (h : mT N tb T) (hN : N ≤ 84) {r0 c0 : Nat} (hc : c0 < 84) (w : Int) : mT N (upd tb (84 * r0 + c0) (mdI w)) (zu2 T r0 c0 w) := by
  intro r c hr hc2
  by_cases q : r = r0 ∧ c = c0
  · rw [zu2_p q, q.1, q.2, pk_us]
  · rw [zu2_n q, pk_un (fun q2 => q (ix_inj (show c < 84 by omega) hc q2))]
    exact h r c hr hc2
theorem mT.ex {N : Nat} {tb : Nat → Int32} {T W : Nat → Nat → Int} (h : mT N tb T) (q : ∀ r c, r < 225 → c < N → T r c = W r c) : mT N tb W := fun r c hr hc => by rw [h r c hr hc, q r c hr hc]
theorem mT.cc {N : Nat} {tb : Nat → Int32} {T W : Nat → Nat → Int} (h : mT N tb T) (q : ∀ r c, r < 225 → c < N → cg (T r c) (W r c)) : mT N tb W := fun r c hr hc => by rw [h r c hr hc, mdI_eq (q r c hr hc)]
theorem at84 (r c : Nat) : (84 : Int32) * nI r + nI c = nI (84 * r + c) := by
  rw [show (84 : Int32) = nI 84 from rfl, pk_mul, nI_add]
theorem wp_lays {m : Nat} {A tb : Nat → Int32} {C : Nat → Nat → Int} {K : (Nat → Int32) → Prop} (hm : m < 84) (hA : mA 225 A (C m)) (h : mT m tb (fun r c => C c r)) (hK : ∀ tb', mT (m + 1) tb' (fun r c => C c r) → K tb') : wp_X12_lays (nI m) A tb K := by
  unfold wp_X12_lays
  refine V_X12_lays_2 225 (fun i g => mT m g (fun r c => C c r) ∧ ∀ r, r < i → g (84 * r + m) = mdI (C m r)) (fun k g e => ?_) (fun k i g hi e ih => ?_) (i := 0) (Nat.zero_le _) ⟨h, fun r hr => absurd hr (Nat.not_lt_zero r)⟩
  · unfold lp_X12_lays_2
    refine br_t (nle (Nat.le_refl 225) (by decide)) (hK _ (fun r c hr hc => ?_))
    by_cases q : c = m
    · rw [q]
      exact e.2 r hr
    · exact e.1 r c hr (by omega)
  · obtain ⟨e1, e2⟩ := e
    unfold lp_X12_lays_2
    refine br_f (ngt (b := 225) hi (by decide)) ⟨vpn hi (by decide), fun y q => ?_⟩
    rw [cln (by omega), hA.g i hi] at q
    subst q
    rw [at84]
    refine ⟨vpn (by omega) (by decide), ?_⟩
    rw [cln (by omega)]
    refine ih _ ⟨fun r c hr hc => ?_, fun r hr => ?_⟩
    · rw [pk_un (by omega)]
      exact e1 r c hr hc
    · by_cases q : r = i
      · rw [q, pk_us]
      · rw [pk_un (by omega)]
        exact e2 r (by omega)
theorem mgk_D0 (f : Nat → Int) (e u w : Nat) : mgk f e (DD f 0) u w = if w = 0 then pwz f e u else 0 := by
  rw [mgk_cv]
  have h1 : ∀ x, x < u + 1 → pwz f e x * DD f 0 (u - x) w = if x = u then (if w = 0 then pwz f e x else 0) else 0 := by
    intro x hx
    show pwz f e x * (if u - x = 0 ∧ w = 0 then 1 else 0) = _
    by_cases c : x = u
    · rw [if_pos c]
      by_cases c2 : w = 0
      · rw [if_pos ⟨by omega, c2⟩, if_pos c2, Int.mul_one]
      · rw [if_neg (fun q => c2 q.2), if_neg c2, Int.mul_zero]
    · rw [if_neg (by omega), if_neg c, Int.mul_zero]
  rw [sm_ext h1, sm_if (f := fun x => if w = 0 then pwz f e x else 0), if_pos (by omega)]
theorem wp_laysColumns {kk d1 s1 : Nat} {f : Nat → Int} {F P g Cl tb ow : Nat → Int32} {K : Int32 → (Nat → Int32) → (Nat → Int32) → (Nat → Int32) → (Nat → Int32) → (Nat → Int32) → Prop} (hk1 : 1 ≤ kk) (hkk : kk ≤ 4) (hd : d1 ≤ 5) (hd0 : 0 < d1) (hs : s1 ≤ 3) (hs0 : 0 < s1) (hf : mA 5 F f)
    (hK : ∀ p g' cl tb' ow', mT (fst_ kk d1 s1 + 9) tb' (fun r c => colz f kk d1 s1 c r) → (∀ c, c < fst_ kk d1 s1 → ow' c = nI (ownz kk d1 s1 c)) → K (nI (fst_ kk d1 s1)) p g' cl tb' ow') : wp_X12_laysColumns (nI kk) (nI (d1 - 1)) (nI (s1 - 1)) F P g Cl tb ow K := by
  unfold wp_X12_laysColumns
  have hfb := fst_b hkk hd hs
  refine wp_tellsLefts hf (fun P' g' hP hg => ?_)
  refine V_X12_laysColumns_10 (kk + 1) (fun k x4 p q cl t o => nI (s1 * (d1 * k)) = x4 ∧ P' = p ∧ g' = q ∧ mT (s1 * (d1 * k)) t (fun r c => colz f kk d1 s1 c r) ∧ ∀ c, c < s1 * (d1 * k) → o c = nI (ownz kk d1 s1 c)) (fun k2 x4 p q cl t o e => ?_) (fun k2 k x4 p q cl t o hk e ih => ?_) (i := 0) (Nat.zero_le _) ⟨by rw [Nat.mul_zero, Nat.mul_zero]; rfl, rfl, rfl, fun r c _ hc => absurd hc (by rw [Nat.mul_zero, Nat.mul_zero]; exact Nat.not_lt_zero c), fun c hc => absurd hc (by rw [Nat.mul_zero, Nat.mul_zero]; exact Nat.not_lt_zero c)⟩
  · obtain ⟨r1, r2, r3, e1, e2⟩ := e
    subst r1 r2 r3
    unfold lp_X12_laysColumns_10
    refine br_t (nI_lt (by omega) (by omega)) ?_
    unfold jn_X12_laysColumns_93
    refine V_X12_laysColumns_96 9 (fun v x4 p q cl t o2 => nI (fst_ kk d1 s1) = x4 ∧ P' = p ∧ g' = q ∧ o = o2 ∧ mT (fst_ kk d1 s1 + v) t (fun r c => colz f kk d1 s1 c r)) (fun k3 x4 p q cl t o2 e => ?_) (fun k3 v x4 p q cl t o2 hv e ih => ?_) (i := 0) (Nat.zero_le _) ⟨rfl, rfl, rfl, rfl, e1⟩
    · obtain ⟨r1, r2, r3, r4, e3⟩ := e
      subst r1 r2 r3 r4
      unfold lp_X12_laysColumns_96
      exact br_t (nle (Nat.le_refl 9) (by decide)) (hK _ _ _ _ _ e3 e2)
    · obtain ⟨r1, r2, r3, r4, e3⟩ := e
      subst r1 r2 r3 r4
      unfold lp_X12_laysColumns_96
      refine br_f (ngt (b := 9) hv (by decide)) (wp_clears (fun C0 hC0 => ?_))
      refine V_X12_laysColumns_110 17 (fun u x4 x5 p q cl t2 o2 => nI (fst_ kk d1 s1) = x4 ∧ nI v = x5 ∧ P' = p ∧ g' = q ∧ t = t2 ∧ o = o2 ∧ mG 9 25 cl (fun u' v' => if v' = v ∧ u' < u then pwz f (kk - 1) u' else 0)) (fun k4 x4 x5 p q cl t2 o2 e => ?_) (fun k4 u x4 x5 p q cl t2 o2 hu e ih4 => ?_) (i := 0) (Nat.zero_le _) ⟨rfl, rfl, rfl, rfl, rfl, rfl, hC0.ex (fun u' v' _ _ => by rw [if_neg (by omega)])⟩
      · obtain ⟨r1, r2, r3, r4, r5, r6, e4⟩ := e
        subst r1 r2 r3 r4 r5 r6
        unfold lp_X12_laysColumns_110
        refine br_t (nle (Nat.le_refl 17) (by decide)) ?_
        unfold jn_X12_laysColumns_150
        rw [nI_add]
        refine wp_lays (C := colz f kk d1 s1) (by omega) ?_ e3 (fun tb' htb => ih _ _ _ _ _ _ ⟨rfl, rfl, rfl, rfl, htb⟩)
        rw [colz_v]
        refine mG_flat (e4.ex (fun u' v' _ _ => ?_))
        unfold shz
        rw [mgk_D0]
        by_cases c : v' = v
        · rw [if_pos (show 0 ≤ u' ∧ v ≤ v' by omega), if_pos (show v' - v = 0 by omega), Nat.sub_zero]
          by_cases c2 : u' < 17
          · rw [if_pos ⟨c, c2⟩]
          · rw [if_neg (fun q => c2 q.2), pwz_z f (kk - 1) u' (by omega)]
        · rw [if_neg (fun q => c q.1)]
          by_cases c2 : 0 ≤ u' ∧ v ≤ v'
          · rw [if_pos c2, if_neg (by omega)]
          · rw [if_neg c2]
      · obtain ⟨r1, r2, r3, r4, r5, r6, e4⟩ := e
        subst r1 r2 r3 r4 r5 r6
        unfold lp_X12_laysColumns_110
        refine br_f (ngt (b := 17) hu (by decide)) ?_
        rw [sub1 hk1, at25, at9']
        refine ⟨vpn (by omega) (by decide), fun y q => ⟨vpn (by omega) (by decide), ?_⟩⟩
        rw [cln (by omega), hP.g (kk - 1) u (by omega) (by omega)] at q
        subst q
        rw [cln (by omega)]
        refine ih4 _ _ _ _ _ _ _ ⟨rfl, rfl, rfl, rfl, rfl, rfl, (e4.up hv _).ex (fun u' v' _ _ => ?_)⟩
        by_cases c : u' = u ∧ v' = v
        · rw [zu2_p c, if_pos (by omega), c.1]
        · rw [zu2_n c]
          by_cases c2 : v' = v ∧ u' < u
          · rw [if_pos c2, if_pos (by omega)]
          · rw [if_neg c2, if_neg (by omega)]
  · obtain ⟨r1, r2, r3, e1, e2⟩ := e
    subst r1 r2 r3
    unfold lp_X12_laysColumns_10
    refine br_f (nI_nlt (by omega) (by omega)) ?_
    refine V_X12_laysColumns_19 d1 (fun i x4 x5 p q cl t o => nI (s1 * (d1 * k + i)) = x4 ∧ nI k = x5 ∧ P' = p ∧ g' = q ∧ mT (s1 * (d1 * k + i)) t (fun r c => colz f kk d1 s1 c r) ∧ ∀ c, c < s1 * (d1 * k + i) → o c = nI (ownz kk d1 s1 c)) (fun k3 x4 x5 p q cl t o e => ?_) (fun k3 i x4 x5 p q cl t o hi e ih3 => ?_) (i := 0) (Nat.zero_le _) ⟨rfl, rfl, rfl, rfl, e1, e2⟩
    · obtain ⟨r1, r2, r3, r4, e3, e4⟩ := e
      subst r1 r2 r3 r4
      unfold lp_X12_laysColumns_19
      refine br_t (nI_lt (by omega) (by omega)) ?_
      unfold jn_X12_laysColumns_87
      have ek : d1 * (k + 1) = d1 * k + d1 := by rw [Nat.mul_add, Nat.mul_one]
      refine ih _ _ _ _ _ _ ⟨by rw [ek], rfl, rfl, ?_, ?_⟩
      · rw [ek]
        exact e3
      · rw [ek]
        exact e4
    · obtain ⟨r1, r2, r3, r4, e3, e4⟩ := e
      subst r1 r2 r3 r4
      unfold lp_X12_laysColumns_19
      refine br_f (nI_nlt (by omega) (by omega)) ?_
      refine V_X12_laysColumns_28 s1 (fun j x4 x5 x6 p q cl t o => nI (s1 * (d1 * k + i) + j) = x4 ∧ nI k = x5 ∧ nI i = x6 ∧ P' = p ∧ g' = q ∧ mT (s1 * (d1 * k + i) + j) t (fun r c => colz f kk d1 s1 c r) ∧ ∀ c, c < s1 * (d1 * k + i) + j → o c = nI (ownz kk d1 s1 c)) (fun k4 x4 x5 x6 p q cl t o e => ?_) (fun k4 j x4 x5 x6 p q cl t o hj e ih4 => ?_) (i := 0) (Nat.zero_le _) ⟨rfl, rfl, rfl, rfl, rfl, e3, e4⟩
      · obtain ⟨r1, r2, r3, r4, r5, e5, e6⟩ := e
        subst r1 r2 r3 r4 r5
        unfold lp_X12_laysColumns_28
        refine br_t (nI_lt (by omega) (by omega)) ?_
        unfold jn_X12_laysColumns_81
        have ek : s1 * (d1 * k + (i + 1)) = s1 * (d1 * k + i) + s1 := by rw [← Nat.add_assoc, Nat.mul_add s1 _ 1, Nat.mul_one]
        refine ih3 _ _ _ _ _ _ _ ⟨by rw [ek], rfl, rfl, rfl, ?_, ?_⟩
        · rw [ek]
          exact e5
        · rw [ek]
          exact e6
      · obtain ⟨r1, r2, r3, r4, r5, e5, e6⟩ := e
        subst r1 r2 r3 r4 r5
        have hlt := c_lt (show k ≤ kk by omega) hi hj
        unfold lp_X12_laysColumns_28
        refine br_f (nI_nlt (by omega) (by omega)) (wp_clears (fun C0 hC0 => ?_))
        rw [← mdI_1]
        refine wp_brings (by omega) hkk (by omega) (by omega) hP hg hC0 (fun C1 hC1 => ?_)
        refine wp_lays (C := colz f kk d1 s1) (by omega) ?_ e5 (fun tb' htb => wp_placeOf ⟨vpn (by omega) (by decide), ?_⟩)
        · rw [colz_at (by omega) hi hj]
          refine mG_flat (hC1.ex (fun u v _ _ => ?_))
          unfold addG
          rw [Int.one_mul, Int.zero_add]
        · rw [mdI_1, cln (by omega), nI_1 (s1 * (d1 * k + i) + j)]
          refine ih4 _ _ _ _ _ _ _ _ ⟨rfl, rfl, rfl, rfl, rfl, htb, fun c hc => ?_⟩
          by_cases q : c = s1 * (d1 * k + i) + j
          · rw [q, pk_us, ownz_at (by omega) hi hj]
          · rw [pk_un q]
            exact e6 c (by omega)
