/-! search: rows of the model's table -/
theorem wp_pivotRow {r0 c N : Nat} {tb : Nat → Int32} {T : Nat → Nat → Int} {K : Int32 → Prop} (hr : r0 ≤ 225) (hc : c < N) (hN : N ≤ 84) (h : mT N tb T) (h1 : ∀ p, r0 ≤ p → p < 225 → ¬ cg (T p c) 0 → K (nI p)) (h0 : (∀ p, r0 ≤ p → p < 225 → cg (T p c) 0) → K (nI 225)) : wp_X12_pivotRow (nI r0) (nI c) tb K := by
  unfold wp_X12_pivotRow
  refine V_X12_pivotRow_2 225 (fun p => r0 ≤ p ∧ ∀ q, r0 ≤ q → q < p → cg (T q c) 0) (fun k e => ?_) (fun k p hp e ih => ?_) (i := r0) hr ⟨Nat.le_refl r0, fun q h2 h3 => absurd h2 (by omega)⟩
  · unfold lp_X12_pivotRow_2
    exact br_t (nle (Nat.le_refl 225) (by decide)) (h0 (fun q h2 h3 => e.2 q h2 h3))
  · obtain ⟨e1, e2⟩ := e
    unfold lp_X12_pivotRow_2
    refine br_f (ngt (b := 225) hp (by decide)) ?_
    rw [at84]
    refine ⟨vpn (by omega) (by decide), ?_⟩
    rw [cln (by omega), h.g p c hp hc]
    refine ⟨fun q => h1 p e1 hp (fun q2 => q (mdI_0.mpr q2)), fun q => ih ⟨by omega, fun q2 h2 h3 => ?_⟩⟩
    by_cases c2 : q2 = p
    · rw [c2]
      exact mdI_0.mp q
    · exact e2 q2 h2 (by omega)
def swz (T : Nat → Nat → Int) (p r : Nat) : Nat → Nat → Int := fun row => if row = p then T r else if row = r then T p else T row
theorem wp_swaps {p r N : Nat} {tb : Nat → Int32} {T : Nat → Nat → Int} {K : (Nat → Int32) → Prop} (hp : p < 225) (hr : r < 225) (hN : N ≤ 84) (h : mT N tb T) (hK : ∀ tb', mT N tb' (swz T p r) → K tb') : wp_X12_swaps (nI p) (nI r) tb K := by
  unfold wp_X12_swaps
  refine V_X12_swaps_2 84 (fun i g => (∀ row c, row < 225 → c < 84 → g (84 * row + c) = if c < i then (if row = p then tb (84 * r + c) else if row = r then tb (84 * p + c) else tb (84 * row + c)) else tb (84 * row + c))) (fun k g e => ?_) (fun k i g hi e ih => ?_) (i := 0) (Nat.zero_le _) (fun row c _ _ => by rw [if_neg (Nat.not_lt_zero c)])
  · unfold lp_X12_swaps_2
    refine br_t (nle (Nat.le_refl 84) (by decide)) (hK _ (fun row c hrow hc => ?_))
    rw [e row c hrow (by omega), if_pos (by omega)]
    unfold swz
    by_cases c1 : row = p
    · rw [if_pos c1, if_pos c1]
      exact h r c hr hc
    · rw [if_neg c1, if_neg c1]
      by_cases c2 : row = r
      · rw [if_pos c2, if_pos c2]
        exact h p c hp hc
      · rw [if_neg c2, if_neg c2]
        exact h row c hrow hc
  · unfold lp_X12_swaps_2
    refine br_f (ngt (b := 84) hi (by decide)) ?_
    rw [at84, at84]
    refine ⟨vpn (by omega) (by decide), fun y2 q2 => ⟨vpn (by omega) (by decide), fun y4 q4 => ?_⟩⟩
    rw [cln (by omega), e p i hp hi, if_neg (Nat.lt_irrefl i)] at q2
    rw [cln (by omega), e r i hr hi, if_neg (Nat.lt_irrefl i)] at q4
    subst q2 q4
    rw [cln (by omega), cln (by omega)]
    refine ih _ (fun row c hrow hc => ?_)
    by_cases d1 : row = r ∧ c = i
    · rw [d1.1, d1.2, pk_us, if_pos (Nat.lt_succ_self i)]
      by_cases d2 : r = p
      · rw [if_pos d2, d2]
      · rw [if_neg d2, if_pos rfl]
    · rw [pk_un (fun q => d1 (ix_inj hc hi q))]
      by_cases d2 : row = p ∧ c = i
      · rw [d2.1, d2.2, pk_us, if_pos (Nat.lt_succ_self i), if_pos rfl]
      · rw [pk_un (fun q => d2 (ix_inj hc hi q)), e row c hrow hc]
        by_cases d3 : c < i
        · rw [if_pos d3, if_pos (show c < i + 1 by omega)]
        · rw [if_neg d3]
          by_cases d4 : c < i + 1
          · have e5 : c = i := by omega
            rw [if_pos d4, if_neg (fun q => d2 ⟨q, e5⟩), if_neg (fun q => d1 ⟨q, e5⟩)]
          · rw [if_neg d4]
/-- the row begins with 1, the others have 0 there -/
def rdz (T : Nat → Nat → Int) (r c : Nat) : Nat → Nat → Int := fun row c' => if c ≤ c' then (if row = r then T r c' * T r c ^ 10005 else T row c' - T row c * (T r c' * T r c ^ 10005)) else T row c'
theorem wp_reduces {r c N : Nat} {tb : Nat → Int32} {T : Nat → Nat → Int} {K : (Nat → Int32) → Prop} (hr : r < 225) (hc : c < N) (hN : N ≤ 84) (h : mT N tb T) (hK : ∀ tb', mT N tb' (rdz T r c) → K tb') : wp_X12_reduces (nI r) (nI c) (nI N) tb K := by
  unfold wp_X12_reduces
  rw [at84]
  refine ⟨vpn (by omega) (by decide), ?_⟩
  rw [cln (by omega), h.g r c hr hc]
  refine wp_minverse rfl ?_
  refine V_X12_reduces_19 N (fun t a g => c ≤ t ∧ mdI (T r c ^ 10005) = a ∧ mT N g (fun row c' => if row = r ∧ c ≤ c' ∧ c' < t then T r c' * T r c ^ 10005 else T row c')) (fun k a g e => ?_) (fun k t a g ht e ih => ?_) (i := c) (by omega) ⟨Nat.le_refl c, rfl, h.ex (fun row c' _ _ => by rw [if_neg (by omega)])⟩
  · obtain ⟨-, r1, e⟩ := e
    subst r1
    unfold lp_X12_reduces_19
    refine br_t (nle (Nat.le_refl N) (by omega)) ?_
    unfold jn_X12_reduces_62
    have e2 : mT N g (fun row c' => if row = r ∧ c ≤ c' then T r c' * T r c ^ 10005 else T row c') := e.ex (fun row c' _ hc' => by
      by_cases q : row = r ∧ c ≤ c'
      · rw [if_pos q, if_pos ⟨q.1, q.2, hc'⟩]
      · rw [if_neg q, if_neg (fun q2 => q ⟨q2.1, q2.2.1⟩)])
    refine V_X12_reduces_65 225 (fun w g2 => mT N g2 (fun row c' => if row = r ∨ row < w then rdz T r c row c' else T row c')) (fun k2 g2 e3 => ?_) (fun k2 w g2 hw e3 ih3 => ?_) (i := 0) (Nat.zero_le _) (e2.ex (fun row c' _ _ => ?_))
    · unfold lp_X12_reduces_65
      exact br_t (nle (Nat.le_refl 225) (by decide)) (hK _ (e3.ex (fun row c' hrow _ => if_pos (Or.inr hrow))))
    · unfold lp_X12_reduces_65
      refine br_f (ngt (b := 225) hw (by decide)) ?_
      by_cases cw : w = r
      · subst cw
        refine rb_t rfl ?_
        unfold jn_X12_reduces_95
        refine ⟨1, ?_⟩
        unfold lp_X12_reduces_100
        have out : jn_X12_reduces_166 (nI w) (nI c) (nI N) (fun x5 A_table => lp_X12_reduces_65 (nI w) (nI c) (nI N) K k2 x5 A_table) K (nI w) g2 := by
          unfold jn_X12_reduces_166
          refine ih3 _ (e3.ex (fun row c' _ _ => ?_))
          by_cases q : row = w ∨ row < w
          · rw [if_pos q, if_pos (by omega)]
          · rw [if_neg q, if_neg (by omega)]
        exact br_f (ngt hc (by omega)) (br_t (by decide) out)
      · refine rb_f (fun q => cw ((nI_eq (by omega) (by omega)).mp q)) ?_
        rw [at84]
        refine ⟨vpn (by omega) (by decide), ?_⟩
        rw [cln (by omega), e3.g w c hw hc, if_neg (by omega)]
        unfold jn_X12_reduces_95
        by_cases hz : mdI (T w c) ≤ 0
        · refine ⟨1, ?_⟩
          unfold lp_X12_reduces_100
          refine br_f (ngt hc (by omega)) (br_t hz ?_)
          unfold jn_X12_reduces_166
          refine ih3 _ (e3.cc (fun row c' _ _ => ?_))
          by_cases q : row = r ∨ row < w
          · rw [if_pos q, if_pos (by omega)]
            exact cg.rf
          · rw [if_neg q]
            by_cases q2 : row = w
            · rw [if_pos (by omega), q2]
              unfold rdz
              by_cases q3 : c ≤ c'
              · rw [if_pos q3, if_neg cw]
                have := cg.sub (cg.rf (a := T w c')) (cg0_mul (b := T r c' * T r c ^ 10005) (mdI_pos.mp hz))
                rw [Int.sub_zero] at this
                exact this.sy
              · rw [if_neg q3]
                exact cg.rf
            · rw [if_neg (by omega)]
              exact cg.rf
        · refine V_X12_reduces_100 N (fun t x5 x6 g3 => c ≤ t ∧ nI w = x5 ∧ mdI (T w c) = x6 ∧ mT N g3 (fun row c' => if row = r ∨ row < w ∨ (row = w ∧ c' < t) then rdz T r c row c' else T row c')) (fun k3 x5 x6 g3 e4 => ?_) (fun k3 t x5 x6 g3 ht e4 ih4 => ?_) (i := c) (by omega) ⟨Nat.le_refl c, rfl, rfl, e3.ex (fun row c' _ _ => ?_)⟩
          · obtain ⟨-, r1, r2, e4⟩ := e4
            subst r1 r2
            unfold lp_X12_reduces_100
            refine br_t (nle (Nat.le_refl N) (by omega)) ?_
            unfold jn_X12_reduces_166
            refine ih3 _ (e4.ex (fun row c' _ hc' => ?_))
            by_cases q : row = r ∨ row < w ∨ (row = w ∧ c' < N)
            · rw [if_pos q, if_pos (by omega)]
            · rw [if_neg q, if_neg (by omega)]
          · obtain ⟨ht1, r1, r2, e4⟩ := e4
            subst r1 r2
            unfold lp_X12_reduces_100
            refine br_f (ngt ht (by omega)) (br_f hz ?_)
            rw [at84, at84]
            refine ⟨vpn (by omega) (by decide), vpn (by omega) (by decide), fun y3 q3 => ?_⟩
            rw [cln (by omega), e4.g r t hr ht, if_pos (Or.inl rfl), md_mul] at q3
            subst q3
            rw [cln (by omega), e4.g w t hw ht, if_neg (by omega)]
            refine wp_modulo ?_
            have b1 := mdI_b (T w t)
            have b2 := mdI_b (T w c * rdz T r c r t)
            rw [is' (mdI_t _) (mdI_t _) (by omega), mdI_eq (cg.sub (cg_em (T w t)) (cg_em (T w c * rdz T r c r t)))]
            refine ih4 _ _ _ ⟨by omega, rfl, rfl, (e4.up hN (by omega) _).ex (fun row c' _ _ => ?_)⟩
            by_cases q : row = w ∧ c' = t
            · rw [zu2_p q, if_pos (by omega), q.1, q.2]
              unfold rdz
              rw [if_pos ht1, if_pos ht1, if_neg cw, if_pos rfl]
            · rw [zu2_n q]
              by_cases q2 : row = r ∨ row < w ∨ (row = w ∧ c' < t)
              · rw [if_pos q2, if_pos (by omega)]
              · rw [if_neg q2, if_neg (by omega)]
          · by_cases q : row = r ∨ row < w
            · rw [if_pos q, if_pos (by omega)]
            · rw [if_neg q]
              by_cases q2 : row = r ∨ row < w ∨ (row = w ∧ c' < c)
              · rw [if_pos q2]
                unfold rdz
                rw [if_neg (by omega)]
              · rw [if_neg q2]
    · by_cases q : row = r
      · rw [if_pos (Or.inl q)]
        unfold rdz
        by_cases q2 : c ≤ c'
        · rw [if_pos ⟨q, q2⟩, if_pos q2, if_pos q]
        · rw [if_neg (fun q3 => q2 q3.2), if_neg q2]
      · rw [if_neg (fun q3 => q q3.1), if_neg (by omega)]
  · obtain ⟨ht1, r1, e⟩ := e
    subst r1
    unfold lp_X12_reduces_19
    refine br_f (ngt ht (by omega)) ?_
    rw [at84]
    refine ⟨vpn (by omega) (by decide), fun y2 q2 => ?_⟩
    rw [cln (by omega), e.g r t hr ht, if_neg (by omega), md_mul] at q2
    subst q2
    rw [cln (by omega)]
    refine ih _ _ ⟨by omega, rfl, (e.up hN (by omega) _).ex (fun row c' _ _ => ?_)⟩
    by_cases q : row = r ∧ c' = t
    · rw [zu2_p q, if_pos (by omega), q.2]
    · rw [zu2_n q]
      by_cases q2 : row = r ∧ c ≤ c' ∧ c' < t
      · rw [if_pos q2, if_pos (by omega)]
      · rw [if_neg q2, if_neg (by omega)]
/-- what is found, told -/
theorem wp_finds {kk d1 s1 v rk : Nat} {src : Nat → Nat} {a : Nat → Int} {x y : Int32} {Fn Bb tb ow pv : Nat → Int32} {T : Nat → Nat → Int} {K : Int32 → Int32 → (Nat → Int32) → (Nat → Int32) → Prop} (hkk : kk ≤ 4) (hd : d1 ≤ 5) (hd0 : 0 < d1) (hs : s1 ≤ 3) (hs0 : 0 < s1) (hv : v < 9) (hrk : rk ≤ 84) (h : mT (fst_ kk d1 s1 + 9) tb T) (how : ∀ c, c < fst_ kk d1 s1 → ow c = nI (ownz kk d1 s1 c)) (hpv : ∀ i, i < rk → pv i = nI (src i)) (hsrc : ∀ i, i < rk → src i < fst_ kk d1 s1 + v) (hinj : ∀ i j, i < rk → j < rk → src i = src j → i = j) (hT : ∀ i, i < rk → cg (T i (fst_ kk d1 s1 + v)) (a i))
    (hK : ∀ Fn' Bb', mA 75 Fn' (nmz rk (ownz kk d1 s1) src a 0) → mA 9 Bb' (fun w => if w = v then 1 else - nmz rk (ownz kk d1 s1) src a 0 (75 + w)) → K 1 (nI v) Fn' Bb') : wp_X12_finds (nI (fst_ kk d1 s1 + v)) (nI (fst_ kk d1 s1)) (nI rk) x y Fn Bb tb ow pv K := by
  unfold wp_X12_finds
  have hfb := fst_b hkk hd hs
  intro y1 q1
  rw [pk_sub (by omega), Nat.add_sub_cancel_left] at q1
  subst q1
  have hoi : ∀ i j, i < rk → j < rk → ownz kk d1 s1 (src i) = ownz kk d1 s1 (src j) → i = j := fun i j hi hj e => hinj i j hi hj (ownz_inj hkk hd hd0 hs hs0 e)
  refine V_X12_finds_15 75 (fun i e g fn bb => (1 : Int32) = e ∧ nI v = g ∧ Bb = bb ∧ mA i fn (fun _ => 0)) (fun k e g fn bb q => ?_) (fun k i e g fn bb hi q ih => ?_) (i := 0) (Nat.zero_le _) ⟨rfl, rfl, rfl, fun i hi => absurd hi (Nat.not_lt_zero i)⟩
  · obtain ⟨r1, r2, r3, q⟩ := q
    subst r1 r2 r3
    unfold lp_X12_finds_15
    refine br_t (nle (Nat.le_refl 75) (by decide)) ?_
    unfold jn_X12_finds_36
    refine V_X12_finds_39 9 (fun i e g fn2 bb => (1 : Int32) = e ∧ nI v = g ∧ fn = fn2 ∧ mA i bb (fun w => if w = v then 1 else 0)) (fun k e g fn2 bb q2 => ?_) (fun k i e g fn2 bb hi q2 ih => ?_) (i := 0) (Nat.zero_le _) ⟨rfl, rfl, rfl, fun i hi => absurd hi (Nat.not_lt_zero i)⟩
    · obtain ⟨r1, r2, r3, q2⟩ := q2
      subst r1 r2 r3
      unfold lp_X12_finds_39
      refine br_t (nle (Nat.le_refl 9) (by decide)) ?_
      unfold jn_X12_finds_73
      -- rows from the first on: kept as sums over rows below i
      refine V_X12_finds_76 rk (fun i e g fn bb => (1 : Int32) = e ∧ nI v = g ∧ mA 75 fn (fun o => sm (fun j => if ownz kk d1 s1 (src j) = o then a j else 0) i) ∧ mA 9 bb (fun w => if w = v then 1 else - sm (fun j => if ownz kk d1 s1 (src j) = 75 + w then a j else 0) i)) (fun k e g fn bb q => ?_) (fun k i e g fn bb hi q ih => ?_) (i := 0) (Nat.zero_le _) ⟨rfl, rfl, q, q2.ex (fun w _ => by rw [sm_0]; rfl)⟩
      · obtain ⟨r1, r2, q3, q4⟩ := q
        subst r1 r2
        unfold lp_X12_finds_76
        have en : ∀ o, sm (fun j => if ownz kk d1 s1 (src j) = o then a j else 0) rk = nmz rk (ownz kk d1 s1) src a 0 o := fun o => by
          unfold nmz
          refine sm_ext (fun j _ => ?_)
          by_cases c : ownz kk d1 s1 (src j) = o
          · rw [if_pos c, if_pos ⟨Nat.zero_le j, c⟩]
          · rw [if_neg c, if_neg (fun q => c q.2)]
        exact br_t (nle (Nat.le_refl rk) (by omega)) (hK _ _ (q3.ex (fun o _ => en o)) (q4.ex (fun w _ => by rw [en])))
      · obtain ⟨r1, r2, q3, q4⟩ := q
        subst r1 r2
        have hsi := hsrc i hi
        unfold lp_X12_finds_76
        refine br_f (ngt hi (by omega)) ?_
        rw [at84]
        refine ⟨vpn (by omega) (by decide), fun y2 q5 => ⟨vpn (by omega) (by decide), fun y4 q6 => ?_⟩⟩
        rw [cln (by omega), h.g i (fst_ kk d1 s1 + v) (by omega) (by omega), mdI_eq (hT i hi)] at q5
        rw [cln (by omega), hpv i hi] at q6
        subst q5 q6
        unfold jn_X12_finds_143
        have uniq : ∀ j, j < i → ¬ ownz kk d1 s1 (src j) = ownz kk d1 s1 (src i) := fun j hj e => by
          have := hoi j i (by omega) hi e
          omega
        by_cases c : fst_ kk d1 s1 ≤ src i
        · refine br_t (nle c (by omega)) (wp_modulo ?_)
          have eo : ownz kk d1 s1 (src i) = 75 + (src i - fst_ kk d1 s1) := by
            unfold ownz
            rw [if_neg (by omega)]
          have b1 := mdI_b (a i)
          rw [pk_sub c, ing (mdI_t _) (by omega), mdI_eq (cg.neg (cg_em (a i)))]
          refine ⟨vpn (by omega) (by decide), ?_⟩
          rw [cln (by omega)]
          refine ih _ _ _ _ ⟨rfl, rfl, q3.ex (fun o ho => ?_), (q4.up (src i - fst_ kk d1 s1) _).ex (fun w hw => ?_)⟩
          · rw [sm_s, if_neg (by omega), Int.add_zero]
          · by_cases c2 : w = src i - fst_ kk d1 s1
            · rw [zu_p c2, if_neg (by omega), sm_s, if_pos (by omega), sm_z (fun j hj => if_neg (fun q => uniq j hj (by omega))), Int.zero_add]
            · rw [zu_n c2, sm_s, if_neg (show ¬ ownz kk d1 s1 (src i) = 75 + w by omega), Int.add_zero]
        · have hlt : src i < fst_ kk d1 s1 := by omega
          obtain ⟨_, _, _, b4⟩ := ownz_b hkk hd hd0 hs hs0 hlt
          refine br_f (ngt hlt (by omega)) ⟨vpn (by omega) (by decide), ?_⟩
          rw [cln (by omega), how _ hlt]
          refine ⟨vpn b4 (by decide), ?_⟩
          rw [cln (by omega)]
          refine ih _ _ _ _ ⟨rfl, rfl, (q3.up (ownz kk d1 s1 (src i)) _).ex (fun o ho => ?_), q4.ex (fun w hw => ?_)⟩
          · by_cases c2 : o = ownz kk d1 s1 (src i)
            · rw [zu_p c2, sm_s, if_pos c2.symm, sm_z (fun j hj => if_neg (fun q => uniq j hj (by rw [q, c2]))), Int.zero_add]
            · rw [zu_n c2, sm_s, if_neg (fun q => c2 q.symm), Int.add_zero]
          · rw [sm_s, if_neg (show ¬ ownz kk d1 s1 (src i) = 75 + w by omega), Int.add_zero]
    · obtain ⟨r1, r2, r3, q2⟩ := q2
      subst r1 r2 r3
      unfold lp_X12_finds_39
      refine br_f (ngt (b := 9) hi (by decide)) ?_
      unfold jn_X12_finds_66
      rw [cln (by omega)]
      by_cases c : i = v
      · refine rb_t (by rw [c]) ⟨vpn hi (by decide), ih _ _ _ _ ⟨rfl, rfl, rfl, fun w hw => ?_⟩⟩
        by_cases c2 : w = i
        · rw [c2, pk_us]
          dsimp only
          rw [if_pos c, mdI_1]
        · rw [pk_un c2]
          exact q2 w (by omega)
      · refine rb_f (fun q => c ((nI_eq (by omega) (by omega)).mp q)) ⟨vpn hi (by decide), ih _ _ _ _ ⟨rfl, rfl, rfl, fun w hw => ?_⟩⟩
        by_cases c2 : w = i
        · rw [c2, pk_us]
          dsimp only
          rw [if_neg c, mdI_z]
        · rw [pk_un c2]
          exact q2 w (by omega)
  · obtain ⟨r1, r2, r3, q⟩ := q
    subst r1 r2 r3
    unfold lp_X12_finds_15
    refine br_f (ngt (b := 75) hi (by decide)) ⟨vpn hi (by decide), ?_⟩
    rw [cln (by omega)]
    refine ih _ _ _ _ ⟨rfl, rfl, rfl, fun w hw => ?_⟩
    by_cases c2 : w = i
    · rw [c2, pk_us]
      rfl
    · rw [pk_un c2]
      exact q w (by omega)
