/-! roots -/
def dq (z : Nat → Int) (r : Int) : Nat → Int := fun v => evz z r (v + 1) (8 - v)
def ho (r : Int) : Nat → (Nat → Int) → Nat
  | 0, _ => 0
  | d + 1, z => if evz z r 0 9 % 10007 = 0 then ho r d (dq z r) + 1 else 0
theorem ho_s (r : Int) (d : Nat) (z : Nat → Int) : ho r (d + 1) z = if evz z r 0 9 % 10007 = 0 then ho r d (dq z r) + 1 else 0 := rfl
theorem ho_le (r : Int) : ∀ (d : Nat) (z : Nat → Int), ho r d z ≤ d
  | 0, _ => Nat.le_refl 0
  | d + 1, z => by
    unfold ho
    by_cases h : evz z r 0 9 % 10007 = 0
    · rw [if_pos h]
      have := ho_le r d (dq z r)
      omega
    · rw [if_neg h]
      omega
theorem em0 {a : Int} : a % 10007 = 0 ↔ cg a 0 := by unfold cg; omega
/-- zeros above a degree -/
def zab (d : Nat) (z : Nat → Int) : Prop := ∀ v, d < v → v < 9 → cg (z v) 0
theorem evz_0 (z : Nat → Int) (s : Int) (n : Nat) : evz z s n 0 = 0 := rfl
theorem evz_c {z : Nat → Int} {s : Int} {d n m : Nat} (h : zab d z) (hm : m ≤ 9 - n) (hd : d + 1 ≤ n + m) : cg (evz z s n (9 - n)) (evz z s n m) := by
  unfold evz
  exact sm_ccut hm (fun i h1 h2 => cg0_mul (h (n + i) (by omega) (by omega)))
theorem dq_zab {z : Nat → Int} {r : Int} {d : Nat} (h : zab (d + 1) z) : zab d (dq z r) := by
  intro v h1 h2
  unfold dq
  have := evz_c (s := r) (n := v + 1) (m := 0) h (Nat.zero_le _) (by omega)
  rw [show 9 - (v + 1) = 8 - v by omega, evz_0] at this
  exact this
/-- the class divides -/
theorem wp_dividesRest {A : Nat → Int32} {z : Nat → Int} {r : Int} {K : Int32 → (Nat → Int32) → Prop} (h : fA 9 A z) (h1 : evz z r 0 9 % 10007 = 0 → ∀ A', fA 9 A' (dq z r) → K 1 A') (h0 : ¬ evz z r 0 9 % 10007 = 0 → ∀ A', K 0 A') : wp_X0_dividesRest (fdI r) A K := by
  unfold wp_X0_dividesRest
  refine V_X0_dividesRest_3 (fun n g => n ≤ 8 ∧ fA 9 g (fun v => if v < n then z v else evz z r v (9 - v))) (fun k g e => ?_) (fun k i g e ih => ?_) (n := 7) ⟨by decide, h.ex (fun v hv => ?_)⟩
  · obtain ⟨-, e⟩ := e
    unfold lp_X0_dividesRest_3
    refine br_t (by decide) ?_
    unfold jn_X0_dividesRest_42
    rw [cl0, e.g 0 (by decide), if_neg (by decide)]
    refine ⟨fun q => h1 (em0.mpr (fdI_0.mp q)) _ (fun v hv => ?_), fun q => h0 (fun q2 => q (fdI_0.mpr (em0.mp q2))) _⟩
    rw [show ((1 : Int32)).toNatClampNeg = 1 from rfl, show ((8 : Int32)).toNatClampNeg = 8 from rfl]
    by_cases c : v = 8
    · rw [c, pk_us]
      show (0 : Int32) = fdI (evz z r 9 0)
      rw [evz_0, fdI_z]
    · rw [pk_un c, pk_cpy_in (by omega) (by omega), show 1 + (v - 0) = v + 1 by omega, e.g (v + 1) (by omega), if_neg (by omega)]
      unfold dq
      rw [show 9 - (v + 1) = 8 - v by omega]
  · obtain ⟨hi, e⟩ := e
    unfold lp_X0_dividesRest_3
    refine br_f (nlt0 (by omega)) ⟨vpn (by omega) (by decide), ?_⟩
    rw [nI_1]
    refine ⟨vpn (by omega) (by decide), ?_⟩
    rw [cln (by omega), cln (by omega), e.g i (by omega), e.g (i + 1) (by omega), if_pos (by omega), if_neg (by omega)]
    refine wp_foldaddmul (ih _ ⟨by omega, (e.up i _).ex (fun v hv => ?_)⟩)
    by_cases c : v = i
    · rw [zu_p c, if_neg (by omega), c, show 9 - i = 9 - (i + 1) + 1 by omega, evz_s, Int.mul_comm r, Int.add_comm]
    · rw [zu_n c]
      by_cases c2 : v < i
      · rw [if_pos c2, if_pos (by omega)]
      · rw [if_neg c2, if_neg (by omega)]
  · by_cases c : v < 7 + 1
    · rw [if_pos c]
    · rw [if_neg c, show v = 8 by omega]
      show z 8 = 0 + z (8 + 0) * r ^ 0
      rw [Int.pow_zero, Int.mul_one, Int.zero_add]
theorem wp_timesDivided {A R : Nat → Int32} {z : Nat → Int} {r : Int} {t : Nat} {K : Int32 → (Nat → Int32) → Prop} (ht : t ≤ 8) (h : fA 9 A z) (hK : ∀ R', K (nI (ho r t z)) R') : wp_X0_timesDivided (fdI r) (nI t) A R K := by
  unfold wp_X0_timesDivided
  have hb := fdI_b r
  refine wp_at (s := r.bmod 10007) (fdI_t r) (by omega) h ?_
  have ev : cg (evz z (r.bmod 10007) 0 9) (evz z r 0 9) := sm_cg (fun i _ => cg.mul cg.rf (cg_pow (cg_bm r) i))
  rw [fdI_eq ev]
  refine ⟨fun q => ?_, fun q => ?_⟩
  · rw [cl0, show ((9 : Int32)).toNatClampNeg = 9 from rfl, va_cpy_0]
    refine ⟨t + 1, ?_⟩
    refine G_X0_timesDivided_27 (I := fun n a g => n ≤ t ∧ nI (t - n) = a ∧ ∃ z', fA 9 g z' ∧ (t - n) + ho r n z' = ho r t z) (fun k n a g e ih => ?_) t _ _ ⟨Nat.le_refl t, by rw [Nat.sub_self]; rfl, z, fun i hi => by rw [cpy_at hi]; exact h i hi, by rw [Nat.sub_self, Nat.zero_add]⟩
    obtain ⟨hn, r1, z', hz, e⟩ := e
    subst r1
    unfold lp_X0_timesDivided_27
    by_cases n0 : n = 0
    · subst n0
      refine br_t (nle (by omega) (by omega)) ?_
      have e2 : t = ho r t z := e
      rw [Nat.sub_zero]
      have := hK g
      rw [← e2] at this
      exact this
    · obtain ⟨m, rfl⟩ : ∃ m, n = m + 1 := ⟨n - 1, by omega⟩
      refine br_f (ngt (by omega) (by omega)) (wp_dividesRest hz (fun q2 A' hA => br_f (by decide) ?_) (fun q2 A' => br_t rfl ?_))
      · rw [nI_1]
        refine ih m _ _ rfl ⟨by omega, by rw [show t - m = t - (m + 1) + 1 by omega], _, hA, ?_⟩
        rw [ho_s, if_pos q2] at e
        omega
      · rw [ho_s, if_neg q2, Nat.add_zero] at e
        have := hK A'
        rw [show ho r t z = t - (m + 1) from e.symm] at this
        exact this
  · have hz : ho r t z = 0 := by
      cases t with
      | zero => rfl
      | succ d =>
        unfold ho
        rw [if_neg (fun q2 => q (fdI_0.mpr (em0.mp q2)))]
    have := hK R
    rw [hz] at this
    exact this
/-- lowest terms, both ways -/
theorem low_gcd {a c : Nat} (hc : 1 ≤ c) : (∀ d, 2 ≤ d → d ≤ c → ¬ (a % d = 0 ∧ c % d = 0)) ↔ Nat.gcd a c = 1 := by
  constructor
  · intro h
    by_cases g : Nat.gcd a c = 1
    · exact g
    · have g0 : 0 < Nat.gcd a c := Nat.gcd_pos_of_pos_right a hc
      have g1 : Nat.gcd a c ≤ c := Nat.le_of_dvd hc (Nat.gcd_dvd_right a c)
      exact absurd ⟨Nat.mod_eq_zero_of_dvd (Nat.gcd_dvd_left a c), Nat.mod_eq_zero_of_dvd (Nat.gcd_dvd_right a c)⟩ (h (Nat.gcd a c) (by omega) g1)
  · intro g d h2 h3 h4
    have h5 : d ∣ Nat.gcd a c := Nat.dvd_gcd (Nat.dvd_of_mod_eq_zero h4.1) (Nat.dvd_of_mod_eq_zero h4.2)
    rw [g] at h5
    have := Nat.le_of_dvd (by decide) h5
    omega
theorem remN {a d : Nat} (ha : a < 1000) (hd : d < 1000) (h0 : 0 < d) : nI a - nI a / nI d * nI d = nI (a % d) := pk_rem (by omega) h0 (by omega)
theorem wp_lowest {a c : Nat} {K : Int32 → Prop} (ha : a < 25) (hc : c < 7) (hc1 : 1 ≤ c) (h1 : Nat.gcd a c = 1 → K 1) (h0 : ¬ Nat.gcd a c = 1 → K 0) : wp_X0_lowest (nI a) (nI c) K := by
  unfold wp_X0_lowest
  have hl := low_gcd (a := a) hc1
  refine V_X0_lowest_2 (c + 2) (fun i => 2 ≤ i ∧ ∀ d, d < i → 2 ≤ d → d ≤ c → ¬ (a % d = 0 ∧ c % d = 0)) (fun k e => ?_) (fun k i hi e ih => ?_) (i := 2) (by omega) ⟨Nat.le_refl 2, fun d h2 h3 => absurd h2 (by omega)⟩
  · unfold lp_X0_lowest_2
    exact br_t (nI_lt (by omega) (by omega)) (h1 (hl.mp (fun d h3 h4 => e.2 d (by omega) h3 h4)))
  · obtain ⟨h2, e⟩ := e
    unfold lp_X0_lowest_2
    by_cases hci : c < i
    · exact br_t (nI_lt hci (by omega)) (h1 (hl.mp (fun d h4 h5 => e d (by omega) h4 h5)))
    · refine br_f (nI_nlt (by omega) (by omega)) ⟨fun q => absurd ((nI_eq (a := i) (b := 0) (by omega) (by decide)).mp q) (by omega), ?_⟩
      rw [remN (by omega) (by omega) (by omega), remN (by omega) (by omega) (by omega)]
      unfold jn_X0_lowest_21
      have nz : ∀ x : Nat, x < 1000 → (nI x = 0 ↔ x = 0) := fun x hx => nI_eq (a := x) (b := 0) (by omega) (by decide)
      have ha2 := Nat.mod_le a i
      have hc2 := Nat.mod_le c i
      refine ⟨fun q => ih ⟨by omega, fun d h3 h4 h5 => ?_⟩, fun q => ⟨fun q2 => ih ⟨by omega, fun d h3 h4 h5 => ?_⟩, fun q2 => h0 (fun g => ?_)⟩⟩
      · by_cases c2 : d = i
        · rw [c2]
          exact fun h => q ((nz _ (by omega)).mpr h.1)
        · exact e d (by omega) h4 h5
      · by_cases c2 : d = i
        · rw [c2]
          exact fun h => q2 ((nz _ (by omega)).mpr h.2)
        · exact e d (by omega) h4 h5
      · exact hl.mpr g i h2 (by omega) ⟨(nz _ (by omega)).mp q, (nz _ (by omega)).mp q2⟩
theorem wp_divisor {a c : Nat} {K : Int32 → Prop} (ha : a < 25) (hc : c < 7) (hK : K (nI (Nat.gcd a c))) : wp_X12_divisor (nI a) (nI c) K := by
  unfold wp_X12_divisor
  refine ⟨c + 1, ?_⟩
  refine G_X12_divisor_4 (I := fun n g0 g1 => ∃ x y : Nat, x < 25 ∧ y < 25 ∧ y ≤ n ∧ nI x = g0 ∧ nI y = g1 ∧ Nat.gcd x y = Nat.gcd a c) (fun k n g0 g1 e ih => ?_) c _ _ ⟨a, c, ha, by omega, Nat.le_refl c, rfl, rfl, rfl⟩
  obtain ⟨x, y, hx, hy, hn, r1, r2, e⟩ := e
  subst r1 r2
  unfold lp_X12_divisor_4
  by_cases y0 : y = 0
  · subst y0
    rw [Nat.gcd_zero_right] at e
    refine br_t rfl ?_
    rw [e]
    exact hK
  · have hne : ¬ nI y = 0 := fun q => y0 ((nI_eq (a := y) (b := 0) (by omega) (by decide)).mp q)
    refine br_f hne ⟨hne, fun y2 q => ?_⟩
    rw [remN (by omega) (by omega) (by omega)] at q
    subst q
    have hlt := Nat.mod_lt x (show 0 < y by omega)
    obtain ⟨m, rfl⟩ : ∃ m, n = m + 1 := ⟨n - 1, by omega⟩
    refine ih m _ _ rfl ⟨y, x % y, hy, by omega, by omega, rfl, rfl, ?_⟩
    rw [← e, Nat.gcd_comm x y, Nat.gcd_rec y x, Nat.gcd_comm]
/-- the model divides -/
theorem wp_howOften {B R : Nat → Int32} {z : Nat → Int} {r n : Int} {t : Nat} {K : Int32 → (Nat → Int32) → Prop} (ht : t ≤ 8) (h : mA 9 B z) (hz : zab t z) (hr : cg (-n) r) (hK : ∀ R', K (nI (ho r t z)) R') : wp_X12_howOften (mdI n) (nI t) B R K := by
  unfold wp_X12_howOften
  refine V_X12_howOften_2 9 (fun i g => mA i g z) (fun k g e => ?_) (fun k i g hi e ih => ?_) (i := 0) (Nat.zero_le _) (fun i hi => absurd hi (Nat.not_lt_zero i))
  · unfold lp_X12_howOften_2
    refine br_t (nle (Nat.le_refl 9) (by decide)) ?_
    unfold jn_X12_howOften_38
    refine ⟨t + 1, ?_⟩
    refine G_X12_howOften_48 (I := fun m a b c g => (∃ (d : Nat) (z' : Nat → Int) (s : Nat), c = 1 ∧ nI d = b ∧ d ≤ m ∧ d ≤ 8 ∧ mA 9 g z' ∧ zab d z' ∧ nI s = a ∧ s + ho r d z' = ho r t z) ∨ (c = 0 ∧ a = nI (ho r t z))) (fun k m a b c g e ih => ?_) t _ _ _ _ (Or.inl ⟨t, z, 0, rfl, rfl, Nat.le_refl t, ht, e, hz, rfl, Nat.zero_add _⟩)
    rcases e with ⟨d, z', s, r1, r2, hd, hd8, hg, hzz, r3, e⟩ | ⟨r1, r2⟩
    · subst r1 r2 r3
      have hs8 := ho_le r t z
      unfold lp_X12_howOften_48
      refine br_f (by decide) ?_
      by_cases d0 : d = 0
      · subst d0
        refine br_t (by decide) ?_
        have e2 : s = ho r t z := e
        rw [e2]
        exact hK _
      · obtain ⟨d', rfl⟩ : ∃ d', d = d' + 1 := ⟨d - 1, by omega⟩
        obtain ⟨m', rfl⟩ : ∃ m', m = m' + 1 := ⟨m - 1, by omega⟩
        refine br_f (nle0 (by omega) (by omega)) ?_
        have step : ∀ (a b : Int), cg (mdI b).toInt b → cg ((mdI a).toInt - (mdI (b * n)).toInt) (a + r * b) := by
          intro a b _
          rw [mdI_t, mdI_t]
          have h1 := cg.sub (cg_em a) (cg_em (b * n))
          refine h1.tr ?_
          have h2 := cg.mul hr (cg.rf (a := b))
          have h3 : a - b * n = a + -n * b := by rw [Int.neg_mul, Int.mul_comm n b]; omega
          rw [h3]
          exact cg.add cg.rf h2
        have sub_b : ∀ a b : Int, (mdI a - mdI b).toInt = (mdI a).toInt - (mdI b).toInt := by
          intro a b
          have h1 := mdI_b a
          have h2 := mdI_b b
          rw [is' (mdI_t a) (mdI_t b) (by omega), mdI_t, mdI_t]
        refine V_X12_howOften_63 (fun v a b x5 g2 => nI s = a ∧ nI (d' + 1) = b ∧ v ≤ d' + 1 ∧ mdI (evz z' r (v + 1) (d' + 1 - v)) = x5 ∧ mA 9 g2 (fun w => if v < w ∧ w ≤ d' + 1 then evz z' r w (d' + 2 - w) else z' w)) (fun k2 a b x5 g2 e2 => ?_) (fun k2 v a b x5 g2 e2 ih2 => ?_) ⟨rfl, rfl, Nat.le_refl _, by rw [Nat.sub_self, evz_0, mdI_z], hg.ex (fun w hw => by rw [if_neg (by omega)])⟩
        · obtain ⟨r1, r2, -, r3, e2⟩ := e2
          subst r1 r2 r3
          unfold lp_X12_howOften_63
          refine br_t (by decide) ?_
          unfold jn_X12_howOften_117
          rw [cl0, e2.g 0 (by decide), if_neg (by omega), md_mul]
          refine wp_modulo ?_
          rw [sub_b, mdI_eq (step (z' 0) (evz z' r (0 + 1) (d' + 1 - 0)) (by rw [mdI_t]; exact cg_em _))]
          have ev : z' 0 + r * evz z' r (0 + 1) (d' + 1 - 0) = evz z' r 0 (d' + 2) := by
            rw [show d' + 2 = d' + 1 - 0 + 1 by omega, evz_s, Int.mul_comm r, Int.add_comm]
          rw [ev]
          have ec := evz_c (s := r) (n := 0) (m := d' + 2) hzz (by omega) (by omega)
          rw [Nat.sub_zero] at ec
          -- behind: the shift
          have tail : ∀ (s2 : Nat) (c2 : Int32), ((c2 = 1 ∧ s2 + ho r d' (dq z' r) = ho r t z) ∨ (c2 = 0 ∧ s2 = ho r t z)) → ∃ k161 : Nat, lp_X12_howOften_161 (mdI n) (nI t) B (jn_X12_howOften_189 (mdI n) (nI t) B (fun x2 x3 x4 A_rests => lp_X12_howOften_48 (mdI n) (nI t) B K k x2 x3 x4 A_rests) K) K k161 (nI s2) (nI (d' + 1)) c2 0 g2 := by
            intro s2 c2 hc2
            refine V_X12_howOften_161 (d' + 1) (fun v a b c g3 => nI s2 = a ∧ nI (d' + 1) = b ∧ c2 = c ∧ mA 9 g3 (fun w => if w < v then (if 0 < w + 1 ∧ w + 1 ≤ d' + 1 then evz z' r (w + 1) (d' + 2 - (w + 1)) else z' (w + 1)) else (if 0 < w ∧ w ≤ d' + 1 then evz z' r w (d' + 2 - w) else z' w))) (fun k3 a b c g3 e3 => ?_) (fun k3 v a b c g3 hv e3 ih3 => ?_) (i := 0) (Nat.zero_le _) ⟨rfl, rfl, rfl, e2.ex (fun w hw => by rw [if_neg (Nat.not_lt_zero w)])⟩
            · obtain ⟨r1, r2, r3, e3⟩ := e3
              subst r1 r2 r3
              unfold lp_X12_howOften_161
              refine br_t (nle (Nat.le_refl _) (by omega)) ?_
              unfold jn_X12_howOften_189
              refine ⟨vpn (by omega) (by decide), ?_⟩
              rw [cln (by omega), pk_m1]
              refine ih m' _ _ _ _ rfl ?_
              rcases hc2 with ⟨q1, q2⟩ | ⟨q1, q2⟩
              · refine Or.inl ⟨d', dq z' r, s2, q1, rfl, by omega, by omega, ?_, dq_zab hzz, rfl, q2⟩
                have e4 := e3.up (d' + 1) 0
                rw [mdI_z] at e4
                refine e4.cg (fun w hw => ?_)
                by_cases c3 : w = d' + 1
                · rw [zu_p c3, c3]
                  exact (dq_zab hzz (d' + 1) (by omega) (by omega)).sy
                · rw [zu_n c3]
                  by_cases c4 : w < d' + 1
                  · rw [if_pos c4, if_pos (by omega)]
                    unfold dq
                    have e5 := evz_c (s := r) (n := w + 1) (m := d' + 2 - (w + 1)) hzz (by omega) (by omega)
                    rw [show 9 - (w + 1) = 8 - w by omega] at e5
                    exact e5.sy
                  · rw [if_neg c4, if_neg (by omega)]
                    exact (hzz w (by omega) hw).tr (dq_zab hzz w (by omega) hw).sy
              · exact Or.inr ⟨q1, by rw [q2]⟩
            · obtain ⟨r1, r2, r3, e3⟩ := e3
              subst r1 r2 r3
              unfold lp_X12_howOften_161
              refine br_f (ngt hv (by omega)) ?_
              rw [nI_1]
              refine ⟨vpn (by omega) (by decide), fun y q => ⟨vpn (by omega) (by decide), ?_⟩⟩
              rw [cln (by omega), e3.g (v + 1) (by omega), if_neg (by omega)] at q
              subst q
              rw [cln (by omega)]
              have go := ih3 (nI s2) (nI (d' + 1)) c2 _ ⟨rfl, rfl, rfl, (e3.up v (if 0 < v + 1 ∧ v + 1 ≤ d' + 1 then evz z' r (v + 1) (d' + 2 - (v + 1)) else z' (v + 1))).ex (fun w hw => ?_)⟩
              · rw [nI_1] at go
                exact go
              by_cases c3 : w = v
              · rw [zu_p c3, c3, if_pos (show v < v + 1 by omega)]
              · rw [zu_n c3]
                by_cases c4 : w < v
                · rw [if_pos c4, if_pos (show w < v + 1 by omega)]
                · rw [if_neg c4, if_neg (show ¬ w < v + 1 by omega)]
          rw [ho_s] at e
          refine ⟨fun q => ?_, fun q => ?_⟩
          · rw [if_neg (fun q2 => q (mdI_0.mpr (ec.sy.tr (em0.mp q2)))), Nat.add_zero] at e
            unfold jn_X12_howOften_143
            refine br_t rfl ?_
            unfold jn_X12_howOften_156
            intro y qy
            rw [qy, show nI s + 0 = nI s from Int32.add_zero _]
            exact tail s 0 (Or.inr ⟨rfl, e⟩)
          · rw [if_pos (em0.mpr (ec.tr (mdI_0.mp q)))] at e
            unfold jn_X12_howOften_143
            refine br_f (by decide) ?_
            unfold jn_X12_howOften_156
            intro y qy
            rw [qy, nI_1]
            exact tail (s + 1) 1 (Or.inl ⟨rfl, by omega⟩)
        · obtain ⟨r1, r2, hv, r3, e2⟩ := e2
          subst r1 r2 r3
          unfold lp_X12_howOften_63
          refine br_f (nle0 (by omega) (by omega)) ⟨vpn (by omega) (by decide), fun y q => ?_⟩
          rw [cln (by omega), e2.g (v + 1) (by omega), if_neg (by omega)] at q
          subst q
          rw [md_mul, cln (by omega)]
          refine wp_modulo ?_
          have ev : z' (v + 1) + r * evz z' r (v + 1 + 1) (d' + 1 - (v + 1)) = evz z' r (v + 1) (d' + 1 - v) := by
            rw [show d' + 1 - v = d' + 1 - (v + 1) + 1 by omega, evz_s, Int.mul_comm r, Int.add_comm]
          rw [sub_b, mdI_eq (step (z' (v + 1)) (evz z' r (v + 1 + 1) (d' + 1 - (v + 1))) (by rw [mdI_t]; exact cg_em _)), ev]
          refine ih2 _ _ _ _ ⟨rfl, rfl, by omega, rfl, ((e2.up (v + 1) _).up (v + 1) _).ex (fun w hw => ?_)⟩
          by_cases c3 : w = v + 1
          · rw [zu_p c3, if_pos (by omega), c3, show d' + 2 - (v + 1) = d' + 1 - v by omega]
          · rw [zu_n c3, zu_n c3]
            by_cases c4 : v + 1 < w ∧ w ≤ d' + 1
            · rw [if_pos c4, if_pos (by omega)]
            · rw [if_neg c4, if_neg (by omega)]
    · subst r1 r2
      unfold lp_X12_howOften_48
      exact br_t rfl (hK _)
  · unfold lp_X12_howOften_2
    refine br_f (ngt (b := 9) hi (by decide)) ?_
    unfold jn_X12_howOften_31
    rw [cln (by omega)]
    by_cases c : t < i
    · refine br_t (nI_lt c (by omega)) ⟨vpn hi (by decide), ih _ (fun w hw => ?_)⟩
      by_cases c2 : w = i
      · rw [c2, pk_us, mdI_eq (hz i c hi), mdI_z]
      · rw [pk_un c2]
        exact e w (by omega)
    · refine br_f (nI_nlt (by omega) (by omega)) ⟨vpn hi (by decide), vpn hi (by decide), ih _ (fun w hw => ?_)⟩
      by_cases c2 : w = i
      · rw [c2, pk_us]
        exact h i hi
      · rw [pk_un c2]
        exact e w (by omega)
