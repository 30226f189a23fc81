/-! search: numbers told out of shares -/
def tls (n : Nat) (sh : Nat → Nat → Int) (sc s : Nat → Int) : Nat → Nat → Int
  | 0 => s
  | d + 1 => fun e => tls n sh sc s d e - tls n sh sc s d (n - 1 - d) * sc (n - 1 - d) * sh (n - 1 - d) e
def tla (n : Nat) (sh : Nat → Nat → Int) (sc s : Nat → Int) : Nat → Int := fun j => tls n sh sc s (n - 1 - j) j * sc j
theorem tell_sum {n : Nat} {S C : Nat → Nat → Int} {src : Nat → Nat} {sh : Nat → Nat → Int} {rho s : Nat → Int} (h : Shr n S C src sh rho) {r : Nat} (hr : r < 225) : ∀ d, d ≤ n → cg (sm (fun e => s e * S e r) n) (sm (fun e => tls n sh (fun j => rho j ^ 10005) s d e * S e r) (n - d) + sm (fun j => if n - d ≤ j then tla n sh (fun j => rho j ^ 10005) s j * C (src j) r else 0) n)
  | 0, _ => by
    rw [Nat.sub_zero, sm_z (f := fun j => if n ≤ j then tla n sh (fun j => rho j ^ 10005) s j * C (src j) r else 0) (fun j hj => if_neg (by omega)), Int.add_zero]
    exact cg.rf
  | d + 1, hd => by
    have ih := tell_sum (s := s) h hr d (by omega)
    refine ih.tr ?_
    obtain ⟨j, hj⟩ : ∃ j, n - (d + 1) = j := ⟨_, rfl⟩
    have e1 : n - d = j + 1 := by omega
    have e2 : n - 1 - d = j := by omega
    have e3 : n - 1 - j = d := by omega
    rw [e1, hj]
    obtain ⟨h1, h2⟩ := h j (by omega)
    have h3 := h2 r hr
    -- the last sum takes one more
    have e4 : sm (fun i => if j ≤ i then tla n sh (fun j => rho j ^ 10005) s i * C (src i) r else 0) n = sm (fun i => if j + 1 ≤ i then tla n sh (fun j => rho j ^ 10005) s i * C (src i) r else 0) n + tla n sh (fun j => rho j ^ 10005) s j * C (src j) r := by
      have e5 : tla n sh (fun j => rho j ^ 10005) s j * C (src j) r = sm (fun i => if i = j then tla n sh (fun j => rho j ^ 10005) s i * C (src i) r else 0) n := by
        rw [sm_if, if_pos (by omega)]
      rw [e5, ← sm_add]
      refine sm_ext (fun i _ => ?_)
      by_cases c : i = j
      · rw [if_pos (by omega), if_neg (by omega), if_pos c, Int.zero_add]
      · by_cases c2 : j ≤ i
        · rw [if_pos c2, if_pos (by omega), if_neg c, Int.add_zero]
        · rw [if_neg c2, if_neg (by omega), if_neg c, Int.add_zero]
    rw [e4, sm_s]
    -- its shares
    have e6 : sm (fun e => tls n sh (fun j => rho j ^ 10005) s (d + 1) e * S e r) j = sm (fun e => tls n sh (fun j => rho j ^ 10005) s d e * S e r) j - tla n sh (fun j => rho j ^ 10005) s j * sm (fun e => sh j e * S e r) j := by
      rw [← sm_mul, ← sm_sub]
      refine sm_ext (fun e _ => ?_)
      show (tls n sh (fun j => rho j ^ 10005) s d e - tls n sh (fun j => rho j ^ 10005) s d (n - 1 - d) * rho (n - 1 - d) ^ 10005 * sh (n - 1 - d) e) * S e r = _
      rw [e2]
      unfold tla
      rw [e3, Int.sub_mul, Int.mul_assoc _ (sh j e)]
    rw [e6]
    have e7 : cg (tla n sh (fun j => rho j ^ 10005) s j * rho j) (tls n sh (fun j => rho j ^ 10005) s d j) := by
      unfold tla
      rw [e3, Int.mul_assoc, Int.mul_comm (rho j ^ 10005)]
      have := cg.mul (cg.rf (a := tls n sh (fun j => rho j ^ 10005) s d j)) (fermat h1)
      rw [Int.mul_one] at this
      exact this
    have e8 := cg.mul (cg.rf (a := tla n sh (fun j => rho j ^ 10005) s j)) h3
    rw [Int.mul_add, ← Int.mul_assoc _ (rho j)] at e8
    have e9 := cg.mul e7 (cg.rf (a := S j r))
    generalize sm (fun e => tls n sh (fun j => rho j ^ 10005) s d e * S e r) j = x1 at *
    generalize sm (fun i => if j + 1 ≤ i then tla n sh (fun j => rho j ^ 10005) s i * C (src i) r else 0) n = x2 at *
    generalize tla n sh (fun j => rho j ^ 10005) s j * C (src j) r = x3 at *
    generalize tla n sh (fun j => rho j ^ 10005) s j * sm (fun e => sh j e * S e r) j = x4 at *
    generalize tla n sh (fun j => rho j ^ 10005) s j * rho j * S j r = x5 at *
    generalize tls n sh (fun j => rho j ^ 10005) s d j * S j r = x6 at *
    unfold cg at e8 e9 ⊢
    omega
/-- what is told of FOUND -/
def nmz (n : Nat) (own : Nat → Nat) (src : Nat → Nat) (a : Nat → Int) (m : Nat) : Nat → Int := fun o => sm (fun j => if m ≤ j ∧ own (src j) = o then a j else 0) n
theorem nmz_up {n : Nat} {own src : Nat → Nat} {a : Nat → Int} {m : Nat} (hm : m < n) (hi : ∀ i j, i < n → j < n → own (src i) = own (src j) → i = j) (o : Nat) : nmz n own src a m o = if o = own (src m) then a m else nmz n own src a (m + 1) o := by
  unfold nmz
  by_cases c : o = own (src m)
  · rw [if_pos c, sm_one (j := m) hm (fun i hi2 hne => if_neg (fun q => hne (hi i m hi2 hm (by rw [q.2, c])))), if_pos ⟨Nat.le_refl m, c.symm⟩]
  · rw [if_neg c]
    refine sm_ext (fun i _ => ?_)
    by_cases c2 : m + 1 ≤ i ∧ own (src i) = o
    · rw [if_pos c2, if_pos ⟨by omega, c2.2⟩]
    · rw [if_neg c2]
      by_cases c3 : m ≤ i ∧ own (src i) = o
      · have : i = m := by
          by_cases c4 : i = m
          · exact c4
          · exact absurd ⟨by omega, c3.2⟩ c2
        rw [this] at c3
        exact absurd c3.2.symm c
      · rw [if_neg c3]
theorem fdI_ng (a : Int) : -fdI a = fdI (-a) := ieq (by
  have h1 := fdI_b a
  have h2 := fdI_b (-a)
  rw [ing (fdI_t a) (by omega), fdI_t]
  have h3 := cg.neg (cg_bm a)
  have h4 := cg_bm (-a)
  have h5 := h3.tr h4.sy
  unfold cg at h5
  omega)
theorem wp_tell {n v : Nat} {So Sc Ss Sh Nm Bb : Nat → Int32} {top : Int32} {own src : Nat → Nat} {sh : Nat → Nat → Int} {rho s : Nat → Int} {K : (Nat → Int32) → Int32 → (Nat → Int32) → (Nat → Int32) → Prop} (hn : n ≤ 84) (hv : v < 9) (hi : ∀ i j, i < n → j < n → own (src i) = own (src j) → i = j) (ho : ∀ j, j < n → own (src j) < 75 + v)
    (h1 : ∀ j, j < n → So j = nI (own (src j)) ∧ Sc j = fdI (rho j ^ 10005)) (h2 : ∀ j e, e < j → j < n → cg (Ss (84 * j + e)).toInt (sh j e) ∧ -10006 ≤ (Ss (84 * j + e)).toInt ∧ (Ss (84 * j + e)).toInt ≤ 10006) (hs : raA n Sh s) (hN : fA 75 Nm (fun _ => 0)) (hB : fA 9 Bb (fun _ => 0))
    (hK : ∀ Sh' Nm' Bb', fA 75 Nm' (nmz n own src (tla n sh (fun j => rho j ^ 10005) s) 0) → fA 9 Bb' (fun w => if w = v then 1 else - nmz n own src (tla n sh (fun j => rho j ^ 10005) s) 0 (75 + w)) → K Sh' (nI v) Nm' Bb') : wp_X8_tell (nI v) (nI n) So Sc Ss Sh top Nm Bb K := by
  unfold wp_X8_tell
  intro y1 q1
  have e1 : y1 = nI n + (-1 : Int32) := by rw [q1]; exact Int32.sub_eq_add_neg _ _
  subst e1
  refine ⟨n + 1, U_X8_tell_7 (I := fun m g tp nm bb => m ≤ n ∧ raA m g (tls n sh (fun j => rho j ^ 10005) s (n - m)) ∧ fA 75 nm (nmz n own src (tla n sh (fun j => rho j ^ 10005) s) m) ∧ fA 9 bb (fun w => - nmz n own src (tla n sh (fun j => rho j ^ 10005) s) m (75 + w))) (fun k g tp nm bb e => ?_) (fun k i g tp nm bb e ih => ?_) n _ _ _ _ ⟨Nat.le_refl n, by rw [Nat.sub_self]; exact hs, hN.ex (fun o _ => ?_), hB.ex (fun w _ => ?_)⟩⟩
  · obtain ⟨-, -, e2, e3⟩ := e
    unfold lp_X8_tell_7
    refine br_t (by decide) ?_
    unfold jn_X8_tell_133
    refine ⟨vpn hv (by decide), hK _ _ _ e2 ?_⟩
    rw [cln (by omega)]
    have e4 := e3.up v 1
    rw [fdI_1] at e4
    refine e4.ex (fun w _ => ?_)
    by_cases c : w = v
    · rw [zu_p c, if_pos c]
    · rw [zu_n c, if_neg c]
  · obtain ⟨hi1, e2, e3, e4⟩ := e
    unfold lp_X8_tell_7
    refine br_f (nlt0 (by omega)) ⟨vpn (by omega) (by decide), ?_⟩
    have hsi := e2 i (by omega)
    have ha : tla n sh (fun j => rho j ^ 10005) s i = tls n sh (fun j => rho j ^ 10005) s (n - (i + 1)) i * rho i ^ 10005 := by
      unfold tla
      rw [show n - 1 - i = n - (i + 1) by omega]
    rw [cln (by omega), (h1 i (by omega)).2]
    have hb := mb (X := 10006) (Y := 5003) hsi.2 (fdI_b (rho i ^ 10005))
    refine fd_long (lm (i2l_t rfl) (i2l_t (fdI_t _)) (by omega)) (z := tla n sh (fun j => rho j ^ 10005) s i) ?_ ?_
    · rw [ha]
      exact cg.mul hsi.1 (cg_bm _)
    refine V_X8_tell_34 i (fun e a b g2 tp2 nm2 bb2 => nI i = a ∧ fdI (tla n sh (fun j => rho j ^ 10005) s i) = b ∧ tp = tp2 ∧ nm = nm2 ∧ bb = bb2 ∧ raA i g2 (fun w => if w < e then tls n sh (fun j => rho j ^ 10005) s (n - i) w else tls n sh (fun j => rho j ^ 10005) s (n - (i + 1)) w)) (fun k2 a b g2 tp2 nm2 bb2 e5 => ?_) (fun k2 e a b g2 tp2 nm2 bb2 he e5 ih5 => ?_) (i := 0) (Nat.zero_le _) ⟨rfl, rfl, rfl, rfl, rfl, fun w hw => ?_⟩
    · obtain ⟨r1, r2, r3, r4, r5, e5⟩ := e5
      subst r1 r2 r3 r4 r5
      unfold lp_X8_tell_34
      refine br_t (nle (Nat.le_refl i) (by omega)) ?_
      unfold jn_X8_tell_80 jn_X8_tell_127
      have e6 : raA i g2 (tls n sh (fun j => rho j ^ 10005) s (n - i)) := e5.cc (fun w hw => by rw [if_pos hw]; exact cg.rf)
      have hoi := ho i (by omega)
      refine ⟨vpn (by omega) (by decide), ?_⟩
      rw [cln (by omega), (h1 i (by omega)).1]
      by_cases c : 75 ≤ own (src i)
      · refine br_t (nle (a := 75) c (by omega)) (fun y2 q2 => ?_)
        rw [fdI_ng] at q2
        subst q2
        rw [show nI (own (src i)) - (75 : Int32) = nI (own (src i) - 75) from pk_sub (b := 75) c]
        refine ⟨vpn (by omega) (by decide), ?_⟩
        rw [cln (by omega)]
        refine ih _ _ _ _ ⟨by omega, e6, e3.ex (fun o ho2 => ?_), (e4.up (own (src i) - 75) _).ex (fun w hw => ?_)⟩
        · rw [nmz_up (m := i) (by omega) hi, if_neg (by omega)]
        · rw [nmz_up (m := i) (by omega) hi]
          by_cases c2 : w = own (src i) - 75
          · rw [zu_p c2, if_pos (by omega)]
          · rw [zu_n c2, if_neg (by omega)]
      · refine br_f (ngt (b := 75) (by omega) (by decide)) ⟨vpn (by omega) (by decide), ?_⟩
        rw [cln (by omega)]
        refine ih _ _ _ _ ⟨by omega, e6, (e3.up (own (src i)) _).ex (fun o ho2 => ?_), e4.ex (fun w hw => ?_)⟩
        · rw [nmz_up (m := i) (by omega) hi]
          by_cases c2 : o = own (src i)
          · rw [zu_p c2, if_pos c2]
          · rw [zu_n c2, if_neg c2]
        · rw [nmz_up (m := i) (by omega) hi, if_neg (by omega)]
    · obtain ⟨r1, r2, r3, r4, r5, e5⟩ := e5
      subst r1 r2 r3 r4 r5
      unfold lp_X8_tell_34
      refine br_f (ngt he (by omega)) ⟨vpn (by omega) (by decide), ?_⟩
      rw [show (84 : Int32) = nI 84 from rfl, pk_mul, nI_add, show i * 84 + e = 84 * i + e by omega]
      refine ⟨vpn (by omega) (by decide), fun y3 q3 => ?_⟩
      have hx := h2 i e he (by omega)
      have hc := e5.g e he
      rw [if_neg (by omega)] at hc
      have hm := mb (X := 5003) (Y := 10006) (fdI_b (tla n sh (fun j => rho j ^ 10005) s i)) hx.2
      rw [cln (by omega), cln (by omega)] at q3
      have hr := rem_ra (is' (a := g2 e) (b := fdI (tla n sh (fun j => rho j ^ 10005) s i) * Ss (84 * i + e)) rfl (im (fdI_t _) rfl (by omega)) (by omega)) (cg.sub hc.1 (cg.mul (cg_bm (tla n sh (fun j => rho j ^ 10005) s i)) hx.1))
      rw [← q3] at hr
      rw [cln (by omega)]
      refine ih5 _ _ _ _ _ _ ⟨rfl, rfl, rfl, rfl, rfl, (e5.up e hr.1 hr.2).cc (fun w hw => ?_)⟩
      by_cases c : w = e
      · rw [zu_p c, if_pos (by omega), c, show n - i = n - (i + 1) + 1 by omega]
        show cg _ (tls n sh (fun j => rho j ^ 10005) s (n - (i + 1)) e - tls n sh (fun j => rho j ^ 10005) s (n - (i + 1)) (n - 1 - (n - (i + 1))) * rho (n - 1 - (n - (i + 1))) ^ 10005 * sh (n - 1 - (n - (i + 1))) e)
        rw [show n - 1 - (n - (i + 1)) = i by omega, ha]
        exact cg.rf
      · rw [zu_n c]
        by_cases c2 : w < e
        · rw [if_pos c2, if_pos (by omega)]
          exact cg.rf
        · rw [if_neg c2, if_neg (by omega)]
          exact cg.rf
    · dsimp only
      rw [if_neg (Nat.not_lt_zero w)]
      exact e2 w (by omega)
  · unfold nmz
    exact (sm_z (fun j hj => if_neg (by omega))).symm
  · unfold nmz
    rw [sm_z (fun j hj => if_neg (by omega))]
    rfl
/-! what the class has behind m columns -/
def Trc (m n : Nat) (C : Nat → Nat → Int) (src : Nat → Nat) : Prop := n ≤ m ∧ (∀ j, j < n → src j < m) ∧ (∀ i j, i < j → j < n → src i < src j) ∧ (∀ a : Nat → Int, (∀ r, r < 225 → cg (sm (fun j => a j * C (src j) r) n) 0) → ∀ j, j < n → cg (a j) 0) ∧ ∀ c, c < m → (∃ j, j < n ∧ src j = c) ∨ ∃ a : Nat → Int, ∀ r, r < 225 → cg (C c r) (sm (fun j => if src j < c then a j * C (src j) r else 0) n)
def CSt (m n : Nat) (C : Nat → Nat → Int) (own src : Nat → Nat) (St Ld En So Sc Ss : Nat → Int32) : Prop := Trc m n C src ∧ ∃ (S : Nat → Nat → Int) (l : Nat → Nat) (sh : Nat → Nat → Int) (rho : Nat → Int), StR n St Ld En S l ∧ Tri n S l ∧ Shr n S C src sh rho ∧ (∀ j, j < n → So j = nI (own (src j)) ∧ Sc j = fdI (rho j ^ 10005)) ∧ ∀ j e, e < j → j < n → cg (Ss (84 * j + e)).toInt (sh j e) ∧ -10006 ≤ (Ss (84 * j + e)).toInt ∧ (Ss (84 * j + e)).toInt ≤ 10006
/-- one column more -/
theorem wp_col {m n : Nat} {C : Nat → Nat → Int} {own src : Nat → Nat} {St Ld En So Sc Ss A Sh : Nat → Int32} {K : Int32 → (Nat → Int32) → (Nat → Int32) → Prop} (hm : m < 84) (h : CSt m n C own src St Ld En So Sc Ss) (hA : raA 225 A (C m))
    (h1 : ∀ A' Sh', CSt (m + 1) n C own src St Ld En So Sc Ss → (∃ a : Nat → Int, (∀ r, r < 225 → cg (C m r) (sm (fun j => a j * C (src j) r) n)) ∧ ∀ (v : Nat) (top : Int32) (Nm Bb : Nat → Int32) (K2 : (Nat → Int32) → Int32 → (Nat → Int32) → (Nat → Int32) → Prop), v < 9 → (∀ i j, i < n → j < n → own (src i) = own (src j) → i = j) → (∀ j, j < n → own (src j) < 75 + v) → fA 75 Nm (fun _ => 0) → fA 9 Bb (fun _ => 0) → (∀ Sh' Nm' Bb', fA 75 Nm' (nmz n own src a 0) → fA 9 Bb' (fun w => if w = v then 1 else - nmz n own src a 0 (75 + w)) → K2 Sh' (nI v) Nm' Bb') → wp_X8_tell (nI v) (nI n) So Sc Ss Sh' top Nm Bb K2) → K 1 A' Sh')
    (h0 : ∀ A' Sh', (∀ K2 : Int32 → (Nat → Int32) → (Nat → Int32) → (Nat → Int32) → (Nat → Int32) → (Nat → Int32) → (Nat → Int32) → Prop, (∀ St' Ld' En' So' Sc' Ss', CSt (m + 1) (n + 1) C own (va_up src n m) St' Ld' En' So' Sc' Ss' → K2 (nI (n + 1)) St' Ld' En' So' Sc' Ss') → wp_X8_keep (nI (own m)) (nI n) St Ld En So Sc Ss A' Sh' K2) → K 0 A' Sh') : wp_X8_explained (nI n) St Ld En A Sh K := by
  obtain ⟨ht, S, l, sh, rho, hst, htri, hshr, hso, hss⟩ := h
  obtain ⟨hnm, hsm, hinc, hfree, hdep⟩ := ht
  refine wp_explained hst hA (fun r A' Sh' hA' hSh' hr => ?_)
  rcases hr with ⟨hr, hz⟩ | ⟨hr, hz⟩
  · subst hr
    have hd : ∀ r, r < 225 → cg (C m r) (sm (fun j => tla n sh (fun j => rho j ^ 10005) (fun j => rsd S l (C m) j (l j)) j * C (src j) r) n) := by
      intro r hr
      have e1 := rsd_sum S l (C m) r n
      have e2 := tell_sum (s := fun j => rsd S l (C m) j (l j)) hshr hr n (Nat.le_refl n)
      rw [Nat.sub_self, sm_0, Int.zero_add, sm_ext (g := fun j => tla n sh (fun j => rho j ^ 10005) (fun j => rsd S l (C m) j (l j)) j * C (src j) r) (fun j _ => if_pos (Nat.zero_le j))] at e2
      have e3 := cg.add (hz r hr) e2
      rw [← e1, Int.zero_add] at e3
      exact e3
    refine h1 A' Sh' ⟨⟨by omega, fun j hj => Nat.lt_succ_of_lt (hsm j hj), hinc, hfree, fun c hc => ?_⟩, S, l, sh, rho, hst, htri, hshr, hso, hss⟩ ⟨_, hd, fun v top Nm Bb K2 hv hi ho hN hB hK2 => wp_tell (by omega) hv hi ho hso hss hSh' hN hB hK2⟩
    by_cases c2 : c = m
    · refine Or.inr ⟨tla n sh (fun j => rho j ^ 10005) (fun j => rsd S l (C m) j (l j)), fun r hr => ?_⟩
      rw [c2]
      refine (hd r hr).tr ?_
      rw [sm_ext (g := fun j => if src j < m then tla n sh (fun j => rho j ^ 10005) (fun j => rsd S l (C m) j (l j)) j * C (src j) r else 0) (fun j hj => (if_pos (hsm j hj)).symm)]
      exact cg.rf
    · exact hdep c (by omega)
  · subst hr
    refine h0 A' Sh' (fun K2 hK2 => wp_keep (by omega) hst hA' hSh' hz (fun f St' Ld' En' Ss' hf hf1 hf2 hst' hs1 hs2 => hK2 _ _ _ _ _ _ ?_))
    have lead0 := rsd_lead (z := C m) htri n (Nat.le_refl n)
    have htri' : Tri (n + 1) (va_up S n (fun r => rsd S l (C m) n r * rsd S l (C m) n f ^ 10005)) (va_up l n f) := by
      intro j hj
      by_cases c : j = n
      · subst c
        rw [va_up_self, va_up_self]
        refine ⟨hf, fermat hf1, fun e he => ?_⟩
        rw [va_up_ne _ _ (show e ≠ j by omega)]
        exact cg0_mul (lead0 e he)
      · rw [va_up_ne _ _ c, va_up_ne _ _ c]
        obtain ⟨a1, a2, a3⟩ := htri j (by omega)
        refine ⟨a1, a2, fun e he => ?_⟩
        rw [va_up_ne _ _ (show e ≠ n by omega)]
        exact a3 e he
    have hshr' : Shr (n + 1) (va_up S n (fun r => rsd S l (C m) n r * rsd S l (C m) n f ^ 10005)) C (va_up src n m) (va_up sh n (fun e => rsd S l (C m) e (l e))) (va_up rho n (rsd S l (C m) n f)) := by
      intro j hj
      by_cases c : j = n
      · subst c
        rw [va_up_self, va_up_self, va_up_self, va_up_self]
        refine ⟨hf1, fun r hr => ?_⟩
        have e1 := rsd_sum S l (C m) r j
        have e2 : sm (fun e => rsd S l (C m) e (l e) * va_up S j (fun r => rsd S l (C m) j r * rsd S l (C m) j f ^ 10005) e r) j = sm (fun e => rsd S l (C m) e (l e) * S e r) j := sm_ext (fun e he => by rw [va_up_ne _ _ (show e ≠ j by omega)])
        rw [e2]
        have e3 : cg (rsd S l (C m) j f * (rsd S l (C m) j r * rsd S l (C m) j f ^ 10005)) (rsd S l (C m) j r) := by
          rw [Int.mul_left_comm]
          have := cg.mul (cg.rf (a := rsd S l (C m) j r)) (fermat hf1)
          rw [Int.mul_one] at this
          exact this
        have e4 := cg.add (cg.rf (a := sm (fun e => rsd S l (C m) e (l e) * S e r) j)) e3.sy
        rw [Int.add_comm, ← e1] at e4
        exact e4
      · rw [va_up_ne _ _ c, va_up_ne _ _ c, va_up_ne _ _ c, va_up_ne _ _ c]
        obtain ⟨a1, a2⟩ := hshr j (by omega)
        refine ⟨a1, fun r hr => ?_⟩
        rw [sm_ext (g := fun e => sh j e * S e r) (fun e he => by rw [va_up_ne _ _ (show e ≠ n by omega)])]
        exact a2 r hr
    refine ⟨⟨by omega, fun j hj => ?_, fun i j hij hj => ?_, fun a ha => shr_free htri' hshr' ha, fun c hc => ?_⟩, _, _, _, _, hst', htri', hshr', fun j hj => ?_, fun j e he hj => ?_⟩
    · by_cases c : j = n
      · rw [c, va_up_self]
        omega
      · rw [va_up_ne _ _ c]
        have := hsm j (by omega)
        omega
    · rw [va_up_ne _ _ (show i ≠ n by omega)]
      by_cases c : j = n
      · rw [c, va_up_self]
        exact hsm i (by omega)
      · rw [va_up_ne _ _ c]
        exact hinc i j hij (by omega)
    · by_cases c2 : c = m
      · exact Or.inl ⟨n, by omega, by rw [va_up_self, c2]⟩
      · rcases hdep c (by omega) with ⟨j, h3, h4⟩ | ⟨a, h3⟩
        · exact Or.inl ⟨j, by omega, by rw [va_up_ne _ _ (show j ≠ n by omega)]; exact h4⟩
        · refine Or.inr ⟨a, fun r hr => ?_⟩
          rw [sm_s, va_up_self, if_neg (by omega), Int.add_zero]
          rw [sm_ext (g := fun j => if src j < c then a j * C (src j) r else 0) (fun j hj => by rw [va_up_ne _ _ (show j ≠ n by omega)])]
          exact h3 r hr
    · by_cases c : j = n
      · rw [c, pk_us, pk_us, va_up_self, va_up_self]
        exact ⟨rfl, rfl⟩
      · rw [pk_un c, pk_un c, va_up_ne _ _ c, va_up_ne _ _ c]
        exact hso j (by omega)
    · by_cases c : j = n
      · subst c
        rw [va_up_self]
        exact hs2 e he
      · rw [va_up_ne _ _ c, hs1 j e he (by omega)]
        exact hss j e he (by omega)
