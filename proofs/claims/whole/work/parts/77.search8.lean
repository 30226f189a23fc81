/-! search: the model's loop, then class beside model -/
def MSr (kk d1 s1 n : Nat) (f : Nat → Int) (src : Nat → Nat) (c : Nat) (x4 x5 isF : Int32) (tb pv : Nat → Int32) : Prop := nI (fst_ kk d1 s1) = x4 ∧ (0 : Int32) = isF ∧ ∃ (r : Nat) (T : Nat → Nat → Int), nI r = x5 ∧ mT (fst_ kk d1 s1 + 9) tb T ∧ MI (fst_ kk d1 s1 + 9) n (colz f kk d1 s1) src c r T ∧ ∀ i, i < r → pv i = nI (src i)
theorem ms_step {kk d1 s1 n lim c k : Nat} {f : Nat → Int} {src : Nat → Nat} {a1 a2 a3 x4 x5 isF fB : Int32} {F Fn Bb P g Cl tb ow pv : Nat → Int32} {K155 : Int32 → Int32 → (Nat → Int32) → (Nat → Int32) → (Nat → Int32) → (Nat → Int32) → (Nat → Int32) → (Nat → Int32) → (Nat → Int32) → (Nat → Int32) → Prop} {K : Int32 → Int32 → Int32 → (Nat → Int32) → (Nat → Int32) → (Nat → Int32) → (Nat → Int32) → (Nat → Int32) → (Nat → Int32) → (Nat → Int32) → (Nat → Int32) → Prop} (hfb : fst_ kk d1 s1 ≤ 75) (hT : Trc lim n (colz f kk d1 s1) src) (hlim : lim ≤ fst_ kk d1 s1 + 9) (hl : ∀ c, fst_ kk d1 s1 ≤ c → c < lim → ∃ j, j < n ∧ src j = c) (hc : c < lim) (e : MSr kk d1 s1 n f src c x4 x5 isF tb pv)
    (ih : ∀ (w0 w1 w3 : Int32) (w10 w12 : Nat → Int32), MSr kk d1 s1 n f src (c + 1) w0 w1 w3 w10 w12 → lp_X12_search_61 a1 a2 a3 F K155 K k w0 w1 (nI c + (1 : Int32)) w3 fB Fn Bb P g Cl w10 ow w12) : lp_X12_search_61 a1 a2 a3 F K155 K (k + 1) x4 x5 (nI c) isF fB Fn Bb P g Cl tb ow pv := by
  obtain ⟨r1, r2, r, T, r3, hm, hI, hp⟩ := e
  subst r1 r2 r3
  obtain ⟨t1, t2, t3, t4, t5⟩ := hT
  have hN : ∀ j, j < n → src j < fst_ kk d1 s1 + 9 := fun j hj => by
    have := t2 j hj
    omega
  have hrn := hI.2.1
  unfold lp_X12_search_61
  rw [show nI (fst_ kk d1 s1) + (9 : Int32) = nI (fst_ kk d1 s1 + 9) from nI_add _ 9]
  refine br_f (ngt (b := fst_ kk d1 s1 + 9) (by omega) (by omega)) (rb_t rfl ?_)
  by_cases kept : ∃ j, j < n ∧ src j = c
  · obtain ⟨j, hj, ej⟩ := kept
    have hjr : ¬ j < r := fun q => by
      have := (hI.lt t3 hj).mpr q
      omega
    have hr : r < n := by omega
    have er : src r = c := by
      have h4 := hI.2.2.2.1 hr
      by_cases q : r = j
      · rw [q]
        exact ej
      · have := t3 r j (by omega) hj
        omega
    refine wp_pivotRow (by omega) (by omega) (by omega) hm (fun p h1 h2 h3 => ?_) (fun h0 => (hI.kept (by omega) hN t4 hr er h0).elim)
    refine br_f (ngt (b := 225) h2 (by decide)) (wp_swaps h2 (by omega) (by omega) hm (fun tb1 hm1 => wp_reduces (by omega) (by omega) (by omega) hm1 (fun tb2 hm2 => ⟨vpn (by omega) (by decide), ?_⟩)))
    unfold jn_X12_search_149
    rw [cln (by omega), nI_1 r]
    refine ih _ _ _ _ _ ⟨rfl, rfl, r + 1, _, rfl, hm2, hI.up t3 hr er h1 h2 h3, fun i hi => ?_⟩
    by_cases q : i = r
    · rw [q, pk_us, er]
    · rw [pk_un q]
      exact hp i (by omega)
  · obtain ⟨a, ha⟩ := (t5 c hc).resolve_left kept
    have ha2 : ∀ row, row < 225 → cg (colz f kk d1 s1 c row) (sm (fun j => a j * colz f kk d1 s1 (src j) row) r) := by
      intro row hrow
      have h1 := ha row hrow
      rw [sm_cut (m := r) hrn (fun j h3 h4 => by
        rw [if_neg]
        intro q
        have := (hI.lt t3 h4).mp q
        omega)] at h1
      rw [sm_ext (fun j hj => if_pos ((hI.lt t3 (show j < n by omega)).mpr hj))] at h1
      exact h1
    have hd := hI.dep (by omega) hN ha2
    have hz : ∀ row, r ≤ row → row < 225 → cg (T row c) 0 := fun row h1 h2 => by
      have := hd row h2
      rw [if_neg (by omega)] at this
      exact this
    refine wp_pivotRow (by omega) (by omega) (by omega) hm (fun p h1 h2 h3 => absurd (hz p h1 h2) h3) (fun _ => ?_)
    refine br_t (by decide) ?_
    by_cases q : c < fst_ kk d1 s1
    · refine br_t (nI_lt q (by omega)) ?_
      unfold jn_X12_search_149
      exact ih _ _ _ _ _ ⟨rfl, rfl, r, T, rfl, hm, hI.skip (fun h1 h2 => kept ⟨r, h1, h2⟩) hz, hp⟩
    · exact absurd (hl c (by omega) hc) kept
theorem MSr.zero {kk d1 s1 n : Nat} {f : Nat → Int} {src : Nat → Nat} {tb pv : Nat → Int32} (h : mT (fst_ kk d1 s1 + 9) tb (fun r c => colz f kk d1 s1 c r)) : MSr kk d1 s1 n f src 0 (nI (fst_ kk d1 s1)) 0 0 tb pv :=
  ⟨rfl, rfl, 0, _, rfl, h, ⟨fun a => Iff.rfl, Nat.zero_le _, fun i hi => absurd hi (Nat.not_lt_zero i), fun _ => Nat.zero_le _, fun i _ hi => absurd hi (Nat.not_lt_zero i), fun c _ hc => absurd hc (Nat.not_lt_zero c)⟩, fun i hi => absurd hi (Nat.not_lt_zero i)⟩
/-- nothing found -/
theorem ms_none {kk d1 s1 n : Nat} {f : Nat → Int} {src : Nat → Nat} {a1 a2 a3 fB : Int32} {F Fn Bb P g Cl tb ow pv : Nat → Int32} {K155 : Int32 → Int32 → (Nat → Int32) → (Nat → Int32) → (Nat → Int32) → (Nat → Int32) → (Nat → Int32) → (Nat → Int32) → (Nat → Int32) → (Nat → Int32) → Prop} {K : Int32 → Int32 → Int32 → (Nat → Int32) → (Nat → Int32) → (Nat → Int32) → (Nat → Int32) → (Nat → Int32) → (Nat → Int32) → (Nat → Int32) → (Nat → Int32) → Prop} (hfb : fst_ kk d1 s1 ≤ 75) (hT : Trc (fst_ kk d1 s1 + 9) n (colz f kk d1 s1) src) (hl : ∀ c, fst_ kk d1 s1 ≤ c → c < fst_ kk d1 s1 + 9 → ∃ j, j < n ∧ src j = c) (h : mT (fst_ kk d1 s1 + 9) tb (fun r c => colz f kk d1 s1 c r))
    (hK : ∀ t p, K155 0 fB Fn Bb P g Cl t ow p) : ∃ k : Nat, lp_X12_search_61 a1 a2 a3 F K155 K k (nI (fst_ kk d1 s1)) (0 : Int32) (0 : Int32) (0 : Int32) fB Fn Bb P g Cl tb ow pv := by
  refine V_X12_search_61 (fst_ kk d1 s1 + 9) (fun c x4 x5 isF b fn bb p q cl t o pvt => MSr kk d1 s1 n f src c x4 x5 isF t pvt ∧ fB = b ∧ Fn = fn ∧ Bb = bb ∧ P = p ∧ g = q ∧ Cl = cl ∧ ow = o) (fun k2 x4 x5 isF b fn bb p q cl t o pvt e => ?_) (fun k2 c x4 x5 isF b fn bb p q cl t o pvt hc e ih => ?_) (i := 0) (Nat.zero_le _) ⟨MSr.zero h, rfl, rfl, rfl, rfl, rfl, rfl, rfl⟩
  · obtain ⟨e, r1, r2, r3, r4, r5, r6, r7⟩ := e
    subst r1 r2 r3 r4 r5 r6 r7
    obtain ⟨s4, s5, r, T, s6, hm, hI, hp⟩ := e
    subst s4 s5 s6
    unfold lp_X12_search_61
    rw [show nI (fst_ kk d1 s1) + (9 : Int32) = nI (fst_ kk d1 s1 + 9) from nI_add _ 9]
    exact br_t (nle (Nat.le_refl _) (by omega)) (hK _ _)
  · obtain ⟨e, r1, r2, r3, r4, r5, r6, r7⟩ := e
    subst r1 r2 r3 r4 r5 r6 r7
    exact ms_step hfb hT (Nat.le_refl _) hl hc e (fun w0 w1 w3 w10 w12 e2 => ih _ _ _ _ _ _ _ _ _ _ _ _ ⟨e2, rfl, rfl, rfl, rfl, rfl, rfl, rfl⟩)
/-- found at v -/
theorem ms_some {kk d1 s1 n v : Nat} {f a : Nat → Int} {src : Nat → Nat} {a1 a2 a3 fB : Int32} {F Fn Bb P g Cl tb ow pv : Nat → Int32} {K155 : Int32 → Int32 → (Nat → Int32) → (Nat → Int32) → (Nat → Int32) → (Nat → Int32) → (Nat → Int32) → (Nat → Int32) → (Nat → Int32) → (Nat → Int32) → Prop} {K : Int32 → Int32 → Int32 → (Nat → Int32) → (Nat → Int32) → (Nat → Int32) → (Nat → Int32) → (Nat → Int32) → (Nat → Int32) → (Nat → Int32) → (Nat → Int32) → Prop} (hkk : kk ≤ 4) (hd : d1 ≤ 5) (hd0 : 0 < d1) (hs : s1 ≤ 3) (hs0 : 0 < s1) (hv : v < 9) (hT : Trc (fst_ kk d1 s1 + v) n (colz f kk d1 s1) src) (hl : ∀ c, fst_ kk d1 s1 ≤ c → c < fst_ kk d1 s1 + v → ∃ j, j < n ∧ src j = c) (ha : ∀ r, r < 225 → cg (colz f kk d1 s1 (fst_ kk d1 s1 + v) r) (sm (fun j => a j * colz f kk d1 s1 (src j) r) n)) (h : mT (fst_ kk d1 s1 + 9) tb (fun r c => colz f kk d1 s1 c r)) (how : ∀ c, c < fst_ kk d1 s1 → ow c = nI (ownz kk d1 s1 c))
    (hK : ∀ fn bb t p, mA 75 fn (nmz n (ownz kk d1 s1) src a 0) → mA 9 bb (fun w => if w = v then 1 else - nmz n (ownz kk d1 s1) src a 0 (75 + w)) → K155 1 (nI v) fn bb P g Cl t ow p) : ∃ k : Nat, lp_X12_search_61 a1 a2 a3 F K155 K k (nI (fst_ kk d1 s1)) (0 : Int32) (0 : Int32) (0 : Int32) fB Fn Bb P g Cl tb ow pv := by
  have hfb := fst_b hkk hd hs
  refine V_X12_search_61 (fst_ kk d1 s1 + 9) (fun c x4 x5 isF b fn bb p q cl t o pvt => ((c ≤ fst_ kk d1 s1 + v ∧ MSr kk d1 s1 n f src c x4 x5 isF t pvt) ∨ ((1 : Int32) = isF ∧ nI v = b ∧ nI (fst_ kk d1 s1) = x4 ∧ mA 75 fn (nmz n (ownz kk d1 s1) src a 0) ∧ mA 9 bb (fun w => if w = v then 1 else - nmz n (ownz kk d1 s1) src a 0 (75 + w)))) ∧ P = p ∧ g = q ∧ Cl = cl ∧ ow = o) (fun k2 x4 x5 isF b fn bb p q cl t o pvt e => ?_) (fun k2 c x4 x5 isF b fn bb p q cl t o pvt hc e ih => ?_) (i := 0) (Nat.zero_le _) ⟨Or.inl ⟨Nat.zero_le _, MSr.zero h⟩, rfl, rfl, rfl, rfl⟩
  · obtain ⟨e, r4, r5, r6, r7⟩ := e
    subst r4 r5 r6 r7
    rcases e with ⟨e, _⟩ | ⟨s1', s2, s3, e1, e2⟩
    · omega
    · subst s1' s2 s3
      unfold lp_X12_search_61
      rw [show nI (fst_ kk d1 s1) + (9 : Int32) = nI (fst_ kk d1 s1 + 9) from nI_add _ 9]
      exact br_t (nle (Nat.le_refl _) (by omega)) (hK _ _ _ _ e1 e2)
  · obtain ⟨e, r4, r5, r6, r7⟩ := e
    subst r4 r5 r6 r7
    rcases e with ⟨hcv, e⟩ | ⟨s1', s2, s3, e1, e2⟩
    · by_cases c2 : c < fst_ kk d1 s1 + v
      · exact ms_step hfb hT (by omega) hl c2 e (fun w0 w1 w3 w10 w12 e2 => ih _ _ _ _ _ _ _ _ _ _ _ _ ⟨Or.inl ⟨by omega, e2⟩, rfl, rfl, rfl, rfl⟩)
      · have ec : c = fst_ kk d1 s1 + v := by omega
        rw [ec] at e ih ⊢
        obtain ⟨r1, r2, r, T, r3, hm, hI, hp⟩ := e
        subst r1 r2 r3
        obtain ⟨t1, t2, t3, t4, t5⟩ := hT
        have hrn := hI.2.1
        have er : r = n := by
          by_cases q : r < n
          · have h4 := hI.2.2.2.1 q
            have := t2 r q
            omega
          · omega
        rw [er] at hI hp ⊢
        have hN : ∀ j, j < n → src j < fst_ kk d1 s1 + 9 := fun j hj => by
          have := t2 j hj
          omega
        have hdp := hI.dep (by omega) hN ha
        unfold lp_X12_search_61
        rw [show nI (fst_ kk d1 s1) + (9 : Int32) = nI (fst_ kk d1 s1 + 9) from nI_add _ 9]
        refine br_f (ngt (b := fst_ kk d1 s1 + 9) (by omega) (by omega)) (rb_t rfl ?_)
        refine wp_pivotRow (by omega) (by omega) (by omega) hm (fun p h1 h2 h3 => ?_) (fun _ => ?_)
        · have := hdp p h2
          rw [if_neg (by omega)] at this
          exact absurd this h3
        · refine br_t (by decide) (br_f (nI_nlt (by omega) (by omega)) ?_)
          refine wp_finds (a := a) hkk hd hd0 hs hs0 hv (by omega) hm how hp t2 (fun i j hi hj hij => ?_) (fun i hi => ?_) (fun fn' bb' g1 g2 => ?_)
          · rcases Nat.lt_trichotomy i j with q | q | q
            · have := t3 i j q hj
              omega
            · exact q
            · have := t3 j i q hi
              omega
          · have := hdp i (by omega)
            rw [if_pos hi] at this
            exact this
          · unfold jn_X12_search_149
            exact ih _ _ _ _ _ _ _ _ _ _ _ _ ⟨Or.inr ⟨rfl, rfl, rfl, g1, g2⟩, rfl, rfl, rfl, rfl⟩
    · subst s1' s2 s3
      unfold lp_X12_search_61
      rw [show nI (fst_ kk d1 s1) + (9 : Int32) = nI (fst_ kk d1 s1 + 9) from nI_add _ 9]
      exact br_f (ngt (b := fst_ kk d1 s1 + 9) (by omega) (by omega)) (rb_f (by decide) (hK _ _ _ _ e1 e2))
theorem pr_search {x1 x2 x3 top isF fB sz : Int32} {F Nm b Dr Nx St Ld En So Sc Ss Co Sh Bs F' Fn b' P g Cl tb ow pv : Nat → Int32} {f : Nat → Int} {K : Int32 → Int32 → (Nat → Int32) → (Nat → Int32) → (Nat → Int32) → (Nat → Int32) → Int32 → (Nat → Int32) → (Nat → Int32) → (Nat → Int32) → (Nat → Int32) → (Nat → Int32) → (Nat → Int32) → (Nat → Int32) → (Nat → Int32) → (Nat → Int32) → Int32 → Int32 → Int32 → (Nat → Int32) → (Nat → Int32) → (Nat → Int32) → (Nat → Int32) → (Nat → Int32) → (Nat → Int32) → (Nat → Int32) → (Nat → Int32) → Prop} (hf : rl 5 F F' f) (hfn : fnd top isF fB) (hb : ¬ isF = 0 → (∃ z, rl 75 Nm Fn z) ∧ ∃ z, rl 9 b b' z ∧ mon z fB)
    (hK : ∀ r top nm b dr nx sz st ld en so sc ss co sh bs isF fB fn b' p g cl tb ow pv, fnd top isF fB → (¬ isF = 0 → (∃ z, rl 75 nm fn z) ∧ ∃ z, rl 9 b b' z ∧ mon z fB) → K r top nm b dr nx sz st ld en so sc ss co sh bs r isF fB fn b' p g cl tb ow pv) : wp_X11_search x1 x2 x3 F top Nm b Dr Nx sz St Ld En So Sc Ss Co Sh Bs (fun r top nm b dr nx sz st ld en so sc ss co sh bs => wp_X12_search x1 x2 x3 isF fB F' Fn b' P g Cl tb ow pv (fun r2 isF fB fn b' p g cl tb ow pv => K r top nm b dr nx sz st ld en so sc ss co sh bs r2 isF fB fn b' p g cl tb ow pv)) := by
  unfold wp_X11_search
  refine wp_within ⟨fun q1 => ?_, fun q1 => wp_within ⟨fun q2 => ?_, fun q2 => wp_within ⟨fun q3 => wp_highest (by decide) ?_, fun q3 => ?_⟩⟩⟩
  · unfold wp_X12_search
    exact wp_isIn (br_t q1 (hK _ _ _ _ _ _ _ _ _ _ _ _ _ _ _ _ _ _ _ _ _ _ _ _ _ _ hfn hb))
  · unfold wp_X12_search
    exact wp_isIn (br_f q1 (wp_isIn (br_t q2 (hK _ _ _ _ _ _ _ _ _ _ _ _ _ _ _ _ _ _ _ _ _ _ _ _ _ _ hfn hb))))
  · have hh := hf.hi 5 (Nat.le_refl 5)
    refine ⟨fun q4 => ?_, fun q4 => ?_⟩
    · obtain ⟨kk, hk1, hkk, e1⟩ : ∃ kk : Nat, 1 ≤ kk ∧ kk ≤ 4 ∧ x1 = nI kk := by
        have hb1 := btw_i q1
        have h1 : (1 : Int32).toInt = 1 := rfl
        have h4 : (4 : Int32).toInt = 4 := rfl
        rw [h1, h4] at hb1
        refine ⟨x1.toInt.toNat, by omega, by omega, ?_⟩
        refine Int32.toInt_inj.mp ?_
        rw [nI_toInt (by omega)]
        omega
      obtain ⟨d, hd, e2⟩ := btw_n (N := 4) (by decide) q2
      obtain ⟨s, hs, e3⟩ := btw_n (N := 2) (by decide) q3
      subst e1 e2 e3
      have em : ∀ (K2 : Int32 → Int32 → Int32 → (Nat → Int32) → (Nat → Int32) → (Nat → Int32) → (Nat → Int32) → (Nat → Int32) → (Nat → Int32) → (Nat → Int32) → (Nat → Int32) → Prop), wp_X12_laysColumns (nI kk) (nI d) (nI s) F' P g Cl tb ow (fun y5 b6 b7 b8 b9 b10 => ∃ k61 : Nat, lp_X12_search_61 (nI kk) (nI d) (nI s) F' (jn_X12_search_155 (nI kk) (nI d) (nI s) F' K2) K2 k61 y5 (0 : Int32) (0 : Int32) (0 : Int32) fB Fn b' b6 b7 b8 b9 b10 pv) → wp_X12_search (nI kk) (nI d) (nI s) isF fB F' Fn b' P g Cl tb ow pv K2 := by
        intro K2 h
        unfold wp_X12_search
        refine wp_isIn (br_f q1 (wp_isIn (br_f q2 (wp_isIn (rb_f q3 (wp_degreeOf ?_))))))
        rw [← hh]
        exact br_t q4 h
      refine wp_seek (d1 := d + 1) (s1 := s + 1) hk1 hkk (by omega) (by omega) (by omega) (by omega) (rl_iff.mp hf).1 (fun v n src a hv hT hl ha g1 g2 g3 g4 g5 g6 g7 g8 g9 g10 g11 g12 Nm' Bb' hN hB => ?_) (fun n src hT hl g1 g2 g3 g4 g5 g6 g7 g8 g9 g10 g11 g12 Nm' Bb' => ?_)
      · refine br_f (by decide) (em _ (wp_laysColumns (d1 := d + 1) (s1 := s + 1) hk1 hkk (by omega) (by omega) (by omega) (by omega) (rl_iff.mp hf).2 (fun p g' cl tb' ow' hm how => ms_some hkk (by omega) (by omega) (by omega) (by omega) hv hT hl ha hm how (fun fn bb t p2 h5 h6 => ?_))))
        unfold jn_X12_search_155
        refine br_f (by decide) (hK _ _ _ _ _ _ _ _ _ _ _ _ _ _ _ _ _ _ _ _ _ _ _ _ _ _ (Or.inr ⟨v, by omega, rfl, rfl, rfl⟩) (fun _ => ⟨⟨_, rl_iff.mpr ⟨hN, h5⟩⟩, _, rl_iff.mpr ⟨hB, h6⟩, v, by omega, rfl, ?_, fun w hw hw2 => ?_⟩))
        · dsimp only
          rw [if_pos rfl]
          exact cg.rf
        · dsimp only
          rw [if_neg (by omega)]
          unfold nmz
          rw [sm_z (fun j hj => if_neg (fun q => ?_))]
          · exact cg.rf
          · have h7 := hT.2.1 j hj
            have h8 := q.2
            unfold ownz at h8
            by_cases c : src j < fst_ kk (d + 1) (s + 1)
            · have h9 := (ownz_b hkk (show d + 1 ≤ 5 by omega) (by omega) (show s + 1 ≤ 3 by omega) (by omega) c).2.2.2
              unfold ownz at h9
              rw [if_pos c] at h8 h9
              omega
            · rw [if_neg c] at h8
              omega
      · refine br_t rfl (em _ (wp_laysColumns (d1 := d + 1) (s1 := s + 1) hk1 hkk (by omega) (by omega) (by omega) (by omega) (rl_iff.mp hf).2 (fun p g' cl tb' ow' hm how => ms_none (fst_b hkk (by omega) (by omega)) hT hl hm (fun t p2 => ?_))))
        unfold jn_X12_search_155
        exact br_t rfl (hK _ _ _ _ _ _ _ _ _ _ _ _ _ _ _ _ _ _ _ _ _ _ _ _ _ _ (Or.inl ⟨rfl, rfl⟩) (fun q => absurd rfl q))
    · unfold wp_X12_search
      refine wp_isIn (br_f q1 (wp_isIn (br_f q2 (wp_isIn (rb_f q3 (wp_degreeOf ?_))))))
      rw [← hh]
      exact br_f q4 (hK _ _ _ _ _ _ _ _ _ _ _ _ _ _ _ _ _ _ _ _ _ _ _ _ _ _ hfn hb)
  · unfold wp_X12_search
    exact wp_isIn (br_f q1 (wp_isIn (br_f q2 (wp_isIn (rb_t q3 (hK _ _ _ _ _ _ _ _ _ _ _ _ _ _ _ _ _ _ _ _ _ _ _ _ _ _ hfn hb))))))
