/-! search: the columns in their order; the class seeks -/
def fst_ (kk d1 s1 : Nat) : Nat := s1 * (d1 * (kk + 1))
def colz (f : Nat → Int) (kk d1 s1 : Nat) : Nat → Nat → Int := fun c => if c < fst_ kk d1 s1 then flat (shz (c / s1 % d1) (c % s1) (mgk f (kk - c / s1 / d1) (DD f (c / s1 / d1)))) else flat (shz 0 (c - fst_ kk d1 s1) (mgk f (kk - 1) (DD f 0)))
def ownz (kk d1 s1 : Nat) : Nat → Nat := fun c => if c < fst_ kk d1 s1 then 15 * (c / s1 / d1) + 3 * (c / s1 % d1) + c % s1 else 75 + (c - fst_ kk d1 s1)
theorem fst_b {kk d1 s1 : Nat} (hk : kk ≤ 4) (hd : d1 ≤ 5) (hs : s1 ≤ 3) : fst_ kk d1 s1 ≤ 75 := Nat.le_trans (Nat.mul_le_mul hs (Nat.mul_le_mul hd (show kk + 1 ≤ 5 by omega))) (by decide)
theorem c_at {d1 s1 k i j : Nat} (hi : i < d1) (hj : j < s1) : (s1 * (d1 * k + i) + j) / s1 / d1 = k ∧ (s1 * (d1 * k + i) + j) / s1 % d1 = i ∧ (s1 * (d1 * k + i) + j) % s1 = j := by
  have e1 : (s1 * (d1 * k + i) + j) / s1 = d1 * k + i := by rw [Nat.mul_add_div (by omega), Nat.div_eq_of_lt hj, Nat.add_zero]
  refine ⟨?_, ?_, ?_⟩
  · rw [e1, Nat.mul_add_div (by omega), Nat.div_eq_of_lt hi, Nat.add_zero]
  · rw [e1, Nat.mul_add_mod, Nat.mod_eq_of_lt hi]
  · rw [Nat.mul_add_mod, Nat.mod_eq_of_lt hj]
theorem c_lt {kk d1 s1 k i j : Nat} (hk : k ≤ kk) (hi : i < d1) (hj : j < s1) : s1 * (d1 * k + i) + j < fst_ kk d1 s1 := by
  have h1 : d1 * k + i + 1 ≤ d1 * (kk + 1) := by
    have h2 : d1 * (k + 1) ≤ d1 * (kk + 1) := Nat.mul_le_mul_left d1 (by omega)
    rw [Nat.mul_add d1 k 1, Nat.mul_one] at h2
    omega
  have h3 := Nat.mul_le_mul_left s1 h1
  rw [Nat.mul_add s1 (d1 * k + i) 1, Nat.mul_one] at h3
  unfold fst_
  omega
theorem colz_at {f : Nat → Int} {kk d1 s1 k i j : Nat} (hk : k ≤ kk) (hi : i < d1) (hj : j < s1) : colz f kk d1 s1 (s1 * (d1 * k + i) + j) = flat (shz i j (mgk f (kk - k) (DD f k))) := by
  obtain ⟨e1, e2, e3⟩ := c_at (k := k) hi hj
  unfold colz
  rw [if_pos (c_lt hk hi hj), e1, e2, e3]
theorem ownz_at {kk d1 s1 k i j : Nat} (hk : k ≤ kk) (hi : i < d1) (hj : j < s1) : ownz kk d1 s1 (s1 * (d1 * k + i) + j) = 15 * k + 3 * i + j := by
  obtain ⟨e1, e2, e3⟩ := c_at (k := k) hi hj
  unfold ownz
  rw [if_pos (c_lt hk hi hj), e1, e2, e3]
theorem colz_v {f : Nat → Int} {kk d1 s1 v : Nat} : colz f kk d1 s1 (fst_ kk d1 s1 + v) = flat (shz 0 v (mgk f (kk - 1) (DD f 0))) := by
  unfold colz
  rw [if_neg (by omega), Nat.add_sub_cancel_left]
theorem ownz_v {kk d1 s1 v : Nat} : ownz kk d1 s1 (fst_ kk d1 s1 + v) = 75 + v := by
  unfold ownz
  rw [if_neg (by omega), Nat.add_sub_cancel_left]
theorem ownz_b {kk d1 s1 c : Nat} (hk : kk ≤ 4) (hd : d1 ≤ 5) (hd0 : 0 < d1) (hs : s1 ≤ 3) (hs0 : 0 < s1) (hc : c < fst_ kk d1 s1) : c / s1 / d1 ≤ kk ∧ c / s1 % d1 < d1 ∧ c % s1 < s1 ∧ ownz kk d1 s1 c < 75 := by
  have h1 : c / s1 < d1 * (kk + 1) := Nat.div_lt_of_lt_mul hc
  have h2 : c / s1 / d1 < kk + 1 := Nat.div_lt_of_lt_mul h1
  have h3 := Nat.mod_lt (c / s1) hd0
  have h4 := Nat.mod_lt c hs0
  refine ⟨by omega, h3, h4, ?_⟩
  unfold ownz
  rw [if_pos hc]
  omega
theorem ownz_inj {kk d1 s1 a b : Nat} (hk : kk ≤ 4) (hd : d1 ≤ 5) (hd0 : 0 < d1) (hs : s1 ≤ 3) (hs0 : 0 < s1) (h : ownz kk d1 s1 a = ownz kk d1 s1 b) : a = b := by
  by_cases ca : a < fst_ kk d1 s1
  · obtain ⟨a1, a2, a3, a4⟩ := ownz_b hk hd hd0 hs hs0 ca
    by_cases cb : b < fst_ kk d1 s1
    · obtain ⟨b1, b2, b3, b4⟩ := ownz_b hk hd hd0 hs hs0 cb
      unfold ownz at h
      rw [if_pos ca, if_pos cb] at h
      have e2 : a / s1 / d1 = b / s1 / d1 := by omega
      have e3 : a / s1 % d1 = b / s1 % d1 := by omega
      have e4 : a % s1 = b % s1 := by omega
      have f1 := Nat.div_add_mod a s1
      have f2 := Nat.div_add_mod b s1
      have f3 := Nat.div_add_mod (a / s1) d1
      have f4 := Nat.div_add_mod (b / s1) d1
      rw [e2, e3, f4] at f3
      rw [← f1, ← f2, f3, e4]
    · unfold ownz at h a4
      rw [if_pos ca] at h a4
      rw [if_neg cb] at h
      omega
  · by_cases cb : b < fst_ kk d1 s1
    · obtain ⟨b1, b2, b3, b4⟩ := ownz_b hk hd hd0 hs hs0 cb
      unfold ownz at h b4
      rw [if_pos cb] at h b4
      rw [if_neg ca] at h
      omega
    · unfold ownz at h
      rw [if_neg ca, if_neg cb] at h
      omega
/-- the columns of one k -/
theorem wp_takeOps {kk d1 s1 k n : Nat} {f : Nat → Int} {src : Nat → Nat} {St Ld En So Sc Ss A Sh Bs : Nat → Int32} {K : Int32 → (Nat → Int32) → (Nat → Int32) → (Nat → Int32) → (Nat → Int32) → (Nat → Int32) → (Nat → Int32) → (Nat → Int32) → (Nat → Int32) → Prop} (hkk : kk ≤ 4) (hd : d1 ≤ 5) (hd0 : 0 < d1) (hs : s1 ≤ 3) (hs0 : 0 < s1) (hk : k ≤ kk) (h : CSt (s1 * (d1 * k)) n (colz f kk d1 s1) (ownz kk d1 s1) src St Ld En So Sc Ss) (hB : fG 9 25 Bs (mgk f (kk - k) (DD f k)))
    (hK : ∀ n' src' st ld en so sc ss a sh, CSt (s1 * (d1 * (k + 1))) n' (colz f kk d1 s1) (ownz kk d1 s1) src' st ld en so sc ss → K (nI n') st ld en so sc ss a sh) : wp_X8_takeOperators (nI k) (nI (d1 - 1)) (nI (s1 - 1)) (nI n) St Ld En So Sc Ss A Sh Bs K := by
  unfold wp_X8_takeOperators
  have hfb := fst_b hkk hd hs
  refine V_X8_takeOperators_3 d1 (fun i sz st ld en so sc ss a sh => ∃ n' src', nI n' = sz ∧ CSt (s1 * (d1 * k + i)) n' (colz f kk d1 s1) (ownz kk d1 s1) src' st ld en so sc ss) (fun q sz st ld en so sc ss a sh e => ?_) (fun q i sz st ld en so sc ss a sh hi e ih => ?_) (i := 0) (Nat.zero_le _) ⟨n, src, rfl, h⟩
  · obtain ⟨n', src', r1, e⟩ := e
    subst r1
    unfold lp_X8_takeOperators_3
    refine br_t (nI_lt (by omega) (by omega)) (hK n' src' _ _ _ _ _ _ _ _ ?_)
    rw [show d1 * (k + 1) = d1 * k + d1 by rw [Nat.mul_add, Nat.mul_one]]
    exact e
  · obtain ⟨n', src', r1, e⟩ := e
    subst r1
    unfold lp_X8_takeOperators_3
    refine br_f (nI_nlt (by omega) (by omega)) ?_
    refine V_X8_takeOperators_12 s1 (fun j x4 sz st ld en so sc ss a sh => nI i = x4 ∧ ∃ n' src', nI n' = sz ∧ CSt (s1 * (d1 * k + i) + j) n' (colz f kk d1 s1) (ownz kk d1 s1) src' st ld en so sc ss) (fun q2 x4 sz st ld en so sc ss a sh e => ?_) (fun q2 j x4 sz st ld en so sc ss a sh hj e ih2 => ?_) (i := 0) (Nat.zero_le _) ⟨rfl, n', src', rfl, e⟩
    · obtain ⟨r1, n', src', r2, e⟩ := e
      subst r1 r2
      unfold lp_X8_takeOperators_12
      refine br_t (nI_lt (by omega) (by omega)) ?_
      unfold jn_X8_takeOperators_51
      refine ih _ _ _ _ _ _ _ _ _ ⟨n', src', rfl, ?_⟩
      rw [show s1 * (d1 * k + (i + 1)) = s1 * (d1 * k + i) + s1 by rw [← Nat.add_assoc, Nat.mul_add s1 _ 1, Nat.mul_one]]
      exact e
    · obtain ⟨r1, n', src', r2, e⟩ := e
      subst r1 r2
      have hlt := c_lt hk hi hj
      unfold lp_X8_takeOperators_12
      refine br_f (nI_nlt (by omega) (by omega)) (wp_shift (by omega) (by omega) hB (fun A' hA' => ?_))
      unfold jn_X8_takeOperators_45
      refine wp_col (by omega) e (by rw [colz_at hk hi hj]; exact (fG_flat hA').ra) (fun A2 Sh2 hc _ => ?_) (fun A2 Sh2 hc => ?_)
      · exact rb_f (by decide) (ih2 _ _ _ _ _ _ _ _ _ _ ⟨rfl, n', src', rfl, hc⟩)
      · refine rb_t rfl (wp_index ?_)
        rw [← ownz_at hk hi hj]
        exact hc _ (fun St' Ld' En' So' Sc' Ss' hc2 => ih2 _ _ _ _ _ _ _ _ _ _ ⟨rfl, n' + 1, _, rfl, hc2⟩)
/-- the class seeks -/
theorem wp_seek {kk d1 s1 : Nat} {f : Nat → Int} {x0 : Int32} {St Ld En So Sc Ss A Sh Bs Dr Nx F Nm Bb : Nat → Int32} {tp : Int32} {K : Int32 → Int32 → (Nat → Int32) → (Nat → Int32) → (Nat → Int32) → (Nat → Int32) → (Nat → Int32) → (Nat → Int32) → (Nat → Int32) → (Nat → Int32) → (Nat → Int32) → (Nat → Int32) → (Nat → Int32) → Int32 → (Nat → Int32) → (Nat → Int32) → Prop} (hk1 : 1 ≤ kk) (hkk : kk ≤ 4) (hd : d1 ≤ 5) (hd0 : 0 < d1) (hs : s1 ≤ 3) (hs0 : 0 < s1) (hf : fA 5 F f)
    (h1 : ∀ (v n : Nat) (src : Nat → Nat) (a : Nat → Int), v < 9 → Trc (fst_ kk d1 s1 + v) n (colz f kk d1 s1) src → (∀ c, fst_ kk d1 s1 ≤ c → c < fst_ kk d1 s1 + v → ∃ j, j < n ∧ src j = c) → (∀ r, r < 225 → cg (colz f kk d1 s1 (fst_ kk d1 s1 + v) r) (sm (fun j => a j * colz f kk d1 s1 (src j) r) n)) → ∀ (g1 : Int32) (g2 g3 g4 g5 g6 g7 g8 g9 g10 g11 g12 Nm' Bb' : Nat → Int32), fA 75 Nm' (nmz n (ownz kk d1 s1) src a 0) → fA 9 Bb' (fun w => if w = v then 1 else - nmz n (ownz kk d1 s1) src a 0 (75 + w)) → K 1 g1 g2 g3 g4 g5 g6 g7 g8 g9 g10 g11 g12 (nI v) Nm' Bb')
    (h0 : ∀ (n : Nat) (src : Nat → Nat), Trc (fst_ kk d1 s1 + 9) n (colz f kk d1 s1) src → (∀ c, fst_ kk d1 s1 ≤ c → c < fst_ kk d1 s1 + 9 → ∃ j, j < n ∧ src j = c) → ∀ (g1 : Int32) (g2 g3 g4 g5 g6 g7 g8 g9 g10 g11 g12 Nm' Bb' : Nat → Int32), K 0 g1 g2 g3 g4 g5 g6 g7 g8 g9 g10 g11 g12 (-1) Nm' Bb') : wp_X8_seek (nI kk) (nI (d1 - 1)) (nI (s1 - 1)) x0 St Ld En So Sc Ss A Sh Bs Dr Nx F tp Nm Bb K := by
  unfold wp_X8_seek wp_X0_forget
  have hfb := fst_b hkk hd hs
  refine wp_fill_spec (by decide) (wp_fill_spec (by decide) (wp_startDeriving (f := f) (fun D0 hD0 => ?_)))
  have hN0 : fA 75 (fun i => if i < 75 then 0 else Nm i) (fun _ => 0) := fun i hi => by
    show (if i < 75 then (0 : Int32) else Nm i) = fdI 0
    rw [if_pos hi, fdI_z]
  have hB0 : fA 9 (fun i => if i < 9 then 0 else Bb i) (fun _ => 0) := fun i hi => by
    show (if i < 9 then (0 : Int32) else Bb i) = fdI 0
    rw [if_pos hi, fdI_z]
  have start : CSt (s1 * (d1 * 0)) 0 (colz f kk d1 s1) (ownz kk d1 s1) (fun _ => 0) St Ld En So Sc Ss := ⟨⟨Nat.zero_le _, fun j hj => absurd hj (Nat.not_lt_zero j), fun i j _ hj => absurd hj (Nat.not_lt_zero j), fun a _ j hj => absurd hj (Nat.not_lt_zero j), fun c hc => absurd hc (by rw [Nat.mul_zero, Nat.mul_zero]; exact Nat.not_lt_zero c)⟩, fun _ _ => 0, fun _ => 0, fun _ _ => 0, fun _ => 0, ⟨Nat.zero_le _, fun j hj => absurd hj (Nat.not_lt_zero j)⟩, fun j hj => absurd hj (Nat.not_lt_zero j), fun j hj => absurd hj (Nat.not_lt_zero j), fun j hj => absurd hj (Nat.not_lt_zero j), fun j e _ hj => absurd hj (Nat.not_lt_zero j)⟩
  refine V_X8_seek_19 (kk + 1) (fun k sz st ld en so sc ss a sh bs dr nx tp nm bb => ∃ n src, nI n = sz ∧ CSt (s1 * (d1 * k)) n (colz f kk d1 s1) (ownz kk d1 s1) src st ld en so sc ss ∧ fG 9 25 dr (DD f (k - 1)) ∧ (-1 : Int32) = tp ∧ fA 75 nm (fun _ => 0) ∧ fA 9 bb (fun _ => 0)) (fun q sz st ld en so sc ss a sh bs dr nx tp nm bb e => ?_) (fun q k sz st ld en so sc ss a sh bs dr nx tp nm bb hk e ih => ?_) (i := 0) (Nat.zero_le _) ⟨0, fun _ => 0, rfl, start, hD0, rfl, hN0, hB0⟩
  · obtain ⟨n, src, r1, hc, hdr, r2, hnm, hbb⟩ := e
    subst r1 r2
    unfold lp_X8_seek_19
    refine br_t (nI_lt (by omega) (by omega)) ?_
    unfold jn_X8_seek_74
    refine wp_startDeriving (f := f) (fun D1 hD1 => ?_)
    rw [sub1 hk1]
    refine wp_spread (by omega) hD1 hf (fun B1 hB1 => ?_)
    refine V_X8_seek_96 9 (fun v sz st ld en so sc ss a sh bs dr nx tp nm bb => ∃ n src, nI n = sz ∧ CSt (fst_ kk d1 s1 + v) n (colz f kk d1 s1) (ownz kk d1 s1) src st ld en so sc ss ∧ (∀ c, fst_ kk d1 s1 ≤ c → c < fst_ kk d1 s1 + v → ∃ j, j < n ∧ src j = c) ∧ B1 = bs ∧ (-1 : Int32) = tp ∧ fA 75 nm (fun _ => 0) ∧ fA 9 bb (fun _ => 0)) (fun q2 sz st ld en so sc ss a sh bs dr nx tp nm bb e => ?_) (fun q2 v sz st ld en so sc ss a sh bs dr nx tp nm bb hv e ih2 => ?_) (i := 0) (Nat.zero_le _) ⟨n, src, rfl, hc, fun c h3 h4 => absurd h3 (by omega), rfl, rfl, hnm, hbb⟩
    · obtain ⟨n, src, r1, hc, hl, r2, r3, hnm, hbb⟩ := e
      subst r1 r2 r3
      unfold lp_X8_seek_96
      exact br_t (nle (Nat.le_refl 9) (by decide)) (h0 n src hc.1 hl _ _ _ _ _ _ _ _ _ _ _ _ _ _)
    · obtain ⟨n, src, r1, hc, hl, r2, r3, hnm, hbb⟩ := e
      subst r1 r2 r3
      unfold lp_X8_seek_96
      refine br_f (ngt (b := 9) hv (by decide)) (wp_shift (i := 0) (by decide) (by omega) hB1 (fun A' hA' => ?_))
      refine wp_col (by omega) hc (by rw [colz_v]; exact (fG_flat hA').ra) (fun A2 Sh2 hc2 ht => ?_) (fun A2 Sh2 hc2 => ?_)
      · refine br_f (by decide) ?_
        unfold jn_X8_seek_117
        obtain ⟨a, ha1, ha2⟩ := ht
        have hsm := hc.1.2.1
        refine ha2 v _ _ _ _ hv (fun i j hi hj hij => ?_) (fun j hj => ?_) hnm hbb (fun Sh' Nm' Bb' hN' hB' => h1 v n src a hv hc.1 hl ha1 _ _ _ _ _ _ _ _ _ _ _ _ _ _ hN' hB')
        · have e2 := ownz_inj hkk hd hd0 hs hs0 hij
          rcases Nat.lt_trichotomy i j with g | g | g
          · have := hc.1.2.2.1 i j g hj
            omega
          · exact g
          · have := hc.1.2.2.1 j i g hi
            omega
        · have h3 := hsm j hj
          by_cases c : src j < fst_ kk d1 s1
          · have := (ownz_b hkk hd hd0 hs hs0 c).2.2.2
            omega
          · unfold ownz
            rw [if_neg c]
            omega
      · refine br_t rfl ?_
        rw [show (75 : Int32) = nI 75 from rfl, nI_add, ← ownz_v (kk := kk) (d1 := d1) (s1 := s1)]
        refine hc2 _ (fun St' Ld' En' So' Sc' Ss' hc3 => ih2 _ _ _ _ _ _ _ _ _ _ _ _ _ _ _ ⟨n + 1, _, rfl, hc3, fun c h3 h4 => ?_, rfl, rfl, hnm, hbb⟩)
        by_cases c2 : c = fst_ kk d1 s1 + v
        · exact ⟨n, by omega, by rw [va_up_self, c2]⟩
        · obtain ⟨j, h5, h6⟩ := hl c h3 (by omega)
          exact ⟨j, by omega, by rw [va_up_ne _ _ (show j ≠ n by omega)]; exact h6⟩
  · obtain ⟨n, src, r1, hc, hdr, r2, hnm, hbb⟩ := e
    subst r1 r2
    unfold lp_X8_seek_19
    refine br_f (nI_nlt (by omega) (by omega)) ?_
    have go : ∀ dr2 nx2, fG 9 25 dr2 (DD f k) → jn_X8_seek_42 (nI kk) (nI (d1 - 1)) (nI (s1 - 1)) F (fun x6 I_0_size A_steps A_lead A_end A_source A_scale A_shares A_column A_share A_base A_derived A_next I_2_2_top A_numbers A_b => lp_X8_seek_19 (nI kk) (nI (d1 - 1)) (nI (s1 - 1)) F (jn_X8_seek_74 (nI kk) (nI (d1 - 1)) (nI (s1 - 1)) F K) K q x6 I_0_size A_steps A_lead A_end A_source A_scale A_shares A_column A_share A_base A_derived A_next I_2_2_top A_numbers A_b) (jn_X8_seek_74 (nI kk) (nI (d1 - 1)) (nI (s1 - 1)) F K) K (nI k) (nI n) st ld en so sc ss a sh bs dr2 nx2 (-1) nm bb := by
      intro dr2 nx2 hdr2
      unfold jn_X8_seek_42
      rw [pk_sub (by omega)]
      refine wp_spread (by omega) hdr2 hf (fun B1 hB1 => wp_takeOps hkk hd hd0 hs hs0 (by omega) hc hB1 (fun n' src' st ld en so sc ss a sh hc2 => ih _ _ _ _ _ _ _ _ _ _ _ _ _ _ _ ⟨n', src', rfl, hc2, hdr2, rfl, hnm, hbb⟩))
    by_cases k0 : k = 0
    · subst k0
      exact br_t (by decide) (go _ _ hdr)
    · refine br_f (nle0 (by omega) (by omega)) ?_
      rw [sub1 (by omega)]
      refine wp_deriveMore (by omega) hdr hf (fun D2 N2 hD2 => ?_)
      rw [show k - 1 + 1 = k by omega] at hD2
      exact go _ _ hD2
