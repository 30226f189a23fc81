/-! texts that are written: how many bytes, which -/
def app (p : Nat × (Nat → Nat)) (c : Nat) : Nat × (Nat → Nat) := (p.1 + 1, fun i => if i = p.1 then c else p.2 i)
def fd (u n : Nat) (p : Nat × (Nat → Nat)) : Nat × (Nat → Nat) := if u ≤ n then app p (48 + n / u % 10) else p
def figs (n : Nat) (p : Nat × (Nat → Nat)) : Nat × (Nat → Nat) := fd 1 n (fd 10 n (fd 100 n (fd 1000 n p)))
def tw0 (b : Int) (p : Nat × (Nat → Nat)) : Nat × (Nat → Nat) := if b < 0 then app p 45 else if p.1 = 0 then p else app p 43
def tw1 (n j : Nat) (p : Nat × (Nat → Nat)) : Nat × (Nat → Nat) := if n = 1 ∧ ¬ j = 0 then p else figs n p
def tw2 (j : Nat) (p : Nat × (Nat → Nat)) : Nat × (Nat → Nat) := if j = 0 then p else app p 120
def tw3 (j : Nat) (p : Nat × (Nat → Nat)) : Nat × (Nat → Nat) := if j ≤ 1 then p else app (app p 94) (48 + j)
def tw (z : Int) (j : Nat) (p : Nat × (Nat → Nat)) : Nat × (Nat → Nat) := tw3 j (tw2 j (tw1 (z.bmod 10007).natAbs j (tw0 (z.bmod 10007) p)))
theorem app_1 (p : Nat × (Nat → Nat)) (c : Nat) : (app p c).1 = p.1 + 1 := rfl
theorem fd_b (u n : Nat) (p : Nat × (Nat → Nat)) : (fd u n p).1 ≤ p.1 + 1 := by
  unfold fd
  by_cases h : u ≤ n
  · rw [if_pos h, app_1]; exact Nat.le_refl _
  · rw [if_neg h]; omega
theorem figs_b (n : Nat) (p : Nat × (Nat → Nat)) : (figs n p).1 ≤ p.1 + 4 := by
  have h1 := fd_b 1000 n p
  have h2 := fd_b 100 n (fd 1000 n p)
  have h3 := fd_b 10 n (fd 100 n (fd 1000 n p))
  have h4 := fd_b 1 n (fd 10 n (fd 100 n (fd 1000 n p)))
  unfold figs
  omega
theorem tw0_b (b : Int) (p : Nat × (Nat → Nat)) : (tw0 b p).1 ≤ p.1 + 1 := by
  unfold tw0
  by_cases h : b < 0
  · rw [if_pos h, app_1]; exact Nat.le_refl _
  · rw [if_neg h]
    by_cases h2 : p.1 = 0
    · rw [if_pos h2]; omega
    · rw [if_neg h2, app_1]; exact Nat.le_refl _
theorem tw1_b (n j : Nat) (p : Nat × (Nat → Nat)) : (tw1 n j p).1 ≤ p.1 + 4 := by
  unfold tw1
  by_cases h : n = 1 ∧ ¬ j = 0
  · rw [if_pos h]; omega
  · rw [if_neg h]; exact figs_b n p
theorem tw2_b (j : Nat) (p : Nat × (Nat → Nat)) : (tw2 j p).1 ≤ p.1 + 1 := by
  unfold tw2
  by_cases h : j = 0
  · rw [if_pos h]; omega
  · rw [if_neg h, app_1]; exact Nat.le_refl _
theorem tw3_b (j : Nat) (p : Nat × (Nat → Nat)) : (tw3 j p).1 ≤ p.1 + 2 := by
  unfold tw3
  by_cases h : j ≤ 1
  · rw [if_pos h]; omega
  · rw [if_neg h, app_1, app_1]; exact Nat.le_refl _
theorem tw_b (z : Int) (j : Nat) (p : Nat × (Nat → Nat)) : (tw z j p).1 ≤ p.1 + 8 := by
  have h1 := tw0_b (z.bmod 10007) p
  have h2 := tw1_b (z.bmod 10007).natAbs j (tw0 (z.bmod 10007) p)
  have h3 := tw2_b j (tw1 (z.bmod 10007).natAbs j (tw0 (z.bmod 10007) p))
  have h4 := tw3_b j (tw2 j (tw1 (z.bmod 10007).natAbs j (tw0 (z.bmod 10007) p)))
  unfold tw
  omega
/-- the class's line -/
def CW (p : Nat × (Nat → Nat)) (len : Int32) (A : Nat → Int32) : Prop := nI p.1 = len ∧ ∀ i, i < p.1 → A i = nI (p.2 i)
theorem wp_wb {p : Nat × (Nat → Nat)} {c : Nat} {len : Int32} {A : Nat → Int32} {K : Int32 → (Nat → Int32) → Prop} (hp : p.1 < 40) (h : CW p len A) (hK : ∀ len' A', CW (app p c) len' A' → K len' A') : wp_X10_writeByte (nI c) len A K := by
  obtain ⟨r1, h⟩ := h
  subst r1
  unfold wp_X10_writeByte
  refine br_f (ngt (b := 40) hp (by decide)) ⟨vpn hp (by decide), fun y q => ?_⟩
  rw [nI_1] at q
  subst q
  rw [cln (by omega)]
  refine hK _ _ ⟨rfl, fun i hi => ?_⟩
  show _ = nI (if i = p.1 then c else p.2 i)
  by_cases e : i = p.1
  · rw [if_pos e, e, pk_us]
  · rw [if_neg e, pk_un e]
    exact h i (by rw [app_1] at hi; omega)
theorem wp_fig {u n k : Nat} {p : Nat × (Nat → Nat)} {len : Int32} {A : Nat → Int32} {K : Int32 → (Nat → Int32) → Prop} (hu : 0 < u) (hu2 : u ≤ 1000) (hn : n ≤ 5003) (hp : p.1 < 40) (h : CW p len A) (hK : ∀ len' A', CW (fd u n p) len' A' → lp_X10_writeFigures_4 (nI n) K k (nI (u / 10)) len' A') : lp_X10_writeFigures_4 (nI n) K (k + 1) (nI u) len A := by
  unfold lp_X10_writeFigures_4
  refine br_f (nI_nle hu (by omega)) ?_
  have ed : nI u / (10 : Int32) = nI (u / 10) := pk_div (d := 10) (by omega) (by decide) (by decide)
  unfold jn_X10_writeFigures_26
  rw [ed]
  unfold fd at hK
  by_cases c : u ≤ n
  · rw [if_pos c] at hK
    refine br_f (nI_nlt c (by omega)) ⟨fun q => absurd ((nI_eq (b := 0) (by omega) (by decide)).mp q) (by omega), ?_⟩
    have hq : n / u ≤ n := Nat.div_le_self n u
    rw [pk_div (by omega) hu (by omega), show (10 : Int32) = nI 10 from rfl, pk_rem (by omega) (by decide) (by decide), show (48 : Int32) = nI 48 from rfl, nI_add]
    refine wp_wb hp h (fun len' A' h2 y q => ?_)
    rw [q]
    exact hK _ _ h2
  · rw [if_neg c] at hK
    refine br_t (nI_lt (by omega) (by omega)) (fun y q => ?_)
    rw [q]
    exact hK _ _ h
theorem wp_cfigs {n : Nat} {p : Nat × (Nat → Nat)} {len : Int32} {A : Nat → Int32} {K : Int32 → (Nat → Int32) → Prop} (hn : n ≤ 5003) (hp : p.1 < 37) (h : CW p len A) (hK : ∀ len' A', CW (figs n p) len' A' → K len' A') : wp_X10_writeFigures (nI n) len A K := by
  unfold wp_X10_writeFigures
  have b1 := fd_b 1000 n p
  have b2 := fd_b 100 n (fd 1000 n p)
  have b3 := fd_b 10 n (fd 100 n (fd 1000 n p))
  refine ⟨5, ?_⟩
  refine wp_fig (u := 1000) (by decide) (by decide) hn (by omega) h (fun l1 A1 h1 => ?_)
  refine wp_fig (u := 100) (by decide) (by decide) hn (by omega) h1 (fun l2 A2 h2 => ?_)
  refine wp_fig (u := 10) (by decide) (by decide) hn (by omega) h2 (fun l3 A3 h3 => ?_)
  refine wp_fig (u := 1) (by decide) (by decide) hn (by omega) h3 (fun l4 A4 h4 => ?_)
  unfold lp_X10_writeFigures_4
  exact br_t (by decide) (hK _ _ h4)
theorem fdI_neg {z : Int} : ¬ 0 ≤ fdI z ↔ z.bmod 10007 < 0 := by
  rw [Int32.le_iff_toInt_le, fdI_t, show (0 : Int32).toInt = 0 from rfl]
  omega
theorem fdI_abs {z : Int} (h : 0 ≤ z.bmod 10007) : fdI z = nI (z.bmod 10007).natAbs := ieq (by
  have := fdI_b z
  rw [fdI_t, nI_t (by omega)]
  omega)
theorem fdI_abs' {z : Int} (h : z.bmod 10007 < 0) : -fdI z = nI (z.bmod 10007).natAbs := ieq (by
  have := fdI_b z
  rw [ing (fdI_t z) (by omega), nI_t (by omega)]
  omega)
theorem wp_cterm {z : Int} {j : Nat} {p : Nat × (Nat → Nat)} {len : Int32} {A : Nat → Int32} {K : Int32 → (Nat → Int32) → Prop} (hj : j ≤ 4) (hp : p.1 ≤ 32) (h : CW p len A) (hK : ∀ len' A', CW (tw z j p) len' A' → K len' A') : wp_X10_writeTerm (fdI z) (nI j) len A K := by
  have hb := fdI_b z
  have q0 := tw0_b (z.bmod 10007) p
  have q1 := tw1_b (z.bmod 10007).natAbs j (tw0 (z.bmod 10007) p)
  have q2 := tw2_b j (tw1 (z.bmod 10007).natAbs j (tw0 (z.bmod 10007) p))
  unfold tw at hK
  -- behind the sign
  have t26 : ∀ len A, CW (tw0 (z.bmod 10007) p) len A → jn_X10_writeTerm_26 (fdI z) (nI j) K len A := by
    intro len A h
    generalize tw0 (z.bmod 10007) p = p0 at h hK q0 q1 q2
    have t61 : ∀ len A, CW (tw2 j (tw1 (z.bmod 10007).natAbs j p0)) len A → jn_X10_writeTerm_61 (fdI z) (nI j) K len A := by
      intro len A h
      generalize tw2 j (tw1 (z.bmod 10007).natAbs j p0) = p2 at h hK q2
      unfold jn_X10_writeTerm_61
      unfold tw3 at hK
      by_cases c : j ≤ 1
      · rw [if_pos c] at hK
        exact br_t (nle (b := 1) c (by decide)) (hK _ _ h)
      · rw [if_neg c] at hK
        refine br_f (ngt (a := 1) (by omega) (by omega)) (wp_wb (c := 94) (by omega) h (fun l1 A1 h1 => ?_))
        rw [show (48 : Int32) = nI 48 from rfl, nI_add]
        exact wp_wb (by rw [app_1]; omega) h1 (fun l2 A2 h2 => hK _ _ h2)
    have t51 : ∀ len A, CW (tw1 (z.bmod 10007).natAbs j p0) len A → jn_X10_writeTerm_51 (fdI z) (nI j) K len A := by
      intro len A h
      generalize tw1 (z.bmod 10007).natAbs j p0 = p1 at h q1 q2 t61
      unfold jn_X10_writeTerm_51
      unfold tw2 at t61
      by_cases c : j = 0
      · rw [if_pos c] at t61
        exact br_t (by rw [c]; decide) (t61 _ _ h)
      · rw [if_neg c] at t61
        exact br_f (nle0 (by omega) (by omega)) (wp_wb (c := 120) (by omega) h (fun l1 A1 h1 => t61 _ _ h1))
    have t36 : jn_X10_writeTerm_36 (fdI z) (nI j) K (nI (z.bmod 10007).natAbs) len A := by
      unfold jn_X10_writeTerm_36 jn_X10_writeTerm_46
      unfold tw1 at t51
      by_cases c : (z.bmod 10007).natAbs = 1
      · refine rb_t (by rw [c]; rfl) ?_
        by_cases c2 : j = 0
        · rw [if_neg (fun q => q.2 c2)] at t51
          exact rb_t (by rw [c2]; rfl) (wp_cfigs (by omega) (by omega) h t51)
        · rw [if_pos ⟨c, c2⟩] at t51
          exact rb_f (fun q => c2 ((nI_eq (b := 0) (by omega) (by decide)).mp q)) (t51 _ _ h)
      · rw [if_neg (fun q => c q.1)] at t51
        exact rb_f (fun q => c ((nI_eq (b := 1) (by omega) (by decide)).mp q)) (wp_cfigs (by omega) (by omega) h t51)
    unfold jn_X10_writeTerm_26
    by_cases c : 0 ≤ z.bmod 10007
    · rw [← fdI_abs c] at t36
      exact br_t (Decidable.of_not_not (fun q => absurd (fdI_neg.mp q) (by omega))) t36
    · rw [← fdI_abs' (show z.bmod 10007 < 0 by omega)] at t36
      exact br_f (fdI_neg.mpr (by omega)) t36
  unfold wp_X10_writeTerm
  unfold tw0 at t26
  by_cases c : z.bmod 10007 < 0
  · rw [if_pos c] at t26
    exact br_f (fdI_neg.mpr c) (wp_wb (c := 45) (by omega) h t26)
  · rw [if_neg c] at t26
    refine br_t (Decidable.of_not_not (fun q => c (fdI_neg.mp q))) ?_
    obtain ⟨r1, h2⟩ := h
    subst r1
    by_cases c2 : p.1 = 0
    · rw [if_pos c2] at t26
      exact br_t (by rw [c2]; decide) (t26 _ _ ⟨rfl, h2⟩)
    · rw [if_neg c2] at t26
      exact br_f (nle0 (by omega) (by omega)) (wp_wb (c := 43) (by omega) ⟨rfl, h2⟩ t26)
/-- the whole text: from x to the 4th down -/
def twz (f : Nat → Int) : Nat → Nat × (Nat → Nat)
  | 0 => (0, fun _ => 0)
  | d + 1 => if f (4 - d) % 10007 = 0 then twz f d else tw (f (4 - d)) (4 - d) (twz f d)
def twe (f : Nat → Int) : Nat × (Nat → Nat) := if (twz f 5).1 = 0 then app (twz f 5) 48 else twz f 5
theorem twz_b (f : Nat → Int) : ∀ d, (twz f d).1 ≤ 8 * d
  | 0 => Nat.le_refl 0
  | d + 1 => by
    have h1 := twz_b f d
    have h2 := tw_b (f (4 - d)) (4 - d) (twz f d)
    unfold twz
    by_cases c : f (4 - d) % 10007 = 0
    · rw [if_pos c]; omega
    · rw [if_neg c]; omega
theorem twz_s (f : Nat → Int) (d : Nat) : twz f (d + 1) = if f (4 - d) % 10007 = 0 then twz f d else tw (f (4 - d)) (4 - d) (twz f d) := rfl
theorem wp_cwrite {f : Nat → Int} {F A : Nat → Int32} {l0 : Int32} {K : Int32 → Int32 → (Nat → Int32) → Prop} (hf : fA 5 F f) (hK : ∀ A', CW (twe f) (nI (twe f).1) A' → K (nI (twe f).1) (nI (twe f).1) A') : wp_X10_write l0 A F K := by
  unfold wp_X10_write
  have hb5 := twz_b f 5
  refine V_X10_write_7 (fun n len g => n ≤ 5 ∧ CW (twz f (5 - n)) len g) (fun k len g e => ?_) (fun k i len g e ih => ?_) (n := 4) ⟨by decide, rfl, fun i hi => by have h0 : (twz f (5 - (4 + 1))).1 = 0 := rfl; omega⟩
  · obtain ⟨-, e⟩ := e
    unfold lp_X10_write_7
    refine br_t (by decide) ?_
    unfold jn_X10_write_31 jn_X10_write_44
    rw [Nat.sub_zero] at e
    obtain ⟨r1, e2⟩ := e
    subst r1
    unfold twe at hK
    by_cases c : (twz f 5).1 = 0
    · rw [if_pos c] at hK
      refine rb_t (by rw [c]; rfl) (wp_wb (c := 48) (by omega) ⟨rfl, e2⟩ (fun l1 A1 h1 => ?_))
      obtain ⟨r2, h2⟩ := h1
      subst r2
      exact hK _ ⟨rfl, h2⟩
    · rw [if_neg c] at hK
      exact rb_f (fun q => c ((nI_eq (b := 0) (by omega) (by decide)).mp q)) (hK _ ⟨rfl, e2⟩)
  · obtain ⟨hi, e⟩ := e
    unfold lp_X10_write_7
    refine br_f (nlt0 (by omega)) ⟨vpn (by omega) (by decide), ?_⟩
    rw [cln (by omega), hf.g i (by omega)]
    unfold jn_X10_write_25
    have hb := twz_b f (5 - (i + 1))
    have es := twz_s f (5 - (i + 1))
    rw [show 5 - (i + 1) + 1 = 5 - i by omega, show 4 - (5 - (i + 1)) = i by omega] at es
    by_cases c : f i % 10007 = 0
    · rw [if_pos c] at es
      refine br_t (fdI_0.mpr (em0.mp c)) (ih _ _ ⟨by omega, ?_⟩)
      rw [es]
      exact e
    · rw [if_neg c] at es
      refine br_f (fun q => c (em0.mpr (fdI_0.mp q))) (wp_cterm (by omega) (by omega) e (fun l1 A1 h1 => ih _ _ ⟨by omega, ?_⟩))
      rw [es]
      exact h1
/-- the model's -/
def msg (w : Int32) (p : Nat × (Nat → Nat)) : Int32 := if 0 ≤ w.toInt ∧ w.toInt < (p.1 : Int) then nI (p.2 w.toInt.toNat) else -1
def MS (w : Int32) (p : Nat × (Nat → Nat)) (signs sign : Int32) : Prop := nI p.1 = signs ∧ msg w p = sign
theorem wp_ws {w : Int32} {p : Nat × (Nat → Nat)} {c : Nat} {signs sign : Int32} {K : Int32 → Int32 → Prop} (hp : p.1 < 1000) (h : MS w p signs sign) (hK : ∀ a b, MS w (app p c) a b → K a b) : wp_X12_writes (nI c) signs w sign K := by
  obtain ⟨r1, r2⟩ := h
  subst r1 r2
  unfold wp_X12_writes jn_X12_writes_20
  rw [nI_1]
  refine ⟨fun q y qy => ?_, fun q y qy => ?_⟩
  · subst qy
    refine hK _ _ ⟨rfl, ?_⟩
    have hne : w.toInt ≠ (p.1 : Int) := fun e => q (ieq (by rw [nI_t (by omega)]; exact e.symm))
    unfold msg
    by_cases d : 0 ≤ w.toInt ∧ w.toInt < (p.1 : Int)
    · rw [if_pos d, if_pos (by rw [app_1]; omega)]
      show nI (if w.toInt.toNat = p.1 then c else p.2 w.toInt.toNat) = _
      rw [if_neg (by omega)]
    · rw [if_neg d, if_neg (by rw [app_1]; omega)]
  · subst qy
    refine hK _ _ ⟨rfl, ?_⟩
    have e : w.toInt = (p.1 : Int) := by rw [← q, nI_t (by omega)]
    unfold msg
    rw [if_pos (by rw [app_1]; omega)]
    show nI (if w.toInt.toNat = p.1 then c else p.2 w.toInt.toNat) = _
    rw [if_pos (by omega)]
theorem wp_mfig {w : Int32} {u n k : Nat} {p : Nat × (Nat → Nat)} {signs sign : Int32} {K : Int32 → Int32 → Prop} (hu : 0 < u) (hu2 : u ≤ 1000) (hun : u ≤ n) (hn : n ≤ 5003) (hp : p.1 < 1000) (h : MS w p signs sign) (hK : ∀ a b, MS w (fd u n p) a b → lp_X12_writesNumber_18 (nI n) w K k (nI (u / 10)) a b) : lp_X12_writesNumber_18 (nI n) w K (k + 1) (nI u) signs sign := by
  unfold lp_X12_writesNumber_18
  unfold fd at hK
  rw [if_pos hun] at hK
  refine br_f (nI_nle hu (by omega)) ⟨fun q => absurd ((nI_eq (b := 0) (by omega) (by decide)).mp q) (by omega), ?_⟩
  have hq : n / u ≤ n := Nat.div_le_self n u
  rw [pk_div (by omega) hu (by omega), show (10 : Int32) = nI 10 from rfl, pk_rem (by omega) (by decide) (by decide), show (48 : Int32) = nI 48 from rfl, nI_add]
  refine wp_ws hp h (fun a b h2 y q => ?_)
  rw [pk_div (by omega) (by decide) (by decide)] at q
  rw [q]
  exact hK _ _ h2
theorem lp18_end {w x : Int32} {k : Nat} {K : Int32 → Int32 → Prop} {a b : Int32} (h : K a b) : lp_X12_writesNumber_18 x w K (k + 1) (nI 0) a b := by
  unfold lp_X12_writesNumber_18
  exact br_t (by decide) h
theorem fd_n {u n : Nat} {p : Nat × (Nat → Nat)} (h : n < u) : fd u n p = p := if_neg (by omega)
theorem wp_mnum {w : Int32} {n : Nat} {p : Nat × (Nat → Nat)} {signs sign : Int32} {K : Int32 → Int32 → Prop} (h1 : 1 ≤ n) (hn : n ≤ 5003) (hp : p.1 < 900) (h : MS w p signs sign) (hK : ∀ a b, MS w (figs n p) a b → K a b) : wp_X12_writesNumber (nI n) signs w sign K := by
  unfold wp_X12_writesNumber
  unfold figs at hK
  have b1 := fd_b 1000 n p
  have b2 := fd_b 100 n (fd 1000 n p)
  have b3 := fd_b 10 n (fd 100 n (fd 1000 n p))
  -- from 1000, 100, 10, 1 down
  have s1 : ∀ (q : Nat × (Nat → Nat)) (a b : Int32), q.1 < 1000 → MS w q a b → (∀ a b, MS w (fd 1 n q) a b → K a b) → lp_X12_writesNumber_18 (nI n) w K 2 (nI 1) a b := fun q a b hq hm hk => wp_mfig (by decide) (by decide) h1 hn hq hm (fun a b h2 => lp18_end (hk a b h2))
  have s10 : 10 ≤ n → ∀ (q : Nat × (Nat → Nat)) (a b : Int32), q.1 < 999 → MS w q a b → (∀ a b, MS w (fd 1 n (fd 10 n q)) a b → K a b) → lp_X12_writesNumber_18 (nI n) w K 3 (nI 10) a b := fun g q a b hq hm hk => wp_mfig (by decide) (by decide) g hn (by omega) hm (fun a b h2 => s1 _ a b (by have := fd_b 10 n q; omega) h2 hk)
  have s100 : 100 ≤ n → ∀ (q : Nat × (Nat → Nat)) (a b : Int32), q.1 < 998 → MS w q a b → (∀ a b, MS w (fd 1 n (fd 10 n (fd 100 n q))) a b → K a b) → lp_X12_writesNumber_18 (nI n) w K 4 (nI 100) a b := fun g q a b hq hm hk => wp_mfig (by decide) (by decide) g hn (by omega) hm (fun a b h2 => s10 (by omega) _ a b (by have := fd_b 100 n q; omega) h2 hk)
  have s1000 : 1000 ≤ n → ∀ (q : Nat × (Nat → Nat)) (a b : Int32), q.1 < 997 → MS w q a b → (∀ a b, MS w (fd 1 n (fd 10 n (fd 100 n (fd 1000 n q)))) a b → K a b) → lp_X12_writesNumber_18 (nI n) w K 5 (nI 1000) a b := fun g q a b hq hm hk => wp_mfig (by decide) (by decide) g hn (by omega) hm (fun a b h2 => s100 (by omega) _ a b (by have := fd_b 1000 n q; omega) h2 hk)
  have st : ∀ (u k : Nat), 0 < u → u ≤ 1000 → (n / u ≤ 9 → ∃ k18 : Nat, lp_X12_writesNumber_18 (nI n) w K k18 (nI u) signs sign) → (¬ n / u ≤ 9 → lp_X12_writesNumber_2 (nI n) w (fun x2 I_0_signs I_0_sign => ∃ k18 : Nat, lp_X12_writesNumber_18 (nI n) w K k18 x2 I_0_signs I_0_sign) K k (nI (u * 10)) signs sign) → lp_X12_writesNumber_2 (nI n) w (fun x2 I_0_signs I_0_sign => ∃ k18 : Nat, lp_X12_writesNumber_18 (nI n) w K k18 x2 I_0_signs I_0_sign) K (k + 1) (nI u) signs sign := by
    intro u k hu hu2 ha hb
    unfold lp_X12_writesNumber_2
    have hq : n / u ≤ n := Nat.div_le_self n u
    refine ⟨fun q => absurd ((nI_eq (b := 0) (by omega) (by decide)).mp q) (by omega), ?_⟩
    rw [pk_div (by omega) hu (by omega)]
    by_cases c : n / u ≤ 9
    · exact br_t (nle (b := 9) c (by decide)) (ha c)
    · refine br_f (ngt (a := 9) (by omega) (by omega)) (fun y q => ?_)
      rw [show (10 : Int32) = nI 10 from rfl, pk_mul] at q
      rw [q]
      exact hb c
  refine ⟨5, ?_⟩
  refine st 1 4 (by decide) (by decide) (fun c => ⟨2, ?_⟩) (fun c1 => st (1 * 10) 3 (by decide) (by decide) (fun c => ⟨3, ?_⟩) (fun c2 => st (1 * 10 * 10) 2 (by decide) (by decide) (fun c => ⟨4, ?_⟩) (fun c3 => st (1 * 10 * 10 * 10) 1 (by decide) (by decide) (fun c => ⟨5, ?_⟩) (fun c4 => absurd (show n / (1 * 10 * 10 * 10) ≤ 9 by omega) c4))))
  · rw [fd_n (u := 10) (by omega), fd_n (u := 100) (by omega), fd_n (u := 1000) (by omega)] at hK
    exact s1 p _ _ (by omega) h hK
  · rw [fd_n (u := 100) (by omega), fd_n (u := 1000) (by omega)] at hK
    exact s10 (by omega) p _ _ (by omega) h hK
  · rw [fd_n (u := 1000) (by omega)] at hK
    exact s100 (by omega) p _ _ (by omega) h hK
  · exact s1000 (by omega) p _ _ (by omega) h hK
theorem abs_eq {z : Int} : (if 0 ≤ fdI z then fdI z else 0 - fdI z) = nI (z.bmod 10007).natAbs := by
  by_cases c : z.bmod 10007 < 0
  · rw [if_neg (fdI_neg.mpr c), Int32.zero_sub]
    exact fdI_abs' c
  · rw [if_pos (Decidable.of_not_not (fun q => c (fdI_neg.mp q)))]
    exact fdI_abs (by omega)
theorem fdI_ltn {z : Int} : fdI z < 0 ↔ z.bmod 10007 < 0 := by
  rw [Int32.lt_iff_toInt_lt, fdI_t, show (0 : Int32).toInt = 0 from rfl]
theorem wp_mterm {w : Int32} {z : Int} {j : Nat} {p : Nat × (Nat → Nat)} {signs sign : Int32} {F : Nat → Int32} {K : Int32 → Int32 → Prop} (hj : j ≤ 4) (hF : F j = mdI z) (hz : ¬ z % 10007 = 0) (hp : p.1 < 800) (h : MS w p signs sign) (hK : ∀ a b, MS w (tw z j p) a b → K a b) : wp_X12_writesTerm (nI j) signs w sign F K := by
  have hb := fdI_b z
  have hb0 : z.bmod 10007 ≠ 0 := by
    rcases bmod_t z with g | g <;> omega
  have q0 := tw0_b (z.bmod 10007) p
  have q1 := tw1_b (z.bmod 10007).natAbs j (tw0 (z.bmod 10007) p)
  have q2 := tw2_b j (tw1 (z.bmod 10007).natAbs j (tw0 (z.bmod 10007) p))
  unfold tw at hK
  have t36 : ∀ a b, MS w (tw0 (z.bmod 10007) p) a b → jn_X12_writesTerm_36 (nI j) w F K (fdI z) a b := by
    intro a b h
    generalize tw0 (z.bmod 10007) p = p0 at h hK q0 q1 q2
    have t66 : ∀ a b, MS w (tw2 j (tw1 (z.bmod 10007).natAbs j p0)) a b → jn_X12_writesTerm_66 (nI j) w F K a b := by
      intro a b h
      generalize tw2 j (tw1 (z.bmod 10007).natAbs j p0) = p2 at h hK q2
      unfold jn_X12_writesTerm_66
      unfold tw3 at hK
      by_cases c : j ≤ 1
      · rw [if_pos c] at hK
        exact br_t (nle (b := 1) c (by decide)) (hK _ _ h)
      · rw [if_neg c] at hK
        refine br_f (ngt (a := 1) (by omega) (by omega)) (wp_ws (c := 94) (by omega) h (fun a b h1 => ?_))
        rw [show (48 : Int32) = nI 48 from rfl, nI_add]
        exact wp_ws (by rw [app_1]; omega) h1 (fun a b h2 => hK _ _ h2)
    have t56 : ∀ a b, MS w (tw1 (z.bmod 10007).natAbs j p0) a b → jn_X12_writesTerm_56 (nI j) w F K a b := by
      intro a b h
      generalize tw1 (z.bmod 10007).natAbs j p0 = p1 at h q1 q2 t66
      unfold jn_X12_writesTerm_56
      unfold tw2 at t66
      by_cases c : j = 0
      · rw [if_pos c] at t66
        exact br_t (by rw [c]; decide) (t66 _ _ h)
      · rw [if_neg c] at t66
        exact br_f (nle0 (by omega) (by omega)) (wp_ws (c := 120) (by omega) h (fun a b h1 => t66 _ _ h1))
    have t48 : ¬ ((z.bmod 10007).natAbs = 1 ∧ ¬ j = 0) → jn_X12_writesTerm_48 (nI j) w F K (fdI z) a b := by
      intro c
      unfold tw1 at t56
      rw [if_neg c] at t56
      unfold jn_X12_writesTerm_48
      rw [abs_eq]
      exact wp_mnum (by omega) (by omega) (by omega) h t56
    unfold jn_X12_writesTerm_36
    rw [abs_eq]
    by_cases c : j = 0
    · exact br_t (by rw [c]; rfl) (t48 (fun q => q.2 c))
    · refine br_f (fun q => c ((nI_eq (b := 0) (by omega) (by decide)).mp q)) ?_
      by_cases c2 : (z.bmod 10007).natAbs = 1
      · refine br_t (nle (b := 1) (by omega) (by decide)) (t56 _ _ ?_)
        unfold tw1
        rw [if_pos ⟨c2, c⟩]
        exact h
      · exact br_f (ngt (a := 1) (by omega) (by omega)) (t48 (fun q => c2 q.1))
  unfold wp_X12_writesTerm
  refine ⟨vpn (by omega) (by decide), ?_⟩
  rw [cln (by omega), hF]
  refine wp_signed ?_
  unfold tw0 at t36
  unfold jn_X12_writesTerm_21 jn_X12_writesTerm_33
  by_cases c : z.bmod 10007 < 0
  · rw [if_pos c] at t36
    exact br_t (fdI_ltn.mpr c) (br_f (fdI_neg.mpr c) (wp_ws (c := 45) (by omega) h t36))
  · rw [if_neg c] at t36
    refine br_f (fun q => c (fdI_ltn.mp q)) ?_
    obtain ⟨r1, r2⟩ := h
    subst r1
    by_cases c2 : p.1 = 0
    · rw [if_pos c2] at t36
      exact br_t (by rw [c2]; decide) (t36 _ _ ⟨rfl, r2⟩)
    · rw [if_neg c2] at t36
      exact br_f (nle0 (by omega) (by omega)) (br_t (Decidable.of_not_not (fun q => c (fdI_neg.mp q))) (wp_ws (c := 43) (by omega) ⟨rfl, r2⟩ t36))
theorem wp_mwrite {w s1 s2 s3 : Int32} {f : Nat → Int} {F : Nat → Int32} {K : Int32 → Int32 → Int32 → Int32 → Prop} (hf : mA 5 F f) (hw : -1 ≤ w) (hK : ∀ sg, sg = msg w (twe f) → ((¬ w = -1 → K sg (nI (twe f).1) w sg) ∧ (w = -1 → K (nI (twe f).1) (nI (twe f).1) w sg))) : wp_X12_written w s1 s2 s3 F K := by
  unfold wp_X12_written
  refine br_t hw ?_
  have hb5 := twz_b f 5
  refine V_X12_written_24 (fun n a b c => n ≤ 5 ∧ w = b ∧ MS w (twz f (5 - n)) a c) (fun k a b c e => ?_) (fun k i a b c e ih => ?_) (n := 4) ⟨by decide, rfl, rfl, ?_⟩
  · obtain ⟨-, r1, e⟩ := e
    subst r1
    unfold lp_X12_written_24
    refine br_t (by decide) ?_
    rw [Nat.sub_zero] at e
    have go : ∀ a b, MS w (twe f) a b → jn_X12_written_61 w F K a w b := by
      intro a b h
      obtain ⟨r2, r3⟩ := h
      subst r2
      unfold jn_X12_written_61
      exact hK b r3.symm
    unfold jn_X12_written_48
    unfold twe at go
    by_cases c2 : (twz f 5).1 = 0
    · rw [if_pos c2] at go
      obtain ⟨r2, r3⟩ := e
      subst r2
      exact rb_t (by rw [c2]; rfl) (wp_ws (c := 48) (by omega) ⟨rfl, r3⟩ go)
    · rw [if_neg c2] at go
      obtain ⟨r2, r3⟩ := e
      subst r2
      exact rb_f (fun q => c2 ((nI_eq (b := 0) (by omega) (by decide)).mp q)) (go _ _ ⟨rfl, r3⟩)
  · obtain ⟨hi, r1, e⟩ := e
    subst r1
    unfold lp_X12_written_24
    refine br_f (nlt0 (by omega)) ⟨vpn (by omega) (by decide), ?_⟩
    rw [cln (by omega), hf.g i (by omega)]
    unfold jn_X12_written_42
    have hb := twz_b f (5 - (i + 1))
    have es := twz_s f (5 - (i + 1))
    rw [show 5 - (i + 1) + 1 = 5 - i by omega, show 4 - (5 - (i + 1)) = i by omega] at es
    by_cases c2 : f i % 10007 = 0
    · rw [if_pos c2] at es
      refine br_t (mdI_0.mpr (em0.mp c2)) (ih _ _ _ ⟨by omega, rfl, ?_⟩)
      rw [es]
      exact e
    · rw [if_neg c2] at es
      refine br_f (fun q => c2 (em0.mpr (mdI_0.mp q))) (wp_mterm (by omega) (hf i (by omega)) c2 (by omega) e (fun a b h1 => ih _ _ _ ⟨by omega, rfl, ?_⟩))
      rw [es]
      exact h1
  · show msg w (0, fun _ => 0) = -1
    unfold msg
    rw [if_neg (by intro q; have := q.2; simp at this; omega)]
theorem pr_written {x1 : Int32} {F A F' : Nat → Int32} {l0 s1 s2 s3 : Int32} {f : Nat → Int} {K : Int32 → Int32 → (Nat → Int32) → Int32 → Int32 → Int32 → Int32 → Prop} (hf : rl 5 F F' f) (hK : ∀ r a b c d e, K r a b r c d e) : wp_X11_written x1 F l0 A (fun r a b => wp_X12_written x1 s1 s2 s3 F' (fun r2 c d e => K r a b r2 c d e)) := by
  unfold wp_X11_written
  refine wp_cwrite (rl_iff.mp hf).1 (fun A' hA => ?_)
  have hb5 := twz_b f 5
  have hbe : (twe f).1 ≤ 40 ∧ 1 ≤ (twe f).1 := by
    unfold twe
    by_cases c : (twz f 5).1 = 0
    · rw [if_pos c, app_1]
      omega
    · rw [if_neg c]
      omega
  refine ⟨fun q => ?_, fun q => ?_⟩
  · refine wp_within ⟨fun q2 => ?_, fun q2 => ?_⟩
    · by_cases c : -1 ≤ x1
      · refine wp_mwrite (rl_iff.mp hf).2 c (fun sg hs => rb_f q ?_)
        have e : msg x1 (twe f) = -1 := by
          unfold msg
          refine if_neg (fun g => ?_)
          rw [btw_0] at q2
          refine q2 ⟨Int32.le_iff_toInt_le.mpr (by rw [show (0 : Int32).toInt = 0 from rfl]; exact g.1), ?_⟩
          rw [sub1 hbe.2, Int32.le_iff_toInt_le, nI_t (by omega)]
          omega
        rw [hs, e]
        exact hK _ _ _ _ _ _
      · unfold wp_X12_written
        exact br_f c (hK _ _ _ _ _ _)
    · obtain ⟨i, hi, rfl⟩ := btw_sm (by omega) q2
      refine ⟨vpn (by omega) (by decide), wp_mwrite (rl_iff.mp hf).2 (Int32.le_iff_toInt_le.mpr (by rw [nI_t (by omega), show (-1 : Int32).toInt = -1 from rfl]; omega)) (fun sg hs => rb_f q ?_)⟩
      have e : msg (nI i) (twe f) = nI ((twe f).2 i) := by
        unfold msg
        rw [nI_t (by omega), if_pos (by omega)]
        rfl
      rw [cln (by omega), hA.2 i hi, hs, e]
      exact hK _ _ _ _ _ _
  · subst q
    refine wp_mwrite (rl_iff.mp hf).2 (by decide) (fun sg hs => rb_t rfl ?_)
    exact hK _ _ _ _ _ _
