/-! inverses, powers of F, whole powers worked upon -/
theorem cg_pow {a b : Int} (h : cg a b) : ∀ n : Nat, cg (a ^ n) (b ^ n)
  | 0 => by rw [Int.pow_zero, Int.pow_zero]; exact cg.rf
  | n + 1 => by rw [Int.pow_succ, Int.pow_succ]; exact cg.mul (cg_pow h n) h
/-- Fermat, by trying all -/
def chF : Nat → Nat → Bool
  | 0, a => a == 0 || Nat.ble 10007 a || (a ^ 10006 % 10007 == 1)
  | k + 1, a => chF k a && chF k (a + 2 ^ k)
set_option maxRecDepth 20000 in
theorem chF_all : chF 14 0 = true := by decide +kernel
theorem chF_get : ∀ (k a n : Nat), chF k a = true → a ≤ n → n < a + 2 ^ k → chF 0 n = true
  | 0, a, n, h, h1, h2 => by
    have e : n = a := by rw [Nat.pow_zero] at h2; omega
    rw [e]
    exact h
  | k + 1, a, n, h, h1, h2 => by
    unfold chF at h
    rw [Bool.and_eq_true] at h
    rw [Nat.pow_succ] at h2
    by_cases e : n < a + 2 ^ k
    · exact chF_get k a n h.1 h1 e
    · exact chF_get k (a + 2 ^ k) n h.2 (by omega) (by omega)
theorem fermat {z : Int} (h : ¬ cg z 0) : cg (z * z ^ 10005) 1 := by
  have hn : ∃ n : Nat, n < 10007 ∧ (n : Int) = z % 10007 := ⟨(z % 10007).toNat, by omega, by omega⟩
  obtain ⟨n, hn, en⟩ := hn
  have h0 : n ≠ 0 := fun e => h (by unfold cg; omega)
  have h1 := chF_get 14 0 n chF_all (Nat.zero_le n) (by omega)
  unfold chF at h1
  rw [Bool.or_eq_true, Bool.or_eq_true] at h1
  have h2 : n ^ 10006 % 10007 = 1 := by
    rcases h1 with (h1 | h1) | h1
    · exact absurd (eq_of_beq h1) h0
    · exact absurd (Nat.le_of_ble_eq_true h1) (by omega)
    · exact eq_of_beq h1
  have e1 : cg z (n : Int) := by rw [en]; exact (cg_em z).sy
  have e2 := cg_pow e1 10006
  have e3 : z * z ^ 10005 = z ^ 10006 := (Int.pow_succ' z 10005).symm
  rw [e3]
  refine e2.tr ?_
  have e4 : ((n ^ 10006 : Nat) : Int) = (n : Int) ^ 10006 := Int.natCast_pow n 10006
  rw [← e4]
  unfold cg
  generalize n ^ 10006 = m at h2
  omega
theorem cg_cancel {a x y : Int} (h : ¬ cg a 0) (e : cg (a * x) (a * y)) : cg x y := by
  have h1 := fermat h
  have e1 : cg (a ^ 10005 * (a * x)) (a ^ 10005 * (a * y)) := cg.mul cg.rf e
  have e2 : ∀ t : Int, cg (a ^ 10005 * (a * t)) t := fun t => by
    rw [← Int.mul_assoc, Int.mul_comm (a ^ 10005) a]
    have := cg.mul h1 (cg.rf (a := t))
    rw [Int.one_mul] at this
    exact this
  exact (e2 x).sy.tr (e1.tr (e2 y))
theorem cg_mul0 {a b : Int} (h : cg (a * b) 0) : cg a 0 ∨ cg b 0 := by
  by_cases e : cg a 0
  · exact Or.inl e
  · exact Or.inr (cg_cancel e (by rw [Int.mul_zero]; exact h))
theorem cg_10 : ¬ cg 1 0 := by unfold cg; decide
theorem cg_pow0 {a : Int} (h : ¬ cg a 0) : ∀ n : Nat, ¬ cg (a ^ n) 0
  | 0 => by rw [Int.pow_zero]; exact cg_10
  | n + 1 => by
    rw [Int.pow_succ]
    intro e
    rcases cg_mul0 e with e | e
    · exact cg_pow0 h n e
    · exact h e
theorem and1 (e : Nat) (h : e < 2147483648) : nI e &&& (1 : Int32) = nI (e % 2) := by
  have := pk_andN (n := e) (by omega) (m := (1 : Int32)) 1 (by decide)
  rw [this]
theorem shr1 (e : Nat) (h : e < 2147483648) : nI e >>> ((1 : Int32) &&& 31) = nI (e / 2) := pk_shrN (by omega) _ 1 (by decide)
theorem pow_even (a b : Int) (e : Nat) (h : e % 2 = 0) : a * (b * b) ^ (e / 2) = a * b ^ e := by
  rw [Int.mul_pow, ← Int.pow_add, show e / 2 + e / 2 = e by omega]
theorem pow_odd (a b : Int) (e : Nat) (h : e % 2 = 1) : a * b * (b * b) ^ (e / 2) = a * b ^ e := by
  have e1 : b ^ e = b ^ (e / 2 + e / 2) * b := by
    rw [← Int.pow_succ, show e = e / 2 + e / 2 + 1 by omega]
    congr 1
    omega
  rw [Int.mul_pow, ← Int.pow_add, e1, Int.mul_assoc, Int.mul_comm b]
theorem wp_inverse {x : Int32} {z : Int} {K : Int32 → Prop} (hx : x = fdI z) (hK : K (fdI (z ^ 10005))) : wp_X3_inverse x K := by
  unfold wp_X3_inverse
  rw [hx]
  refine fd_long (i2l_t (fdI_t z)) (cg_bm z) ?_
  refine ⟨15, ?_⟩
  refine G_X3_inverse_12 (I := fun n g0 g1 g2 => ∃ (e : Nat) (a b : Int), e < 2 ^ n ∧ e ≤ 10005 ∧ nI e = g2 ∧ fdI a = g0 ∧ fdI b = g1 ∧ a * b ^ e = z ^ 10005) (fun k n g0 g1 g2 h ih => ?_) 14 _ _ _ ⟨10005, 1, z, by decide, by decide, rfl, fdI_1, rfl, Int.one_mul _⟩
  obtain ⟨e, a, b, h1, h2, h3, h4, h5, h6⟩ := h
  subst h3 h4 h5
  unfold lp_X3_inverse_12
  by_cases e0 : e = 0
  · subst e0
    refine br_t (by decide) ?_
    rw [Int.pow_zero, Int.mul_one] at h6
    rw [h6]
    exact hK
  · have hn : n ≠ 0 := fun q => by rw [q, Nat.pow_zero] at h1; omega
    obtain ⟨m, rfl⟩ : ∃ m, n = m + 1 := ⟨n - 1, by omega⟩
    rw [Nat.pow_succ] at h1
    refine br_f (nI_nle (by omega) (by omega)) ?_
    rw [and1 e (by omega)]
    by_cases e1 : e % 2 = 1
    · refine rb_t (by rw [e1]; rfl) (wp_foldmul ?_)
      unfold jn_X3_inverse_32
      refine wp_foldmul (fun y q => ?_)
      rw [shr1 e (by omega)] at q
      subst q
      exact ih m _ _ _ rfl ⟨e / 2, a * b, b * b, by omega, by omega, rfl, rfl, rfl, by rw [pow_odd a b e e1]; exact h6⟩
    · have e2 : e % 2 = 0 := by omega
      refine rb_f (by rw [e2]; decide) ?_
      unfold jn_X3_inverse_32
      refine wp_foldmul (fun y q => ?_)
      rw [shr1 e (by omega)] at q
      subst q
      exact ih m _ _ _ rfl ⟨e / 2, a, b * b, by omega, by omega, rfl, rfl, rfl, by rw [pow_even a b e e2]; exact h6⟩
theorem rem2 (e : Nat) (h : e < 2147483648) : nI e - nI e / (2 : Int32) * (2 : Int32) = nI (e % 2) := pk_rem (d := 2) (by omega) (by decide) (by decide)
theorem div2 (e : Nat) (h : e < 2147483648) : nI e / (2 : Int32) = nI (e / 2) := pk_div (d := 2) (by omega) (by decide) (by decide)
theorem wp_minverse {x : Int32} {z : Int} {K : Int32 → Prop} (hx : x = mdI z) (hK : K (mdI (z ^ 10005))) : wp_X12_inverse x K := by
  unfold wp_X12_inverse
  rw [hx]
  refine ⟨15, ?_⟩
  refine G_X12_inverse_8 (I := fun n g0 g1 g2 => ∃ (e : Nat) (a b : Int), e < 2 ^ n ∧ e ≤ 10005 ∧ nI e = g2 ∧ mdI a = g0 ∧ mdI b = g1 ∧ a * b ^ e = z ^ 10005) (fun k n g0 g1 g2 h ih => ?_) 14 _ _ _ ⟨10005, 1, z, by decide, by decide, rfl, mdI_1, rfl, Int.one_mul _⟩
  obtain ⟨e, a, b, h1, h2, h3, h4, h5, h6⟩ := h
  subst h3 h4 h5
  unfold lp_X12_inverse_8
  by_cases e0 : e = 0
  · subst e0
    refine br_t (by decide) ?_
    rw [Int.pow_zero, Int.mul_one] at h6
    rw [h6]
    exact hK
  · have hn : n ≠ 0 := fun q => by rw [q, Nat.pow_zero] at h1; omega
    obtain ⟨m, rfl⟩ : ∃ m, n = m + 1 := ⟨n - 1, by omega⟩
    rw [Nat.pow_succ] at h1
    refine br_f (nI_nle (by omega) (by omega)) ?_
    rw [rem2 e (by omega)]
    unfold jn_X12_inverse_30
    rw [md_mul, md_mul, div2 e (by omega)]
    by_cases e1 : e % 2 = 1
    · refine rb_t (by rw [e1]; rfl) (fun y1 q1 y2 q2 => ?_)
      subst q1 q2
      exact ih m _ _ _ rfl ⟨e / 2, a * b, b * b, by omega, by omega, rfl, rfl, rfl, by rw [pow_odd a b e e1]; exact h6⟩
    · have e2 : e % 2 = 0 := by omega
      refine rb_f (by rw [e2]; decide) (fun y1 q1 y2 q2 => ?_)
      subst q1 q2
      exact ih m _ _ _ rfl ⟨e / 2, a, b * b, by omega, by omega, rfl, rfl, rfl, by rw [pow_even a b e e2]; exact h6⟩
/-- b at a number -/
def evz (z : Nat → Int) (s : Int) (n : Nat) : Nat → Int := fun m => sm (fun v => z (n + v) * s ^ v) m
theorem evz_s (z : Nat → Int) (s : Int) (n m : Nat) : evz z s n (m + 1) = evz z s (n + 1) m * s + z n := by
  unfold evz
  rw [sm_first, Int.pow_zero, Int.mul_one, Nat.add_zero, ← sm_mulr, Int.add_comm]
  congr 1
  refine sm_ext (fun i _ => ?_)
  rw [Int.pow_succ, Int.mul_assoc, show n + 1 + i = n + (i + 1) by omega]
theorem wp_at {x : Int32} {s : Int} {A : Nat → Int32} {z : Nat → Int} {K : Int32 → Prop} (hx : x.toInt = s) (hs : -100000 ≤ s ∧ s ≤ 100000) (h : fA 9 A z) (hK : K (fdI (evz z s 0 9))) : wp_X0_at x A K := by
  unfold wp_X0_at
  refine V_X0_at_6 (fun n g => n ≤ 9 ∧ (fdI (evz z s n (9 - n))).toInt64 = g) (fun k g e => ?_) (fun k i g e ih => ?_) (n := 8) ⟨by decide, rfl⟩
  · obtain ⟨_, e⟩ := e
    subst e
    unfold lp_X0_at_6
    refine br_t (by decide) ?_
    rw [show ((fdI (evz z s 0 (9 - 0))).toInt64).toInt32 = fdI (evz z s 0 9) from ieq (l2i_t (i2l_t (rfl)) (ib _))]
    exact hK
  · obtain ⟨hi, e⟩ := e
    subst e
    unfold lp_X0_at_6
    refine br_f (nlt0 (by omega)) ⟨vpn (by omega) (by decide), ?_⟩
    rw [cln (by omega), h.g i (by omega)]
    have hb := mb (X := 5003) (Y := 100000) (fdI_b (evz z s (i + 1) (9 - (i + 1)))) hs
    have hc := fdI_b (z i)
    refine fd_long (la (lm (i2l_t (fdI_t _)) (i2l_t hx) (by omega)) (i2l_t (fdI_t _)) (by omega)) (z := evz z s i (9 - i)) ?_ (fun y q => ih y ⟨by omega, q.symm⟩)
    rw [show 9 - i = 9 - (i + 1) + 1 by omega, evz_s]
    exact cg.add (cg.mul (cg_bm _) cg.rf) (cg_bm _)
/-- times F; powers of F -/
def mlz (f z : Nat → Int) : Nat → Int := fun u => sm (fun i => if i ≤ u then f i * z (u - i) else 0) 5
def pwz (f : Nat → Int) : Nat → Nat → Int
  | 0 => fun u => if u = 0 then 1 else 0
  | n + 1 => mlz f (pwz f n)
theorem sm_bd {f : Nat → Int} {B : Int} : ∀ {n : Nat}, (∀ i, i < n → -B ≤ f i ∧ f i ≤ B) → -((n : Int) * B) ≤ sm f n ∧ sm f n ≤ (n : Int) * B
  | 0, _ => by rw [sm_0]; simp
  | n + 1, h => by
    have h1 := sm_bd (n := n) (fun i hi => h i (by omega))
    have h2 := h n (Nat.lt_succ_self n)
    have e : ((n + 1 : Nat) : Int) * B = (n : Int) * B + B := by rw [Int.natCast_add, Int.add_mul]; simp
    rw [sm_s, e]
    omega
theorem wp_multiply {A F : Nat → Int32} {z f : Nat → Int} {K : (Nat → Int32) → Prop} (h : fA 25 A z) (hf : fA 5 F f) (hK : ∀ A', fA 25 A' (mlz f z) → K A') : wp_X3_multiply A F K := by
  unfold wp_X3_multiply
  intro y q
  have e24 : y = nI 24 := by rw [q]; rfl
  rw [e24]
  refine V_X3_multiply_5 (fun n g => n ≤ 25 ∧ fA 25 g (fun u => if u < n then z u else mlz f z u)) (fun k g e => ?_) (fun k i g e ih => ?_) (n := 24) ⟨by decide, h.ex (fun i hi => by rw [if_pos hi])⟩
  · unfold lp_X3_multiply_5
    exact br_t (by decide) (hK _ (e.2.ex (fun i hi => if_neg (by omega))))
  · obtain ⟨hi, e⟩ := e
    unfold lp_X3_multiply_5
    refine br_f (nlt0 (by omega)) ?_
    have hN : ∃ N : Nat, N ≤ 5 ∧ N ≤ i + 1 ∧ (N = 5 ∨ N = i + 1) := by
      by_cases e5 : i < 4
      · exact ⟨i + 1, by omega, by omega, Or.inr rfl⟩
      · exact ⟨5, by omega, by omega, Or.inl rfl⟩
    obtain ⟨N, hN1, hN2, hN3⟩ := hN
    have tb : ∀ j, j < 5 → -25030009 ≤ (f j).bmod 10007 * (z (i - j)).bmod 10007 ∧ (f j).bmod 10007 * (z (i - j)).bmod 10007 ≤ 25030009 := fun j _ => bb _ _
    have fin : ∀ x3 : Int64, x3.toInt = sm (fun j => (f j).bmod 10007 * (z (i - j)).bmod 10007) N → jn_X3_multiply_48 F (fun x2 A0 => lp_X3_multiply_5 F K k x2 A0) K (nI i) x3 g := by
      intro x3 hx3
      unfold jn_X3_multiply_48
      refine fd_long hx3 (z := mlz f z i) ?_ ⟨vpn (by omega) (by decide), ?_⟩
      · unfold mlz
        rw [sm_cut (m := N) hN1 (fun j h1 h2 => if_neg (by omega))]
        refine sm_cg (fun j hj => ?_)
        rw [if_pos (by omega)]
        exact cg.mul (cg_bm _) (cg_bm _)
      · rw [cln (by omega)]
        refine ih _ ⟨by omega, (e.up i _).ex (fun u hu => ?_)⟩
        by_cases e3 : u = i
        · rw [zu_p e3, if_neg (by omega), e3]
        · rw [zu_n e3]
          by_cases e4 : u < i
          · rw [if_pos e4, if_pos (by omega)]
          · rw [if_neg e4, if_neg (by omega)]
    refine V_X3_multiply_14 N (fun j g2 g3 g4 => nI i = g2 ∧ g3.toInt = sm (fun j => (f j).bmod 10007 * (z (i - j)).bmod 10007) j ∧ g = g4) (fun k2 g2 g3 g4 e2 => ?_) (fun k2 j g2 g3 g4 hj e2 ih2 => ?_) (i := 0) (Nat.zero_le _) ⟨rfl, rfl, rfl⟩
    · obtain ⟨e3, e4, e5⟩ := e2
      subst e3 e5
      unfold lp_X3_multiply_14
      rcases hN3 with e6 | e6
      · rw [e6] at e4 fin ⊢
        exact br_t (by decide) (fin g3 e4)
      · by_cases e7 : N = 5
        · rw [e7] at e4 fin ⊢
          exact br_t (by decide) (fin g3 e4)
        · refine br_f (nI_nlt (a := 4) (by omega) (by decide)) (br_t (nI_lt (by omega) (by omega)) (fin g3 e4))
    · obtain ⟨e3, e4, e5⟩ := e2
      subst e3 e5
      unfold lp_X3_multiply_14
      refine br_f (nI_nlt (a := 4) (by omega) (by decide)) (br_f (nI_nlt (by omega) (by omega)) ⟨vpn (by omega) (by decide), ?_⟩)
      rw [pk_sub (by omega)]
      refine ⟨vpn (by omega) (by decide), fun y3 q3 => ih2 _ _ _ ⟨rfl, ?_, rfl⟩⟩
      rw [q3, cln (by omega), cln (by omega), hf.g j (by omega), e.g (i - j) (by omega), if_pos (by omega), sm_s]
      have b1 := sm_bd (n := j) (f := fun j => (f j).bmod 10007 * (z (i - j)).bmod 10007) (B := 25030009) (fun t ht => tb t (by omega))
      have b2 := tb j (by omega)
      have b3 : (j : Int) ≤ 5 := by omega
      rw [la e4 (lm (i2l_t (fdI_t _)) (i2l_t (fdI_t _)) (by omega)) (by omega)]
theorem wp_raise {n : Nat} {A F : Nat → Int32} {f : Nat → Int} {K : (Nat → Int32) → Prop} (hn : n < 1000) (hf : fA 5 F f) (hK : ∀ A', fA 25 A' (pwz f n) → K A') : wp_X3_raise (nI n) A F K := by
  unfold wp_X3_raise
  refine wp_fill_spec (by decide) ?_
  refine V_X3_raise_11 n (fun i g => fA 25 g (pwz f i)) (fun k g e => ?_) (fun k i g hi e ih => ?_) (i := 0) (Nat.zero_le _) (fun i hi => ?_)
  · unfold lp_X3_raise_11
    exact br_t (nle (Nat.le_refl n) (by omega)) (hK _ e)
  · unfold lp_X3_raise_11
    exact br_f (ngt hi (by omega)) (wp_multiply e hf (fun A' hA => ih _ hA))
  · rw [cl0]
    unfold pwz
    by_cases e : i = 0
    · rw [e, pk_us]
      rfl
    · rw [pk_un e]
      show (if i < 25 then (0 : Int32) else A i) = fdI (if i = 0 then 1 else 0)
      rw [if_pos hi, if_neg e, fdI_z]
/-- two indexes in one row -/
theorem ix_inj {C e u e0 u0 : Nat} (hu : u < C) (hu0 : u0 < C) (h : C * e + u = C * e0 + u0) : e = e0 ∧ u = u0 := by
  have h1 : (C * e + u) / C = e := by
    rw [Nat.mul_add_div (by omega), Nat.div_eq_of_lt hu, Nat.add_zero]
  have h2 : (C * e0 + u0) / C = e0 := by
    rw [Nat.mul_add_div (by omega), Nat.div_eq_of_lt hu0, Nat.add_zero]
  have h3 : e = e0 := by rw [← h1, h, h2]
  subst h3
  exact ⟨rfl, by omega⟩
def fG (C R : Nat) (g : Nat → Int32) (z : Nat → Nat → Int) : Prop := ∀ e u, e < R → u < C → g (C * e + u) = fdI (z e u)
def mG (C R : Nat) (g : Nat → Int32) (z : Nat → Nat → Int) : Prop := ∀ e u, e < R → u < C → g (C * e + u) = mdI (z e u)
def zu2 (z : Nat → Nat → Int) (e0 u0 : Nat) (w : Int) : Nat → Nat → Int := fun e u => if e = e0 ∧ u = u0 then w else z e u
theorem zu2_p {z : Nat → Nat → Int} {e0 u0 e u : Nat} {w : Int} (h : e = e0 ∧ u = u0) : zu2 z e0 u0 w e u = w := if_pos h
theorem zu2_n {z : Nat → Nat → Int} {e0 u0 e u : Nat} {w : Int} (h : ¬ (e = e0 ∧ u = u0)) : zu2 z e0 u0 w e u = z e u := if_neg h
theorem mG.g {C R : Nat} {g : Nat → Int32} {z : Nat → Nat → Int} (h : mG C R g z) (e u : Nat) (he : e < R) (hu : u < C) : g (C * e + u) = mdI (z e u) := h e u he hu
theorem fG.g {C R : Nat} {g : Nat → Int32} {z : Nat → Nat → Int} (h : fG C R g z) (e u : Nat) (he : e < R) (hu : u < C) : g (C * e + u) = fdI (z e u) := h e u he hu
theorem fG.up {C R : Nat} {g : Nat → Int32} {z : Nat → Nat → Int} (h : fG C R g z) {e0 u0 : Nat} (hu : u0 < C) (w : Int) : fG C R (upd g (C * e0 + u0) (fdI w)) (zu2 z e0 u0 w) := by
  intro e u he hu2
  unfold zu2
  by_cases q : e = e0 ∧ u = u0
  · rw [if_pos q, q.1, q.2, pk_us]
  · rw [if_neg q, pk_un (fun q2 => q (ix_inj hu2 hu q2))]
    exact h e u he hu2
theorem mG.up {C R : Nat} {g : Nat → Int32} {z : Nat → Nat → Int} (h : mG C R g z) {e0 u0 : Nat} (hu : u0 < C) (w : Int) : mG C R (upd g (C * e0 + u0) (mdI w)) (zu2 z e0 u0 w) := by
  intro e u he hu2
  unfold zu2
  by_cases q : e = e0 ∧ u = u0
  · rw [if_pos q, q.1, q.2, pk_us]
  · rw [if_neg q, pk_un (fun q2 => q (ix_inj hu2 hu q2))]
    exact h e u he hu2
theorem mG.ex {C R : Nat} {g : Nat → Int32} {z w : Nat → Nat → Int} (h : mG C R g z) (q : ∀ e u, e < R → u < C → z e u = w e u) : mG C R g w := fun e u he hu => by rw [h e u he hu, q e u he hu]
theorem fG.ex {C R : Nat} {g : Nat → Int32} {z w : Nat → Nat → Int} (h : fG C R g z) (q : ∀ e u, e < R → u < C → z e u = w e u) : fG C R g w := fun e u he hu => by rw [h e u he hu, q e u he hu]
theorem mG.cg {C R : Nat} {g : Nat → Int32} {z w : Nat → Nat → Int} (h : mG C R g z) (q : ∀ e u, e < R → u < C → cg (z e u) (w e u)) : mG C R g w := fun e u he hu => by rw [h e u he hu, mdI_eq (q e u he hu)]
theorem fG.cg {C R : Nat} {g : Nat → Int32} {z w : Nat → Nat → Int} (h : fG C R g z) (q : ∀ e u, e < R → u < C → cg (z e u) (w e u)) : fG C R g w := fun e u he hu => by rw [h e u he hu, fdI_eq (q e u he hu)]
/-- the model lays products out one by one -/
def scz (f P : Nat → Int) (U : Nat) : Nat → Int := fun t => sm (fun u => sm (fun i => if t = u + i then P u * f i else 0) 5) U
theorem scz_ml (f P : Nat → Int) {t U : Nat} (ht : t < U) : scz f P U t = mlz f P t := by
  unfold scz mlz
  rw [sm_swap]
  refine sm_ext (fun i hi => ?_)
  by_cases e : i ≤ t
  · rw [if_pos e, sm_one (j := t - i) (by omega) (fun u _ hu => if_neg (by omega)), if_pos (by omega), Int.mul_comm]
  · rw [if_neg e]
    exact sm_z (fun u _ => if_neg (by omega))
theorem at25 (e u : Nat) : (25 : Int32) * nI e + nI u = nI (25 * e + u) := by
  rw [show (25 : Int32) = nI 25 from rfl, pk_mul, nI_add]
theorem wp_tellsPowers {F g0 : Nat → Int32} {f : Nat → Int} {K : (Nat → Int32) → Prop} (hf : mA 5 F f) (hK : ∀ g, mG 25 5 g (pwz f) → K g) : wp_X12_tellsPowers F g0 K := by
  unfold wp_X12_tellsPowers
  refine V_X12_tellsPowers_2 125 (fun i g => mA i g (fun n => if n = 0 then 1 else 0)) (fun k g e => ?_) (fun k i g hi e ih => ?_) (i := 0) (Nat.zero_le _) (fun i hi => absurd hi (Nat.not_lt_zero i))
  · unfold lp_X12_tellsPowers_2
    refine br_t (nle (Nat.le_refl 125) (by decide)) ?_
    unfold jn_X12_tellsPowers_29
    refine V_X12_tellsPowers_31 5 (fun i g => 1 ≤ i ∧ mG 25 5 g (fun e u => if e < i then pwz f e u else 0)) (fun k2 g2 e2 => ?_) (fun k2 i g2 hi e2 ih => ?_) (i := 1) (by decide) ⟨Nat.le_refl 1, fun e2 u he hu => ?_⟩
    · unfold lp_X12_tellsPowers_31
      exact br_t (nle (Nat.le_refl 5) (by decide)) (hK _ (e2.2.ex (fun e u he hu => if_pos he)))
    · obtain ⟨h1, e2⟩ := e2
      unfold lp_X12_tellsPowers_31
      refine br_f (ngt (b := 5) hi (by decide)) ?_
      refine V_X12_tellsPowers_38 25 (fun u g3 g4 => nI i = g3 ∧ mG 25 5 g4 (fun e t => if e < i then pwz f e t else if e = i then scz f (pwz f (i - 1)) u t else 0)) (fun k3 g3 g4 e3 => ?_) (fun k3 u g3 g4 hu e3 ih3 => ?_) (i := 0) (Nat.zero_le _) ⟨rfl, e2.ex (fun e t he ht => ?_)⟩
      · obtain ⟨q1, e3⟩ := e3
        subst q1
        unfold lp_X12_tellsPowers_38
        refine br_t (nle (Nat.le_refl 25) (by decide)) ?_
        unfold jn_X12_tellsPowers_120
        refine ih _ ⟨by omega, e3.ex (fun e t he ht => ?_)⟩
        by_cases q : e < i
        · rw [if_pos q, if_pos (by omega)]
        · rw [if_neg q]
          by_cases q2 : e = i
          · rw [if_pos q2, if_pos (by omega), scz_ml _ _ ht, q2]
            obtain ⟨i', rfl⟩ : ∃ i', i = i' + 1 := ⟨i - 1, by omega⟩
            rfl
          · rw [if_neg q2, if_neg (by omega)]
      · obtain ⟨q1, e3⟩ := e3
        subst q1
        unfold lp_X12_tellsPowers_38
        refine br_f (ngt (b := 25) hu (by decide)) ?_
        have hN : ∃ N : Nat, N ≤ 5 ∧ u + N ≤ 25 ∧ (N = 5 ∨ u + N = 25) := by
          by_cases q : u < 20
          · exact ⟨5, by omega, by omega, Or.inl rfl⟩
          · exact ⟨25 - u, by omega, by omega, Or.inr (by omega)⟩
        obtain ⟨N, hN1, hN2, hN3⟩ := hN
        have fin : ∀ g5 : Nat → Int32, mG 25 5 g5 (fun e t => if e < i then pwz f e t else if e = i then scz f (pwz f (i - 1)) u t + sm (fun j => if t = u + j then pwz f (i - 1) u * f j else 0) N else 0) → jn_X12_tellsPowers_114 F (fun x1 x2 A => lp_X12_tellsPowers_38 F (jn_X12_tellsPowers_120 F (fun x1 A => lp_X12_tellsPowers_31 F K k2 x1 A) K) K k3 x1 x2 A) (jn_X12_tellsPowers_120 F (fun x1 A => lp_X12_tellsPowers_31 F K k2 x1 A) K) K (nI i) (nI u) g5 := by
          intro g5 h5
          unfold jn_X12_tellsPowers_114
          refine ih3 _ _ ⟨rfl, h5.ex (fun e t he ht => ?_)⟩
          by_cases q : e < i
          · rw [if_pos q, if_pos q]
          · rw [if_neg q, if_neg q]
            by_cases q2 : e = i
            · rw [if_pos q2, if_pos q2]
              unfold scz
              rw [sm_s, sm_cut (m := N) (n := 5) hN1 (fun j a b => if_neg (by omega))]
            · rw [if_neg q2, if_neg q2]
        refine V_X12_tellsPowers_46 N (fun j a b g6 => nI i = a ∧ nI u = b ∧ mG 25 5 g6 (fun e t => if e < i then pwz f e t else if e = i then scz f (pwz f (i - 1)) u t + sm (fun j => if t = u + j then pwz f (i - 1) u * f j else 0) j else 0)) (fun k4 a b g6 e6 => ?_) (fun k4 j a b g6 hj e6 ih6 => ?_) (i := 0) (Nat.zero_le _) ⟨rfl, rfl, e3.ex (fun e t he ht => ?_)⟩
        · obtain ⟨q1, q2, e6⟩ := e6
          subst q1 q2
          unfold lp_X12_tellsPowers_46
          by_cases q : N = 5
          · refine br_t (by rw [q]; decide) (fin g6 e6)
          · refine br_f (ngt (b := 5) (by omega) (by decide)) ?_
            rw [nI_add]
            exact br_t (nle (a := 25) (by omega) (by omega)) (fin g6 e6)
        · obtain ⟨q1, q2, e6⟩ := e6
          subst q1 q2
          unfold lp_X12_tellsPowers_46
          refine br_f (ngt (b := 5) (by omega) (by decide)) ?_
          rw [at25, nI_add, nI_add, show nI i - (1 : Int32) = nI (i - 1) from pk_sub (b := 1) h1, at25]
          refine br_f (ngt (b := 25) (by omega) (by decide)) (fun y1 r1 => ?_)
          subst r1
          rw [cln (by omega), cln (by omega), cln (by omega)]
          refine ⟨vpn (by omega) (by decide), vpn (by omega) (by decide), vpn (by omega) (by decide), fun y5 r5 => ?_⟩
          rw [show 25 * i + u + j = 25 * i + (u + j) by omega, e6.g i (u + j) (by omega) (by omega), e6.g (i - 1) u (by omega) (by omega), hf.g j (by omega), if_neg (by omega), if_pos rfl, if_pos (by omega), md_addmul] at r5
          subst r5
          rw [show 25 * i + u + j = 25 * i + (u + j) by omega]
          refine ih6 _ _ _ ⟨rfl, rfl, (e6.up (u0 := u + j) (by omega) _).ex (fun e t he ht => ?_)⟩
          by_cases q : e = i ∧ t = u + j
          · rw [zu2_p q, q.1, q.2, if_neg (by omega), if_pos rfl, sm_s, if_pos rfl, Int.add_assoc]
          · rw [zu2_n q]
            by_cases q3 : e < i
            · rw [if_pos q3, if_pos q3]
            · rw [if_neg q3, if_neg q3]
              by_cases q4 : e = i
              · rw [if_pos q4, if_pos q4, sm_s, if_neg (by omega), Int.add_zero]
              · rw [if_neg q4, if_neg q4]
        · by_cases q3 : e < i
          · rw [if_pos q3, if_pos q3]
          · rw [if_neg q3, if_neg q3]
            by_cases q4 : e = i
            · rw [if_pos q4, if_pos q4, sm_0, Int.add_zero]
            · rw [if_neg q4, if_neg q4]
      · by_cases q3 : e < i
        · rw [if_pos q3, if_pos q3]
        · rw [if_neg q3, if_neg q3]
          by_cases q4 : e = i
          · rw [if_pos q4]
            rfl
          · rw [if_neg q4]
    · rw [e.g _ (by omega)]
      dsimp only
      by_cases q : e2 < 1
      · have q2 : e2 = 0 := by omega
        subst q2
        rw [if_pos q]
        unfold pwz
        by_cases q3 : u = 0
        · rw [if_pos q3, if_pos (by omega)]
        · rw [if_neg q3, if_neg (by omega)]
      · rw [if_neg q, if_neg (by omega)]
  · unfold lp_X12_tellsPowers_2
    refine br_f (ngt (b := 125) hi (by decide)) ?_
    unfold jn_X12_tellsPowers_22
    rw [cln (by omega)]
    refine ⟨fun q => ⟨vpn hi (by decide), ih _ (fun n hn => ?_)⟩, fun q => ⟨vpn hi (by decide), ih _ (fun n hn => ?_)⟩⟩
    · by_cases q2 : n = i
      · have q3 : i ≠ 0 := fun q3 => q (by rw [q3]; rfl)
        rw [q2, pk_us]
        dsimp only
        rw [if_neg q3, mdI_z]
      · rw [pk_un q2]
        exact e n (by omega)
    · have q3 : i = 0 := (nI_eq (a := i) (b := 0) (by omega) (by decide)).mp q
      by_cases q2 : n = i
      · rw [q2, pk_us]
        dsimp only
        rw [if_pos q3, mdI_1]
      · rw [pk_un q2]
        exact e n (by omega)
