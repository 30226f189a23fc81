/-! search: a step is kept; what is kept -/
theorem wp_inverse' {x : Int32} {z : Int} {K : Int32 → Prop} (hx : cg x.toInt z) (hK : K (fdI (z ^ 10005))) : wp_X3_inverse x K := by
  unfold wp_X3_inverse
  refine fd_long (i2l_t rfl) hx ?_
  refine ⟨15, ?_⟩
  refine G_X3_inverse_12 (I := fun n g0 g1 g2 => ∃ (e : Nat) (a b : Int), e < 2 ^ n ∧ e ≤ 10005 ∧ nI e = g2 ∧ fdI a = g0 ∧ fdI b = g1 ∧ a * b ^ e = z ^ 10005) (fun k n g0 g1 g2 h ih => ?_) 14 _ _ _ ⟨10005, 1, z, by decide, by decide, rfl, fdI_1, rfl, Int.one_mul _⟩
  obtain ⟨e, a, b, h1, h2, h3, h4, h5, h6⟩ := h
  subst h3 h4 h5
  unfold lp_X3_inverse_12
  by_cases e0 : e = 0
  · subst e0
    refine br_t (by decide) ?_
    rw [Int.pow_zero, Int.mul_one] at h6
    rw [h6]
    exact hK
  · have hn : n ≠ 0 := fun q => by rw [q, Nat.pow_zero] at h1; omega
    obtain ⟨m, rfl⟩ : ∃ m, n = m + 1 := ⟨n - 1, by omega⟩
    rw [Nat.pow_succ] at h1
    refine br_f (nI_nle (by omega) (by omega)) ?_
    rw [and1 e (by omega)]
    by_cases e1 : e % 2 = 1
    · refine rb_t (by rw [e1]; rfl) (wp_foldmul ?_)
      unfold jn_X3_inverse_32
      refine wp_foldmul (fun y q => ?_)
      rw [shr1 e (by omega)] at q
      subst q
      exact ih m _ _ _ rfl ⟨e / 2, a * b, b * b, by omega, by omega, rfl, rfl, rfl, by rw [pow_odd a b e e1]; exact h6⟩
    · have e2 : e % 2 = 0 := by omega
      refine rb_f (by rw [e2]; decide) ?_
      unfold jn_X3_inverse_32
      refine wp_foldmul (fun y q => ?_)
      rw [shr1 e (by omega)] at q
      subst q
      exact ih m _ _ _ rfl ⟨e / 2, a, b * b, by omega, by omega, rfl, rfl, rfl, by rw [pow_even a b e e2]; exact h6⟩
/-- a column that isn't explained becomes a step -/
theorem wp_keep {n from_ : Nat} {St Ld En So Sc Ss A Sh : Nat → Int32} {S : Nat → Nat → Int} {l : Nat → Nat} {z s : Nat → Int} {K : Int32 → (Nat → Int32) → (Nat → Int32) → (Nat → Int32) → (Nat → Int32) → (Nat → Int32) → (Nat → Int32) → Prop} (hn : n < 84) (h : StR n St Ld En S l) (hA : raA 225 A z) (hs : raA n Sh s) (hz : ¬ ∀ i, i < 225 → cg (z i) 0)
    (hK : ∀ (m : Nat) St' Ld' En' Ss', m < 225 → ¬ cg (z m) 0 → (∀ i, i < m → cg (z i) 0) → StR (n + 1) St' Ld' En' (va_up S n (fun r => z r * z m ^ 10005)) (va_up l n m) → (∀ j e, e < j → j < n → Ss' (84 * j + e) = Ss (84 * j + e)) → (∀ e, e < n → cg (Ss' (84 * n + e)).toInt (s e) ∧ -10006 ≤ (Ss' (84 * n + e)).toInt ∧ (Ss' (84 * n + e)).toInt ≤ 10006) → K (nI (n + 1)) St' Ld' En' (upd So n (nI from_)) (upd Sc n (fdI (z m ^ 10005))) Ss') : wp_X8_keep (nI from_) (nI n) St Ld En So Sc Ss A Sh K := by
  unfold wp_X8_keep
  refine wp_firstOther (fun q => hz (fun i hi => (hA.zero hi).mp (q i hi))) (fun m hm h1 h2 => ?_)
  refine br_f (ngt (b := 84) hn (by decide)) (br_t (nI_pos' (by omega)) ⟨vpn hn (by decide), wp_highest (by decide) ?_⟩)
  have hzm : ¬ cg (z m) 0 := fun q => h1 ((hA.zero hm).mpr q)
  have hz0 : ∀ i, i < m → cg (z i) 0 := fun i hi => (hA.zero (by omega)).mp (h2 i hi)
  rcases hi_cases A 225 (by decide) with ⟨_, g2⟩ | ⟨e, g1, g2, g3, g4⟩
  · exact absurd (g2 m hm) h1
  have hme : m ≤ e := by
    by_cases c : m ≤ e
    · exact c
    · exact absurd (g4 m (by omega) hm) h1
  rw [g2]
  refine ⟨vpn hm (by decide), ?_⟩
  rw [cln (by omega), cln (by omega)]
  refine wp_inverse' (hA m hm).1 ?_
  obtain ⟨_, hst⟩ := h
  refine V_X8_keep_75 225 (fun t a st ld en so sc ss => nI n = a ∧ upd Ld n (nI m) = ld ∧ upd En n (nI e) = en ∧ upd So n (nI from_) = so ∧ upd Sc n (fdI (z m ^ 10005)) = sc ∧ Ss = ss ∧ (∀ r, r < t → st (225 * n + r) = fdI (z r * z m ^ 10005)) ∧ ∀ i, i < 225 * n → st i = St i) (fun k a st ld en so sc ss q => ?_) (fun k t a st ld en so sc ss ht q ih => ?_) (i := 0) (Nat.zero_le _) ⟨rfl, rfl, rfl, rfl, rfl, rfl, fun r hr => absurd hr (Nat.not_lt_zero r), fun i _ => rfl⟩
  · obtain ⟨r1, r2, r3, r4, r5, r6, q1, q2⟩ := q
    subst r1 r2 r3 r4 r5 r6
    unfold lp_X8_keep_75
    refine br_t (nle (Nat.le_refl 225) (by decide)) ?_
    unfold jn_X8_keep_124
    rw [cl0, show (84 : Int32) = nI 84 from rfl, pk_mul, cln (by omega), cln (by omega)]
    refine ⟨⟨by decide, nlt0 (by omega), nlt0 (by omega), by omega, ?_⟩, fun y2 q3 => ?_⟩
    · have : n * 84 + n ≤ 83 * 84 + 83 := by omega
      omega
    rw [nI_1] at q3
    subst q3
    refine hK m _ _ _ _ hm hzm hz0 ⟨by omega, fun j hj => ?_⟩ (fun j e' he hj => ?_) (fun e' he => ?_)
    · by_cases c : j = n
      · subst c
        rw [va_up_self, va_up_self, pk_us, pk_us]
        refine ⟨q1, rfl, hm, e, rfl, g1, hme, fun r hr hre => ?_⟩
        refine cg0_mul ?_
        rcases hre with c2 | c2
        · exact hz0 r c2
        · exact (hA.zero hr).mp (g4 r c2 hr)
      · obtain ⟨a1, a2, a3, ee, a4, a5, a6, a7⟩ := hst j (by omega)
        rw [va_up_ne _ _ c, va_up_ne _ _ c, pk_un c, pk_un c]
        refine ⟨fun r hr => ?_, a2, a3, ee, a4, a5, a6, a7⟩
        rw [q2 _ (by omega)]
        exact a1 r hr
    · exact pk_cpy_out (by omega)
    · rw [pk_cpy_in (by omega) (by omega), show 0 + (84 * n + e' - n * 84) = e' by omega]
      exact hs e' he
  · obtain ⟨r1, r2, r3, r4, r5, r6, q1, q2⟩ := q
    subst r1 r2 r3 r4 r5 r6
    unfold lp_X8_keep_75
    refine br_f (ngt (b := 225) ht (by decide)) ⟨vpn hn (by decide), vpn ht (by decide), ?_⟩
    rw [cln (by omega), cln (by omega), pk_us]
    have hb := mb (X := 5003) (Y := 10006) (fdI_b (z m ^ 10005)) (hA t ht).2
    refine fd_long (lm (i2l_t (fdI_t _)) (i2l_t rfl) (by omega)) (z := z t * z m ^ 10005) ?_ ?_
    · rw [Int.mul_comm (z t)]
      exact cg.mul (cg_bm _) (hA t ht).1
    rw [show (225 : Int32) = nI 225 from rfl, pk_mul, nI_add, show n * 225 + t = 225 * n + t by omega]
    refine ⟨vpn (by omega) (by decide), ?_⟩
    rw [cln (by omega)]
    refine ih _ _ _ _ _ _ _ ⟨rfl, rfl, rfl, rfl, rfl, rfl, fun r hr => ?_, fun i hi => ?_⟩
    · by_cases c : r = t
      · rw [c, pk_us]
      · rw [pk_un (by omega)]
        exact q1 r (by omega)
    · rw [pk_un (by omega)]
      exact q2 i hi
/-! the mathematics of steps -/
/-- the steps' leads: 1 at its own, 0 at those of earlier ones -/
def Tri (n : Nat) (S : Nat → Nat → Int) (l : Nat → Nat) : Prop := ∀ j, j < n → l j < 225 ∧ cg (S j (l j)) 1 ∧ ∀ e, e < j → cg (S j (l e)) 0
theorem rsd_lead {n : Nat} {S : Nat → Nat → Int} {l : Nat → Nat} {z : Nat → Int} (h : Tri n S l) : ∀ j, j ≤ n → ∀ e, e < j → cg (rsd S l z j (l e)) 0
  | 0, _, e, he => absurd he (Nat.not_lt_zero e)
  | j + 1, hj, e, he => by
    obtain ⟨_, h2, h3⟩ := h j (by omega)
    show cg (rsd S l z j (l e) - rsd S l z j (l j) * S j (l e)) 0
    by_cases c : e = j
    · subst c
      have := cg.sub (cg.rf (a := rsd S l z e (l e))) (cg.mul (cg.rf (a := rsd S l z e (l e))) h2)
      rw [Int.mul_one, Int.sub_self] at this
      exact this
    · have e1 := rsd_lead (z := z) h j (by omega) e (by omega)
      have e2 := cg0_mul (b := rsd S l z j (l j)) (h3 e (by omega))
      rw [Int.mul_comm] at e2
      have := cg.sub e1 e2
      rw [Int.sub_zero] at this
      exact this
theorem rsd_sum (S : Nat → Nat → Int) (l : Nat → Nat) (z : Nat → Int) (r : Nat) : ∀ n, z r = rsd S l z n r + sm (fun j => rsd S l z j (l j) * S j r) n
  | 0 => (Int.add_zero _).symm
  | n + 1 => by
    rw [sm_s]
    have := rsd_sum S l z r n
    show z r = rsd S l z n r - rsd S l z n (l n) * S n r + _
    omega
/-- steps are free of each other -/
theorem tri_free {n : Nat} {S : Nat → Nat → Int} {l : Nat → Nat} (h : Tri n S l) {b : Nat → Int} (hb : ∀ r, r < 225 → cg (sm (fun j => b j * S j r) n) 0) : ∀ j, j < n → cg (b j) 0 := by
  have main : ∀ m, m ≤ n → ∀ j, j < m → cg (b j) 0 := by
    intro m
    induction m with
    | zero => exact fun _ j hj => absurd hj (Nat.not_lt_zero j)
    | succ m ih =>
      intro hm j hj
      have ih2 := ih (by omega)
      by_cases c : j = m
      · subst c
        obtain ⟨h1, h2, _⟩ := h j (by omega)
        have e1 := hb (l j) h1
        have e2 : cg (sm (fun i => b i * S i (l j)) n) (sm (fun i => if i = j then b j else 0) n) := by
          refine sm_cg (fun i hi => ?_)
          by_cases c2 : i = j
          · rw [if_pos c2, c2]
            have := cg.mul (cg.rf (a := b j)) h2
            rw [Int.mul_one] at this
            exact this
          · rw [if_neg c2]
            by_cases c3 : i < j
            · exact cg0_mul (ih2 i c3)
            · rw [Int.mul_comm]
              exact cg0_mul ((h i hi).2.2 j (by omega))
        rw [sm_if (f := fun _ => b j), if_pos (by omega)] at e2
        exact e2.sy.tr e1
      · exact ih2 j (by omega)
  exact main n (Nat.le_refl n)
/-- each kept column is its shares of earlier steps and a multiple of its own step -/
def Shr (n : Nat) (S C : Nat → Nat → Int) (src : Nat → Nat) (sh : Nat → Nat → Int) (rho : Nat → Int) : Prop := ∀ j, j < n → ¬ cg (rho j) 0 ∧ ∀ r, r < 225 → cg (C (src j) r) (sm (fun e => sh j e * S e r) j + rho j * S j r)
/-- a sum of kept columns, as a sum of steps: from the last one down -/
def cof (sh : Nat → Nat → Int) (rho a : Nat → Int) (n : Nat) : Nat → Int := fun e => sm (fun j => if e < j then a j * sh j e else 0) n + (if e < n then a e * rho e else 0)
theorem shr_sum {n : Nat} {S C : Nat → Nat → Int} {src : Nat → Nat} {sh : Nat → Nat → Int} {rho a : Nat → Int} (h : Shr n S C src sh rho) {r : Nat} (hr : r < 225) : cg (sm (fun j => a j * C (src j) r) n) (sm (fun e => cof sh rho a n e * S e r) n) := by
  have e1 : cg (sm (fun j => a j * C (src j) r) n) (sm (fun j => sm (fun e => if e < j then a j * sh j e * S e r else 0) n + a j * rho j * S j r) n) := by
    refine sm_cg (fun j hj => ?_)
    have h1 := cg.mul (cg.rf (a := a j)) ((h j hj).2 r hr)
    refine h1.tr ?_
    rw [Int.mul_add, ← sm_mul, Int.mul_assoc]
    have h2 : sm (fun e => a j * (sh j e * S e r)) j = sm (fun e => if e < j then a j * sh j e * S e r else 0) n := by
      rw [sm_cut (f := fun e => if e < j then a j * sh j e * S e r else 0) (m := j) (by omega) (fun i h3 _ => if_neg (by omega))]
      exact sm_ext (fun i hi => by rw [if_pos hi, Int.mul_assoc])
    rw [h2]
    exact cg.rf
  refine e1.tr ?_
  rw [sm_add, sm_swap]
  have e2 : sm (fun e => cof sh rho a n e * S e r) n = sm (fun e => sm (fun j => if e < j then a j * sh j e * S e r else 0) n + a e * rho e * S e r) n := by
    refine sm_ext (fun e he => ?_)
    unfold cof
    rw [if_pos he, Int.add_mul, ← sm_mulr]
    congr 1
    refine sm_ext (fun j _ => ?_)
    by_cases c : e < j
    · rw [if_pos c, if_pos c]
    · rw [if_neg c, if_neg c, Int.zero_mul]
  rw [e2, sm_add]
  exact cg.rf
/-- kept columns are free of each other -/
theorem shr_free {n : Nat} {S C : Nat → Nat → Int} {l src : Nat → Nat} {sh : Nat → Nat → Int} {rho a : Nat → Int} (ht : Tri n S l) (h : Shr n S C src sh rho) (ha : ∀ r, r < 225 → cg (sm (fun j => a j * C (src j) r) n) 0) : ∀ j, j < n → cg (a j) 0 := by
  have h1 := tri_free ht (b := cof sh rho a n) (fun r hr => (shr_sum h hr).sy.tr (ha r hr))
  -- from the last one down
  have main : ∀ d, d ≤ n → ∀ j, n - d ≤ j → j < n → cg (a j) 0 := by
    intro d
    induction d with
    | zero => exact fun _ j h2 h3 => absurd h2 (by omega)
    | succ d ih =>
      intro hd j h2 h3
      have ih2 := ih (by omega)
      by_cases c : j = n - (d + 1)
      · have h4 := h1 j h3
        unfold cof at h4
        rw [if_pos h3] at h4
        have h5 : cg (sm (fun i => if j < i then a i * sh i j else 0) n) 0 := by
          have h6 := sm_cg (n := n) (f := fun i => if j < i then a i * sh i j else 0) (g := fun _ => 0) (fun i hi => by
            by_cases c2 : j < i
            · rw [if_pos c2]
              exact cg0_mul (ih2 i (by omega) hi)
            · rw [if_neg c2]
              exact cg.rf)
          rw [sm_z (f := fun _ => 0) (fun _ _ => rfl)] at h6
          exact h6
        have h7 := cg.sub h4 h5
        rw [Int.add_comm, Int.add_sub_cancel, Int.sub_zero] at h7
        rcases cg_mul0 h7 with h8 | h8
        · exact h8
        · exact absurd h8 (h j h3).1
      · exact ih2 j (by omega) h3
  exact fun j hj => main n (Nat.le_refl n) j (by omega) hj
