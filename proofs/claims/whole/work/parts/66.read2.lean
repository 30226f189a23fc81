/-! texts that are read: the model -/
theorem wp_isAt {a b n i : Nat} {T : Nat → Int32} {t : Nat → Nat} {K : Int32 → Prop} (hn : n ≤ 60) (hi : i ≤ n) (ha : a ≤ 126) (hb : b ≤ 126) (hT : ∀ j, j < n → T j = nI (t j) ∧ t j ≤ 126) (h : K (if i < n ∧ a ≤ t i ∧ t i ≤ b then 1 else 0)) : wp_X12_isAt (nI a) (nI b) (nI n) (nI i) T K := by
  unfold wp_X12_isAt
  by_cases c : i < n
  · refine br_f (ngt c (by omega)) ⟨vpn (by omega) (by decide), wp_isIn ?_⟩
    obtain ⟨h1, h2⟩ := hT i c
    rw [cln (by omega), h1]
    by_cases d : a ≤ t i ∧ t i ≤ b
    · have e : btw (nI (t i)) (nI a) (nI b) = 1 := if_pos ⟨nle d.1 (by omega), nle d.2 (by omega)⟩
      rw [if_pos ⟨c, d⟩] at h
      rw [e]
      exact br_f (by decide) h
    · have e : btw (nI (t i)) (nI a) (nI b) = 0 := if_neg (fun q => d ⟨(nI_leI (by omega) (by omega)).mp q.1, (nI_leI (by omega) (by omega)).mp q.2⟩)
      rw [if_neg (fun q => d q.2)] at h
      rw [e]
      exact br_t rfl h
  · rw [if_neg (fun q => c q.1)] at h
    exact br_t (nle (by omega) (by omega)) h
theorem wp_mT180 {n p num j : Nat} {s : Int32} {sz : Int} {T B : Nat → Int32} {z : Nat → Int} {K : Int32 → Int32 → (Nat → Int32) → Prop} (hp : p ≤ 4) (hnum : num ≤ 999) (hs : s.toInt = sz) (hs2 : -1 ≤ sz ∧ sz ≤ 1) (h : mA 5 B z) (hK : ∀ B', mA 5 B' (zu z p (z p + sz * num)) → K 1 (nI j) B') : jn_X12_isTerm_180 s (nI n) T K (nI num) (nI p) (nI j) B := by
  unfold jn_X12_isTerm_180
  refine ⟨vpn (by omega) (by decide), wp_modulo ?_⟩
  have b1 := mdI_b (z p)
  have b2 := mb (X := 1) (Y := 999) hs2 (show -999 ≤ (num : Int) ∧ (num : Int) ≤ 999 by omega)
  rw [cln (by omega), h.g p (by omega), ia (mdI_t _) (im hs (nI_t (n := num) (by omega)) (by omega)) (by omega), mdI_eq (cg.add (cg_em (z p)) (cg.rf (a := sz * num)))]
  exact hK _ (h.up p _)
theorem wp_isTerm {n i : Nat} {s : Int32} {sz : Int} {T B : Nat → Int32} {t : Nat → Nat} {z : Nat → Int} {K : Int32 → Int32 → (Nat → Int32) → Prop} (hn : n ≤ 60) (hi : i ≤ n) (hT : ∀ j, j < n → T j = nI (t j) ∧ t j ≤ 126) (hs : s.toInt = sz) (hs2 : -1 ≤ sz ∧ sz ≤ 1) (h : mA 5 B z)
    (hok : (pD t n 3 i 0 false).1 = true → ∀ B', mA 5 B' (zu z (pD t n 3 i 0 false).2.2.2 (z (pD t n 3 i 0 false).2.2.2 + sz * ((pD t n 3 i 0 false).2.2.1 : Int))) → K 1 (nI (pD t n 3 i 0 false).2.1) B') (hfl : ¬ (pD t n 3 i 0 false).1 = true → K 0 (nI (pD t n 3 i 0 false).2.1) B) : wp_X12_isTerm s (nI n) (nI i) T B K := by
  unfold wp_X12_isTerm
  have hb3 := p3_b (t := t) hi
  -- behind x
  have X98 : ∀ j num, j < n → num ≤ 999 → pD t n 3 i 0 false = pX t n (j + 1) num → jn_X12_isTerm_98 s (nI n) T K (nI num) (nI j) B := by
    intro j num hj hnum e
    rw [e] at hok hfl hb3
    unfold jn_X12_isTerm_98
    intro y1 q1
    rw [nI_1] at q1
    subst q1
    refine wp_isAt (a := 94) (b := 94) (t := t) hn (by omega) (by decide) (by decide) hT ?_
    unfold pX at hok hfl
    by_cases c : j + 1 < n ∧ t (j + 1) = 94
    · rw [if_pos c] at hok hfl
      rw [if_pos ⟨c.1, by omega, by omega⟩]
      refine br_f (by decide) (fun y3 q3 => ?_)
      rw [nI_1] at q3
      subst q3
      refine wp_isAt (a := 48) (b := 52) (t := t) hn (by omega) (by decide) (by decide) hT ?_
      by_cases c2 : j + 1 + 1 < n ∧ 48 ≤ t (j + 1 + 1) ∧ t (j + 1 + 1) ≤ 52
      · rw [if_pos c2] at hok ⊢
        refine rb_f (by decide) ⟨vpn (by omega) (by decide), fun y6 q6 y7 q7 => ?_⟩
        rw [cln (by omega), (hT _ c2.1).1, show nI (t (j + 1 + 1)) - (48 : Int32) = nI (t (j + 1 + 1) - 48) from pk_sub (b := 48) c2.2.1] at q6
        rw [nI_1] at q7
        subst q6 q7
        exact wp_mT180 (by omega) hnum hs hs2 h (hok rfl)
      · rw [if_neg c2] at hfl ⊢
        exact rb_t rfl (hfl Bool.false_ne_true)
    · rw [if_neg c] at hok
      rw [if_neg (fun q => c ⟨q.1, by omega⟩)]
      exact br_t rfl (wp_mT180 (p := 1) (by decide) hnum hs hs2 h (hok rfl))
  -- behind the figures
  have N59 : ∀ j num has, i ≤ j → j ≤ n → num ≤ 999 → (has = true ↔ i < j) → pD t n 3 i 0 false = pN t n j num has → jn_X12_isTerm_59 s (nI n) T K (nI num) (nI i) (nI j) B := by
    intro j num has hij hj hnum hh e
    have e0 := e
    unfold pN at e
    have go : jn_X12_isTerm_72 s (nI n) T K (nI num) (if has = true then 1 else 0) (nI j) B := by
      unfold jn_X12_isTerm_72
      refine wp_isAt (a := 120) (b := 120) (t := t) hn hj (by decide) (by decide) hT ?_
      by_cases c : j < n ∧ t j = 120
      · rw [if_pos c] at e
        rw [if_pos ⟨c.1, by omega, by omega⟩]
        refine br_f (by decide) ?_
        by_cases d : has = true
        · rw [if_pos d] at e ⊢
          exact br_f (by decide) (X98 j num c.1 hnum e)
        · rw [if_neg d] at e ⊢
          exact br_t rfl (X98 j 1 c.1 (by decide) e)
      · rw [if_neg c] at e
        rw [if_neg (fun q => c ⟨q.1, by omega⟩)]
        refine br_t rfl ?_
        by_cases d : has = true
        · rw [if_pos d] at e ⊢
          rw [e] at hok
          exact rb_f (by decide) (wp_mT180 (p := 0) (by decide) hnum hs hs2 h (hok rfl))
        · rw [if_neg d] at e ⊢
          rw [e] at hfl
          exact rb_t rfl (hfl Bool.false_ne_true)
    unfold jn_X12_isTerm_59
    by_cases d : i < j
    · rw [if_pos (hh.mpr d)] at go
      exact br_f (ngt d (by omega)) go
    · rw [if_neg (fun q => d (hh.mp q))] at go
      exact br_t (nle (by omega) (by omega)) go
  refine ⟨4, ?_⟩
  refine G_X12_isTerm_7 (I := fun k a b c g => k ≤ 3 ∧ ∃ num : Nat, (num + 1) * 10 ^ k ≤ 1000 ∧ nI num = a ∧ nI i = b ∧ nI (i + (3 - k)) = c ∧ B = g ∧ i + (3 - k) ≤ n ∧ pD t n 3 i 0 false = pD t n k (i + (3 - k)) num (decide (0 < 3 - k))) (fun q k a b c g e ih => ?_) 3 _ _ _ _ ⟨Nat.le_refl 3, 0, by decide, rfl, rfl, rfl, rfl, hi, rfl⟩
  obtain ⟨hk, num, hnum, r1, r2, r3, r4, hj, e⟩ := e
  subst r1 r2 r3 r4
  have p1 : 1 ≤ 10 ^ k := by
    have := Nat.pow_pos (n := k) (show 0 < 10 by decide)
    omega
  have hn9 : num + 1 ≤ (num + 1) * 10 ^ k := Nat.le_mul_of_pos_right _ p1
  have hhas : (decide (0 < 3 - k) = true) ↔ i < i + (3 - k) := by
    rw [decide_eq_true_iff]
    omega
  unfold lp_X12_isTerm_7
  refine wp_isAt (a := 48) (b := 57) (t := t) hn hj (by decide) (by decide) hT ?_
  cases k with
  | zero =>
    have out := N59 _ num _ (by omega) hj (by omega) hhas e
    by_cases c : i + (3 - 0) < n ∧ 48 ≤ t (i + (3 - 0)) ∧ t (i + (3 - 0)) ≤ 57
    · rw [if_pos c]
      refine br_f (by decide) ?_
      rw [pk_sub (by omega), show i + (3 - 0) - i = 3 by omega]
      exact br_t (by decide) out
    · rw [if_neg c]
      exact br_t rfl out
  | succ m =>
    unfold pD at e
    by_cases c : i + (3 - (m + 1)) < n ∧ 48 ≤ t (i + (3 - (m + 1))) ∧ t (i + (3 - (m + 1))) ≤ 57
    · rw [if_pos c]
      refine br_f (by decide) ?_
      have eR : pD t n 3 i 0 false = pD t n m (i + (3 - (m + 1)) + 1) (10 * num + (t (i + (3 - (m + 1))) - 48)) true := by
        rw [show pD t n 3 i 0 false = _ from e, if_pos c]
      rw [pk_sub (by omega)]
      refine br_f (ngt (b := 3) (by omega) (by decide)) ⟨vpn (by omega) (by decide), fun y3 q3 y4 q4 => ?_⟩
      rw [cln (by omega), (hT _ c.1).1, show (10 : Int32) = nI 10 from rfl, pk_mul, nI_add, show nI (10 * num + t (i + (3 - (m + 1)))) - (48 : Int32) = nI (10 * num + t (i + (3 - (m + 1))) - 48) from pk_sub (b := 48) (by omega)] at q3
      rw [nI_1] at q4
      subst q3 q4
      refine ih m _ _ _ _ rfl ⟨by omega, 10 * num + (t (i + (3 - (m + 1))) - 48), ?_, by congr 1; omega, rfl, by congr 1; omega, rfl, by omega, ?_⟩
      · rw [Nat.pow_succ] at hnum
        have e1 : (num + 1) * (10 ^ m * 10) = ((num + 1) * 10) * 10 ^ m := by rw [Nat.mul_comm (10 ^ m) 10, Nat.mul_assoc]
        rw [e1] at hnum
        exact Nat.le_trans (Nat.mul_le_mul_right _ (by omega)) hnum
      · rw [eR, show i + (3 - m) = i + (3 - (m + 1)) + 1 by omega, show decide (0 < 3 - m) = true from decide_eq_true (by omega)]
    · rw [if_neg c]
      have eR : pD t n 3 i 0 false = pN t n (i + (3 - (m + 1))) num (decide (0 < 3 - (m + 1))) := by
        rw [show pD t n 3 i 0 false = _ from e, if_neg c]
      exact br_t rfl (N59 _ num _ (by omega) hj (by omega) hhas eR)
