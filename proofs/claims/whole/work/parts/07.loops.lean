/-! loops: a counter that goes up, or down, with a state that is known at each turn -/
theorem up_fun {σ : Type} (L : Nat → Int32 → σ → Prop) (N : Nat) (F : Nat → σ) (hx : ∀ k, L (k + 1) (nI N) (F N)) (hs : ∀ k i, i < N → L k (nI (i + 1)) (F (i + 1)) → L (k + 1) (nI i) (F i)) : ∀ (d i : Nat), i + d = N → L (d + 1) (nI i) (F i)
  | 0, i, h => by
    rw [show i = N by omega]
    exact hx 0
  | d + 1, i, h => hs (d + 1) i (by omega) (up_fun L N F hx hs d (i + 1) (by omega))
theorem dn_fun {σ : Type} (L : Nat → Int32 → σ → Prop) (N : Nat) (F : Nat → σ) (hx : ∀ k, L (k + 1) (-1) (F 0)) (hs : ∀ k i, i < N → L k (nI i + (-1)) (F i) → L (k + 1) (nI i) (F (i + 1))) : ∀ n : Nat, n ≤ N → L (n + 1) (nI n + (-1)) (F n)
  | 0, _ => by
    rw [show nI 0 + (-1) = (-1 : Int32) by decide]
    exact hx 0
  | n + 1, h => by
    rw [pk_m1]
    exact hs (n + 1) n (by omega) (dn_fun L N F hx hs n (by omega))
theorem vpn {n N : Nat} (h : n < N) (hN : N < 2147483648) : vp_in (nI n) N := vp_in_nI h (by omega)
theorem cln {n : Nat} (h : n < 2147483648) : (nI n).toNatClampNeg = n := nI_clamp (by omega)
theorem nlt0 {n : Nat} (h : n < 2147483648) : ¬ nI n < 0 := nI_pos (by omega)
theorem ngt {a b : Nat} (h : a < b) (hb : b < 2147483648) : ¬ nI b ≤ nI a := nI_ge h (by omega)
theorem nle {a b : Nat} (h : a ≤ b) (hb : b < 2147483648) : nI a ≤ nI b := nI_le h (by omega)
/-- fill -/
theorem wp_fill_spec {n : Nat} {v : Int32} {A : Nat → Int32} {K : (Nat → Int32) → Prop} (hn : n < 2147483648) (h : K (fun i => if i < n then v else A i)) : wp_J7_fill_53178 n v A K := by
  unfold wp_J7_fill_53178
  intro y hy
  subst hy
  refine ⟨n + 1, ?_⟩
  have key := up_fun (fun k x s => lp_J7_fill_53178_5 n v K k x (nI n) s) n (fun i j => if j < i then v else A j)
    (fun k => by
      unfold lp_J7_fill_53178_5
      exact ⟨fun _ => h, fun q => absurd (nle (Nat.le_refl n) hn) q⟩)
    (fun k i hi ih => by
      unfold lp_J7_fill_53178_5
      refine ⟨fun q => absurd q (ngt hi hn), fun _ => ⟨vpn hi hn, ?_⟩⟩
      rw [cln (by omega)]
      have e : upd (fun j => if j < i then v else A j) i v = fun j => if j < i + 1 then v else A j := by
        funext j
        unfold upd
        by_cases e1 : j = i
        · rw [if_pos e1, if_pos (by omega)]
        · rw [if_neg e1]
          show (if j < i then _ else A j) = _
          by_cases e2 : j < i
          · rw [if_pos e2, if_pos (by omega)]
          · rw [if_neg e2, if_neg (by omega)]
      rw [e, nI_1]
      exact ih) n 0 (by omega)
  have e0 : (fun j => if j < 0 then v else A j) = A := by funext j; rw [if_neg (Nat.not_lt_zero j)]
  rw [e0] at key
  exact key
/-- the greatest place whose number isn't 0 -/
def hiA (A : Nat → Int32) : Nat → Int32
  | 0 => -1
  | n + 1 => if A n = 0 then hiA A n else nI n
theorem wp_highest {n : Nat} {A : Nat → Int32} {K : Int32 → Prop} (hn : n < 2147483648) (h : K (hiA A n)) : wp_X3_highest n A K := by
  unfold wp_X3_highest
  intro y hy
  refine ⟨n + 1, ?_⟩
  have e : y = nI n + (-1) := by rw [hy]; exact Int32.sub_eq_add_neg _ _
  rw [e]
  have key := dn_fun (fun k x (s : Int32 → Prop) => s (hiA A n) → lp_X3_highest_5 n A K k x) n (fun i r => K (hiA A i))
    (fun k q => by
      unfold lp_X3_highest_5
      exact ⟨fun _ => q, fun q2 => absurd (by decide) q2⟩)
    (fun k i hi ih q => by
      unfold lp_X3_highest_5
      refine ⟨fun q2 => absurd q2 (nlt0 (by omega)), fun _ => ⟨vpn hi hn, ?_⟩⟩
      rw [cln (by omega)]
      have q : K (hiA A (i + 1)) := q
      unfold hiA at q
      refine ⟨fun z => ?_, fun z => ?_⟩
      · rw [if_pos z] at q
        exact ih q
      · rw [if_neg z] at q
        exact q) n (Nat.le_refl n)
  exact key h
/-- how many numbers aren't 0 -/
def ctA (A : Nat → Int32) : Nat → Nat
  | 0 => 0
  | n + 1 => ctA A n + (if A n = 0 then 0 else 1)
theorem ctA_le (A : Nat → Int32) : ∀ n, ctA A n ≤ n
  | 0 => Nat.le_refl 0
  | n + 1 => by
    have := ctA_le A n
    unfold ctA
    split <;> omega
theorem wp_others {n : Nat} {A : Nat → Int32} {K : Int32 → Prop} (hn : n < 2147483648) (h : K (nI (ctA A n))) : wp_X3_others n A K := by
  unfold wp_X3_others
  intro y hy
  subst hy
  refine ⟨n + 1, ?_⟩
  exact up_fun (fun k x (s : Int32) => lp_X3_others_10 n A K k s (nI n) x) n (fun i => nI (ctA A i))
    (fun k => by
      unfold lp_X3_others_10
      exact ⟨fun _ => h, fun q => absurd (nle (Nat.le_refl n) hn) q⟩)
    (fun k i hi ih => by
      unfold lp_X3_others_10
      refine ⟨fun q => absurd q (ngt hi hn), fun _ => ⟨vpn hi hn, ?_⟩⟩
      rw [cln (by omega)]
      intro y hy
      subst hy
      have ih : lp_X3_others_10 n A K k (nI (ctA A (i + 1))) (nI n) (nI (i + 1)) := ih
      unfold ctA at ih
      refine ⟨fun z => ?_, fun z => ?_⟩
      · unfold jn_X3_others_30
        rw [if_pos z] at ih
        rw [nI_1]
        exact ih
      · unfold jn_X3_others_30
        rw [if_neg z] at ih
        rw [nI_1, nI_1]
        exact ih) n 0 (by omega)
/-- the model's degree -/
theorem wp_degreeOf {A : Nat → Int32} {K : Int32 → Prop} (h : K (hiA A 5)) : wp_X12_degreeOf A K := by
  unfold wp_X12_degreeOf
  refine ⟨6, ?_⟩
  have key := dn_fun (fun k x (s : Int32 → Prop) => s 0 → lp_X12_degreeOf_2 A K k x) 5 (fun i r => K (hiA A i))
    (fun k q => by
      unfold lp_X12_degreeOf_2
      exact ⟨fun _ => q, fun q2 => absurd (by decide) q2⟩)
    (fun k i hi ih q => by
      unfold lp_X12_degreeOf_2
      refine ⟨fun q2 => absurd q2 (nlt0 (by omega)), fun _ => ⟨vpn hi (by omega), ?_⟩⟩
      rw [cln (by omega)]
      have q : K (hiA A (i + 1)) := q
      unfold hiA at q
      refine ⟨fun z => ?_, fun z => ?_⟩
      · rw [if_neg z] at q
        exact q
      · rw [if_pos z] at q
        exact ih q) 5 (Nat.le_refl 5)
  exact key h
/-- the model's count, clearing, order -/
theorem wp_numbers {A : Nat → Int32} {K : Int32 → Prop} (h : K (nI (ctA A 75))) : wp_X12_numbers A K := by
  unfold wp_X12_numbers
  refine ⟨76, ?_⟩
  exact up_fun (fun k x (s : Int32) => lp_X12_numbers_4 A K k s x) 75 (fun i => nI (ctA A i))
    (fun k => by
      unfold lp_X12_numbers_4
      exact ⟨fun _ => h, fun q => absurd (by decide) q⟩)
    (fun k i hi ih => by
      unfold lp_X12_numbers_4
      refine ⟨fun q => absurd q (ngt (b := 75) hi (by decide)), fun _ => ⟨vpn hi (by decide), ?_⟩⟩
      rw [cln (by omega)]
      have ih : lp_X12_numbers_4 A K k (nI (ctA A (i + 1))) (nI (i + 1)) := ih
      unfold ctA at ih
      refine ⟨fun z => ?_, fun z => ?_⟩
      · unfold jn_X12_numbers_25
        intro y hy
        rw [if_neg z] at ih
        rw [hy, nI_1, nI_1]
        exact ih
      · unfold jn_X12_numbers_25
        intro y hy
        rw [if_pos z] at ih
        rw [hy, nI_1, show nI (ctA A i) + 0 = nI (ctA A i + 0) by simp]
        exact ih) 75 0 (by omega)
theorem wp_mclear {A : Nat → Int32} {K : Int32 → (Nat → Int32) → Prop} (h : K (nI (ctA A 75)) (fun i => if i < 75 then 0 else A i)) : wp_X12_clear A K := by
  unfold wp_X12_clear
  refine wp_numbers ⟨76, ?_⟩
  have key := up_fun (fun k x (s : Nat → Int32) => lp_X12_clear_7 K k (nI (ctA A 75)) x s) 75 (fun i j => if j < i then 0 else A j)
    (fun k => by
      unfold lp_X12_clear_7
      exact ⟨fun _ => h, fun q => absurd (by decide) q⟩)
    (fun k i hi ih => by
      unfold lp_X12_clear_7
      refine ⟨fun q => absurd q (ngt (b := 75) hi (by decide)), fun _ => ⟨vpn hi (by decide), ?_⟩⟩
      rw [cln (by omega)]
      have e : upd (fun j => if j < i then 0 else A j) i 0 = fun j => if j < i + 1 then 0 else A j := by
        funext j
        unfold upd
        by_cases e1 : j = i
        · rw [if_pos e1, if_pos (by omega)]
        · rw [if_neg e1]
          show (if j < i then _ else A j) = _
          by_cases e2 : j < i
          · rw [if_pos e2, if_pos (by omega)]
          · rw [if_neg e2, if_neg (by omega)]
      rw [e, nI_1]
      exact ih) 75 0 (by omega)
  have e0 : (fun j => if j < 0 then 0 else A j) = A := by funext j; rw [if_neg (Nat.not_lt_zero j)]
  rw [e0] at key
  exact key
/-- ORDER -/
def orA (A : Nat → Int32) : Nat → Nat
  | 0 => 0
  | n + 1 => if A n = 0 then orA A n else n / 15
theorem wp_orderOf {A : Nat → Int32} {K : Int32 → Prop} (h : K (nI (orA A 75))) : wp_X12_orderOf A K := by
  unfold wp_X12_orderOf
  refine ⟨76, ?_⟩
  exact up_fun (fun k x (s : Int32) => lp_X12_orderOf_4 A K k s x) 75 (fun i => nI (orA A i))
    (fun k => by
      unfold lp_X12_orderOf_4
      exact ⟨fun _ => h, fun q => absurd (by decide) q⟩)
    (fun k i hi ih => by
      unfold lp_X12_orderOf_4
      refine ⟨fun q => absurd q (ngt (b := 75) hi (by decide)), fun _ => ⟨vpn hi (by decide), ?_⟩⟩
      rw [cln (by omega)]
      have ih : lp_X12_orderOf_4 A K k (nI (orA A (i + 1))) (nI (i + 1)) := ih
      unfold orA at ih
      refine ⟨fun z => ?_, fun z => ?_⟩
      · unfold jn_X12_orderOf_27
        rw [if_neg z] at ih
        rw [nI_1, show (15 : Int32) = nI 15 from rfl, pk_div (by omega) (by decide) (by decide)]
        exact ih
      · unfold jn_X12_orderOf_27
        rw [if_pos z] at ih
        rw [nI_1]
        exact ih) 75 0 (by omega)
theorem hi_or (A : Nat → Int32) : ∀ n, n < 2147483648 → (hiA A n = -1 ∧ orA A n = 0) ∨ ∃ j, j < n ∧ hiA A n = nI j ∧ orA A n = j / 15
  | 0, _ => Or.inl ⟨rfl, rfl⟩
  | n + 1, hn => by
    unfold hiA orA
    by_cases z : A n = 0
    · rw [if_pos z, if_pos z]
      rcases hi_or A n (by omega) with h | ⟨j, h1, h2, h3⟩
      · exact Or.inl h
      · exact Or.inr ⟨j, by omega, h2, h3⟩
    · rw [if_neg z, if_neg z]
      exact Or.inr ⟨n, by omega, rfl, rfl⟩
theorem wp_topDer {A : Nat → Int32} {K : Int32 → Prop} (h : K (nI (orA A 75))) : wp_X4_topDerivative A K := by
  unfold wp_X4_topDerivative
  refine wp_highest (by omega) ?_
  rcases hi_or A 75 (by omega) with ⟨h1, h2⟩ | ⟨j, h1, h2, h3⟩
  · rw [h2] at h
    rw [h1]
    exact ⟨fun q => absurd q (by decide), fun _ => h⟩
  · rw [h3] at h
    rw [h2]
    refine ⟨fun _ => ?_, fun q => absurd (nI_pos' (by omega)) q⟩
    rw [show (15 : Int32) = nI 15 from rfl, pk_div (by omega) (by decide) (by decide)]
    exact h
