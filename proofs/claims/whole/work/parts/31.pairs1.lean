/-! the first calls, class beside model -/
theorem wp_isIn {x a b : Int32} {K : Int32 → Prop} (h : K (btw x a b)) : wp_X12_isIn x a b K := by
  unfold wp_X12_isIn
  unfold btw at h
  refine ⟨fun q => ?_, fun q => ⟨fun q2 => ?_, fun q2 => ?_⟩⟩
  · rw [if_neg (fun e => absurd q (Int32.not_lt.mpr e.1))] at h; exact h
  · rw [if_neg (fun e => absurd q2 (Int32.not_lt.mpr e.2))] at h; exact h
  · rw [if_pos ⟨Int32.not_lt.mp q, Int32.not_lt.mp q2⟩] at h; exact h
theorem btw_n {x : Int32} {N : Nat} (hN : N < 2147483648) (h : ¬ btw x 0 (nI N) = 0) : ∃ j : Nat, j ≤ N ∧ x = nI j := by
  have h1 := Decidable.of_not_not (fun e => h (btw_0.mpr e))
  have h2 : 0 ≤ x.toInt := by have := Int32.le_iff_toInt_le.mp h1.1; simpa using this
  have h3 := Int32.le_iff_toInt_le.mp h1.2
  rw [nI_t hN] at h3
  exact ⟨x.toInt.toNat, by omega, i_nI h2⟩
theorem btw_f {x : Int32} (h : ¬ btw x (-5003) 5003 = 0) : -5003 ≤ x.toInt ∧ x.toInt ≤ 5003 := by
  have h1 := Decidable.of_not_not (fun e => h (btw_0.mpr e))
  exact ⟨Int32.le_iff_toInt_le.mp h1.1, Int32.le_iff_toInt_le.mp h1.2⟩
/-- a row of the class, the same row of the model, by one row of whole numbers -/
def rl (n : Nat) (A B : Nat → Int32) (z : Nat → Int) : Prop := ∀ i, i < n → A i = fdI (z i) ∧ B i = mdI (z i)
theorem rl.zero {n : Nat} {A B : Nat → Int32} {z : Nat → Int} (h : rl n A B z) {i : Nat} (hi : i < n) : A i = 0 ↔ B i = 0 := by
  rw [(h i hi).1, (h i hi).2, fdI_0, mdI_0]
theorem rl.hi {n : Nat} {A B : Nat → Int32} {z : Nat → Int} (h : rl n A B z) : ∀ m, m ≤ n → hiA A m = hiA B m
  | 0, _ => rfl
  | m + 1, hm => by
    unfold hiA
    rw [rl.hi h m (by omega)]
    by_cases e : A m = 0
    · rw [if_pos e, if_pos ((h.zero (by omega)).mp e)]
    · rw [if_neg e, if_neg (fun e2 => e ((h.zero (by omega)).mpr e2))]
theorem rl.ct {n : Nat} {A B : Nat → Int32} {z : Nat → Int} (h : rl n A B z) : ∀ m, m ≤ n → ctA A m = ctA B m
  | 0, _ => rfl
  | m + 1, hm => by
    unfold ctA
    rw [rl.ct h m (by omega)]
    by_cases e : A m = 0
    · rw [if_pos e, if_pos ((h.zero (by omega)).mp e)]
    · rw [if_neg e, if_neg (fun e2 => e ((h.zero (by omega)).mpr e2))]
theorem rl.or {n : Nat} {A B : Nat → Int32} {z : Nat → Int} (h : rl n A B z) : ∀ m, m ≤ n → orA A m = orA B m
  | 0, _ => rfl
  | m + 1, hm => by
    unfold orA
    rw [rl.or h m (by omega)]
    by_cases e : A m = 0
    · rw [if_pos e, if_pos ((h.zero (by omega)).mp e)]
    · rw [if_neg e, if_neg (fun e2 => e ((h.zero (by omega)).mpr e2))]
theorem rl_upd {n : Nat} {A B : Nat → Int32} {z : Nat → Int} (h : rl n A B z) (j : Nat) (v : Int) : rl n (upd A j (fdI v)) (upd B j (mdI v)) (fun i => if i = j then v else z i) := by
  intro i hi
  by_cases e : i = j
  · subst e
    rw [pk_us, pk_us]
    simp
  · rw [pk_un e, pk_un e]
    simp only [if_neg e]
    exact h i hi
theorem rl.wipe {n : Nat} (A B : Nat → Int32) : rl n (fun i => if i < n then 0 else A i) (fun i => if i < n then 0 else B i) (fun _ => 0) := by
  intro i hi
  exact ⟨by show (if i < n then (0 : Int32) else A i) = _; rw [if_pos hi]; rfl, by show (if i < n then (0 : Int32) else B i) = _; rw [if_pos hi]; rfl⟩
theorem pr_set {x1 x2 : Int32} {A B : Nat → Int32} {z : Nat → Int} {K : Int32 → (Nat → Int32) → Int32 → (Nat → Int32) → Prop} (h : rl 5 A B z) (hK : ∀ r A' B' z', rl 5 A' B' z' → K r A' r B') : wp_X11_set x1 x2 A (fun r A' => wp_X12_set x1 x2 B (fun r2 B' => K r A' r2 B')) := by
  unfold wp_X11_set
  refine wp_within ⟨fun q => wp_within ⟨fun q2 => ?_, fun q2 => ?_⟩, fun q => ?_⟩
  · obtain ⟨j, hj, rfl⟩ := btw_n (N := 4) (by decide) q
    refine ⟨vpn (by omega) (by decide), fun y hy => ?_⟩
    unfold wp_X12_set
    refine wp_isIn ⟨fun _ => wp_isIn ⟨fun _ => ⟨vpn (by omega) (by decide), fun y2 hy2 => wp_modulo ?_⟩, fun e => absurd e q2⟩, fun e => absurd e q⟩
    rw [cln (by omega)] at hy hy2
    rw [cln (by omega), hy, hy2, (h j (by omega)).2, (h j (by omega)).1]
    refine wp_told ?_
    have hb := btw_f q2
    have hx : x2 = fdI x2.toInt := fdI_of hb
    have h2 := rl_upd h j x2.toInt
    rw [← hx] at h2
    exact hK _ _ _ _ h2
  · unfold wp_X12_set
    refine wp_isIn ⟨fun _ => wp_isIn ⟨fun e => absurd q2 e, fun _ => hK _ _ _ _ h⟩, fun e => absurd e q⟩
  · unfold wp_X12_set
    refine wp_isIn ⟨fun e => absurd q e, fun _ => hK _ _ _ _ h⟩
theorem pr_of {x1 : Int32} {A B : Nat → Int32} {z : Nat → Int} {K : Int32 → Int32 → Prop} (h : rl 5 A B z) (hK : ∀ r, K r r) : wp_X11_of x1 A (fun r => wp_X12_of x1 B (fun r2 => K r r2)) := by
  unfold wp_X11_of
  refine wp_within ⟨fun q => ?_, fun q => ?_⟩
  · unfold wp_X12_of
    exact wp_isIn ⟨fun _ => hK _, fun e => absurd q e⟩
  · obtain ⟨j, hj, rfl⟩ := btw_n (N := 4) (by decide) q
    refine ⟨vpn (by omega) (by decide), ?_⟩
    unfold wp_X12_of
    refine wp_isIn ⟨fun e => absurd e q, fun _ => ⟨vpn (by omega) (by decide), ?_⟩⟩
    rw [cln (by omega), (h j (by omega)).2, (h j (by omega)).1]
    exact wp_told (hK _)
theorem pr_degree {A B : Nat → Int32} {z : Nat → Int} {K : Int32 → Int32 → Prop} (h : rl 5 A B z) (hK : ∀ r, K r r) : wp_X11_degree A (fun r => wp_X12_degree B (fun r2 => K r r2)) := by
  unfold wp_X11_degree
  refine wp_highest (by decide) ?_
  unfold wp_X12_degree
  refine wp_degreeOf ?_
  rw [h.hi 5 (Nat.le_refl 5)]
  exact hK _
/-- the numbers of an operator: k, i, j, told alike by both -/
def nmO (k i j : Int32) : Int32 := if btw k 0 4 = 0 then 0 else if btw i 0 4 = 0 then 0 else if btw j 0 2 = 0 then 0 else 1
theorem wp_names {k i j : Int32} {K : Int32 → Prop} (h : K (nmO k i j)) : wp_X4_names k i j K := by
  unfold wp_X4_names
  unfold nmO at h
  refine wp_within ⟨fun q => ?_, fun q => ?_⟩
  · rw [if_pos q] at h; exact h
  · rw [if_neg q] at h
    refine wp_within ⟨fun q => ?_, fun q => ?_⟩
    · rw [if_pos q] at h; exact h
    · rw [if_neg q] at h
      refine wp_within ⟨fun q => ?_, fun q => ?_⟩
      · rw [if_pos q] at h; exact h
      · rw [if_neg q] at h; exact h
theorem wp_isNumber {k i j : Int32} {K : Int32 → Prop} (h : K (nmO k i j)) : wp_X12_isNumber k i j K := by
  unfold wp_X12_isNumber
  unfold nmO at h
  refine wp_isIn ⟨fun q => ?_, fun q => ?_⟩
  · rw [if_pos q] at h; exact h
  · rw [if_neg q] at h
    refine wp_isIn ⟨fun q => ?_, fun q => ?_⟩
    · rw [if_pos q] at h; exact h
    · rw [if_neg q] at h
      refine wp_isIn ⟨fun q => ?_, fun q => ?_⟩
      · rw [if_pos q] at h; exact h
      · rw [if_neg q] at h; exact h
theorem nmO_in {k i j : Int32} (h : ¬ nmO k i j = 0) : ∃ a b c : Nat, a ≤ 4 ∧ b ≤ 4 ∧ c ≤ 2 ∧ k = nI a ∧ i = nI b ∧ j = nI c := by
  unfold nmO at h
  by_cases q : btw k 0 4 = 0
  · rw [if_pos q] at h; exact absurd rfl h
  rw [if_neg q] at h
  by_cases q1 : btw i 0 4 = 0
  · rw [if_pos q1] at h; exact absurd rfl h
  rw [if_neg q1] at h
  by_cases q2 : btw j 0 2 = 0
  · rw [if_pos q2] at h; exact absurd rfl h
  obtain ⟨a, h1, h2⟩ := btw_n (N := 4) (by decide) q
  obtain ⟨b, h3, h4⟩ := btw_n (N := 4) (by decide) q1
  obtain ⟨c, h5, h6⟩ := btw_n (N := 2) (by decide) q2
  exact ⟨a, b, c, h1, h3, h5, h2, h4, h6⟩
theorem wp_index {a b c : Nat} {K : Int32 → Prop} (h : K (nI (15 * a + 3 * b + c))) : wp_X4_index (nI a) (nI b) (nI c) K := by
  unfold wp_X4_index
  rw [show (15 : Int32) = nI 15 from rfl, show (3 : Int32) = nI 3 from rfl, pk_mul, pk_mul, nI_add, nI_add, show a * 15 + b * 3 + c = 15 * a + 3 * b + c by omega]
  exact h
theorem wp_placeOf {a b c : Nat} {K : Int32 → Prop} (h : K (nI (15 * a + 3 * b + c))) : wp_X12_placeOf (nI a) (nI b) (nI c) K := by
  unfold wp_X12_placeOf
  rw [show (15 : Int32) = nI 15 from rfl, show (3 : Int32) = nI 3 from rfl, pk_mul, pk_mul, nI_add, nI_add]
  exact h
theorem pr_put {x1 x2 x3 x4 : Int32} {A B : Nat → Int32} {z : Nat → Int} {K : Int32 → (Nat → Int32) → Int32 → (Nat → Int32) → Prop} (h : rl 75 A B z) (hK : ∀ r A' B' z', rl 75 A' B' z' → K r A' r B') : wp_X11_put x1 x2 x3 x4 A (fun r A' => wp_X12_put x1 x2 x3 x4 B (fun r2 B' => K r A' r2 B')) := by
  unfold wp_X11_put
  refine wp_names ⟨fun q => wp_within ⟨fun q2 => ?_, fun q2 => ?_⟩, fun q => ?_⟩
  · obtain ⟨a, b, c, ha, hb, hc, rfl, rfl, rfl⟩ := nmO_in q
    refine wp_index ⟨vpn (by omega) (by decide), fun y hy => ?_⟩
    unfold wp_X12_put
    refine wp_isNumber ⟨fun _ => wp_isIn ⟨fun _ => wp_placeOf ⟨vpn (by omega) (by decide), fun y2 hy2 => wp_placeOf (wp_modulo ⟨vpn (by omega) (by decide), ?_⟩)⟩, fun e => absurd e q2⟩, fun e => absurd e q⟩
    rw [cln (by omega)] at hy hy2
    rw [cln (by omega), hy, hy2, (h _ (by omega)).2, (h _ (by omega)).1]
    refine wp_told ?_
    have hx : x4 = fdI x4.toInt := fdI_of (btw_f q2)
    have h2 := rl_upd h (15 * a + 3 * b + c) x4.toInt
    rw [← hx] at h2
    exact hK _ _ _ _ h2
  · unfold wp_X12_put
    refine wp_isNumber ⟨fun _ => wp_isIn ⟨fun e => absurd q2 e, fun _ => hK _ _ _ _ h⟩, fun e => absurd e q⟩
  · unfold wp_X12_put
    refine wp_isNumber ⟨fun e => absurd q e, fun _ => hK _ _ _ _ h⟩
theorem pr_get {x1 x2 x3 : Int32} {A B : Nat → Int32} {z : Nat → Int} {K : Int32 → Int32 → Prop} (h : rl 75 A B z) (hK : ∀ r, K r r) : wp_X11_get x1 x2 x3 A (fun r => wp_X12_get x1 x2 x3 B (fun r2 => K r r2)) := by
  unfold wp_X11_get
  refine wp_names ⟨fun q => ?_, fun q => ?_⟩
  · unfold wp_X12_get
    exact wp_isNumber ⟨fun _ => hK _, fun e => absurd q e⟩
  · obtain ⟨a, b, c, ha, hb, hc, rfl, rfl, rfl⟩ := nmO_in q
    refine wp_index ⟨vpn (by omega) (by decide), ?_⟩
    unfold wp_X12_get
    refine wp_isNumber ⟨fun e => absurd e q, fun _ => wp_placeOf ⟨vpn (by omega) (by decide), ?_⟩⟩
    rw [cln (by omega), (h _ (by omega)).2, (h _ (by omega)).1]
    exact wp_told (hK _)
theorem pr_clear {A B : Nat → Int32} {z : Nat → Int} {K : Int32 → (Nat → Int32) → Int32 → (Nat → Int32) → Prop} (h : rl 75 A B z) (hK : ∀ r A' B' z', rl 75 A' B' z' → K r A' r B') : wp_X11_clear A (fun r A' => wp_X12_clear B (fun r2 B' => K r A' r2 B')) := by
  unfold wp_X11_clear
  refine wp_others (by decide) (wp_fill_spec (by decide) (wp_mclear ?_))
  rw [h.ct 75 (Nat.le_refl 75)]
  exact hK _ _ _ _ (rl.wipe A B)
theorem pr_order {A B : Nat → Int32} {z : Nat → Int} {K : Int32 → Int32 → Prop} (h : rl 75 A B z) (hK : ∀ r, K r r) : wp_X11_order A (fun r => wp_X12_order B (fun r2 => K r r2)) := by
  unfold wp_X11_order
  refine wp_topDer ?_
  unfold wp_X12_order
  refine wp_orderOf ?_
  rw [h.or 75 (Nat.le_refl 75)]
  exact hK _
