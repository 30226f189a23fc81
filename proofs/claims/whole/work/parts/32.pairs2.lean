/-! plans, tape, lists: rows that are told alike -/
def pl (A A2 B B2 : Nat → Int32) : Prop := ∀ i, i < 8 → B i = A i ∧ B2 i = A2 i ∧ (∃ a : Nat, a ≤ 4 ∧ A i = nI a) ∧ -99 ≤ (A2 i).toInt ∧ (A2 i).toInt ≤ 99
theorem btw_i {x a b : Int32} (h : ¬ btw x a b = 0) : a.toInt ≤ x.toInt ∧ x.toInt ≤ b.toInt := by
  have h1 := Decidable.of_not_not (fun e => h (btw_0.mpr e))
  exact ⟨Int32.le_iff_toInt_le.mp h1.1, Int32.le_iff_toInt_le.mp h1.2⟩
theorem pr_plan {x1 x2 : Int32} {n : Nat} {A A2 B B2 : Nat → Int32} {K : Int32 → Int32 → (Nat → Int32) → (Nat → Int32) → Int32 → Int32 → (Nat → Int32) → (Nat → Int32) → Prop} (hn : n ≤ 8) (h : pl A A2 B B2)
    (hK : ∀ r n' A' A2' B' B2', n' ≤ 8 → pl A' A2' B' B2' → K r (nI n') A' A2' r (nI n') B' B2') : wp_X11_plan x1 x2 (nI n) A A2 (fun r s' A' A2' => wp_X12_plan x1 x2 (nI n) B B2 (fun r2 s2 B' B2' => K r s' A' A2' r2 s2 B' B2')) := by
  unfold wp_X11_plan
  refine wp_within ⟨fun q => wp_within ⟨fun q2 => ⟨fun q3 => ?_, fun q3 => ?_⟩, fun q2 => ?_⟩, fun q => ?_⟩
  · have hlt : n < 8 := by
      have := Int32.lt_iff_toInt_lt.mp q3
      rw [nI_t (by omega)] at this
      have e8 : (8 : Int32).toInt = 8 := rfl
      omega
    unfold wp_X5_append
    refine ⟨fun e => absurd q3 (Int32.not_lt.mpr e), fun _ => ⟨vpn hlt (by decide), fun y hy => ?_⟩⟩
    unfold wp_X12_plan
    refine wp_isIn ⟨fun _ => wp_isIn ⟨fun _ => ⟨fun _ => ⟨vpn hlt (by decide), fun y2 hy2 => ?_⟩, fun e => absurd (e ▸ q3) (by decide)⟩, fun e => absurd e q2⟩, fun e => absurd e q⟩
    rw [nI_1] at hy hy2
    rw [hy, hy2, cln (by omega)]
    refine hK _ (n + 1) _ _ _ _ (by omega) (fun i hi => ?_)
    obtain ⟨j, hj, ej⟩ := btw_n (N := 4) (by decide) q
    have hb := btw_i q2
    by_cases e : i = n
    · subst e
      rw [pk_us, pk_us, pk_us, pk_us]
      exact ⟨rfl, rfl, ⟨j, hj, ej⟩, hb⟩
    · rw [pk_un e, pk_un e, pk_un e, pk_un e]
      exact h i hi
  · have h8 : n = 8 := by
      have := mt Int32.lt_iff_toInt_lt.mpr q3
      rw [nI_t (by omega)] at this
      have e8 : (8 : Int32).toInt = 8 := rfl
      omega
    subst h8
    unfold wp_X12_plan
    refine wp_isIn ⟨fun _ => wp_isIn ⟨fun _ => ⟨fun e => absurd rfl e, fun _ => hK _ 8 _ _ _ _ (by omega) h⟩, fun e => absurd e q2⟩, fun e => absurd e q⟩
  · unfold wp_X12_plan
    refine wp_isIn ⟨fun _ => wp_isIn ⟨fun e => absurd q2 e, fun _ => hK _ n _ _ _ _ hn h⟩, fun e => absurd e q⟩
  · unfold wp_X12_plan
    refine wp_isIn ⟨fun e => absurd q e, fun _ => hK _ n _ _ _ _ hn h⟩
theorem pr_unplan {n : Nat} {K : Int32 → Int32 → Int32 → Int32 → Prop} (hK : ∀ r, K r (nI 0) r (nI 0)) : wp_X11_unplan (nI n) (fun r s => wp_X12_unplan (nI n) (fun r2 s2 => K r s r2 s2)) := by
  unfold wp_X11_unplan wp_X12_unplan
  exact hK _
theorem pr_feed {x1 : Int32} {n : Nat} {A B : Nat → Int32} {K : Int32 → Int32 → (Nat → Int32) → Int32 → Int32 → (Nat → Int32) → Prop} (hn : n ≤ 60) (h : ∀ i, i < 60 → B i = A i ∧ 0 ≤ (A i).toInt ∧ (A i).toInt ≤ 126)
    (hK : ∀ r n' A' B', n' ≤ 60 → (∀ i, i < 60 → B' i = A' i ∧ 0 ≤ (A' i).toInt ∧ (A' i).toInt ≤ 126) → K r (nI n') A' r (nI n') B') : wp_X11_feed x1 (nI n) A (fun r s' A' => wp_X12_feed x1 (nI n) B (fun r2 s2 B' => K r s' A' r2 s2 B')) := by
  unfold wp_X11_feed
  refine wp_within ⟨fun q => ⟨fun q3 => ?_, fun q3 => ?_⟩, fun q => ?_⟩
  · have hlt : n < 60 := by
      have := Int32.lt_iff_toInt_lt.mp q3
      rw [nI_t (by omega)] at this
      have e8 : (60 : Int32).toInt = 60 := rfl
      omega
    unfold wp_X10_append
    refine ⟨fun e => absurd q3 (Int32.not_lt.mpr e), fun _ => ⟨vpn hlt (by decide), fun y hy => ?_⟩⟩
    unfold wp_X12_feed
    refine wp_isIn ⟨fun _ => ⟨fun _ => ⟨vpn hlt (by decide), fun y2 hy2 => ?_⟩, fun e => absurd (e ▸ q3) (by decide)⟩, fun e => absurd e q⟩
    rw [nI_1] at hy hy2
    rw [hy, hy2, cln (by omega)]
    refine hK _ (n + 1) _ _ (by omega) (fun i hi => ?_)
    have hb := btw_i q
    have k1 : (32 : Int32).toInt = 32 := rfl
    have k2 : (126 : Int32).toInt = 126 := rfl
    by_cases e : i = n
    · subst e
      rw [pk_us, pk_us]
      exact ⟨rfl, by omega, by omega⟩
    · rw [pk_un e, pk_un e]
      exact h i hi
  · have h8 : n = 60 := by
      have := mt Int32.lt_iff_toInt_lt.mpr q3
      rw [nI_t (by omega)] at this
      have e8 : (60 : Int32).toInt = 60 := rfl
      omega
    subst h8
    unfold wp_X12_feed
    refine wp_isIn ⟨fun _ => ⟨fun e => absurd rfl e, fun _ => hK _ 60 _ _ (by omega) h⟩, fun e => absurd e q⟩
  · unfold wp_X12_feed
    refine wp_isIn ⟨fun e => absurd q e, fun _ => hK _ n _ _ hn h⟩
theorem pr_wipe {n : Nat} {K : Int32 → Int32 → Int32 → Int32 → Prop} (hK : ∀ r, K r (nI 0) r (nI 0)) : wp_X11_wipe (nI n) (fun r s => wp_X12_wipe (nI n) (fun r2 s2 => K r s r2 s2)) := by
  unfold wp_X11_wipe wp_X12_wipe
  exact hK _
/-- what is found: the greatest power (none: -1), and whether -/
def fnd (top isF fB : Int32) : Prop := (top = -1 ∧ isF = 0) ∨ ∃ t : Nat, t ≤ 8 ∧ top = nI t ∧ isF = 1 ∧ fB = nI t
theorem wp_isThere {top isF fB : Int32} {K : Int32 → Prop} (h : fnd top isF fB) (hK : K isF) : wp_X0_isThere top K := by
  unfold wp_X0_isThere
  rcases h with ⟨h1, h2⟩ | ⟨t, h1, h2, h3, h4⟩
  · rw [h1]
    rw [h2] at hK
    exact ⟨fun _ => hK, fun q => absurd (by decide) q⟩
  · rw [h2]
    rw [h3] at hK
    exact ⟨fun q => absurd q (nlt0 (by omega)), fun _ => hK⟩
theorem pr_found {x1 top isF fB : Int32} {A B : Nat → Int32} {z : Nat → Int} {K : Int32 → Int32 → Prop} (hf : fnd top isF fB) (h : ¬ isF = 0 → rl 9 A B z) (hK : ∀ r, K r r) : wp_X11_found x1 top A (fun r => wp_X12_found x1 isF fB B (fun r2 => K r r2)) := by
  unfold wp_X11_found
  refine wp_isThere hf ⟨fun q => ?_, fun q => ?_⟩
  · rcases hf with ⟨h1, h2⟩ | ⟨t, h1, h2, h3, h4⟩
    · exact absurd h2 q
    rw [h2]
    refine wp_within ⟨fun q2 => ⟨fun q3 => ?_, fun q3 => ?_⟩, fun q2 => ?_⟩
    · have hb := btw_i q2
      rw [nI_t (by omega)] at hb
      have k1 : (-1 : Int32).toInt = -1 := rfl
      have hne : x1.toInt ≠ -1 := fun e => q3 (ieq e)
      have ex : x1 = nI x1.toInt.toNat := i_nI (by omega)
      have hjt : x1.toInt.toNat ≤ t := by omega
      generalize x1.toInt.toNat = j at ex hjt
      subst ex
      refine ⟨vpn (by omega) (by decide), ?_⟩
      unfold wp_X12_found
      refine ⟨fun _ => ?_, fun e => absurd e q⟩
      rw [h4]
      refine wp_isIn ⟨fun _ => ⟨fun _ => ⟨vpn (by omega) (by decide), ?_⟩, fun e => absurd e q3⟩, fun e => absurd e q2⟩
      rw [cln (by omega), (h q j (by omega)).1, (h q j (by omega)).2]
      exact wp_told (hK _)
    · unfold wp_X12_found
      refine ⟨fun _ => ?_, fun e => absurd e q⟩
      rw [h4]
      exact wp_isIn ⟨fun _ => ⟨fun e => absurd q3 e, fun _ => hK _⟩, fun e => absurd e q2⟩
    · unfold wp_X12_found
      refine ⟨fun _ => ?_, fun e => absurd e q⟩
      rw [h4]
      exact wp_isIn ⟨fun e => absurd q2 e, fun _ => hK _⟩
  · unfold wp_X12_found
    exact ⟨fun e => absurd q e, fun _ => hK _⟩
theorem pr_foundOf {x1 x2 x3 top isF fB : Int32} {A B : Nat → Int32} {z : Nat → Int} {K : Int32 → Int32 → Prop} (hf : fnd top isF fB) (h : ¬ isF = 0 → rl 75 A B z) (hK : ∀ r, K r r) : wp_X11_foundOf x1 x2 x3 top A (fun r => wp_X12_foundOf x1 x2 x3 isF B (fun r2 => K r r2)) := by
  unfold wp_X11_foundOf
  refine wp_names ⟨fun q => wp_isThere hf ⟨fun q2 => ?_, fun q2 => ?_⟩, fun q => ?_⟩
  · obtain ⟨a, b, c, ha, hb, hc, rfl, rfl, rfl⟩ := nmO_in q
    refine wp_index ⟨vpn (by omega) (by decide), ?_⟩
    unfold wp_X12_foundOf
    refine wp_isNumber ⟨fun _ => ⟨fun e => absurd e q2, fun _ => wp_placeOf ⟨vpn (by omega) (by decide), ?_⟩⟩, fun e => absurd e q⟩
    rw [cln (by omega), (h q2 _ (by omega)).2, (h q2 _ (by omega)).1]
    exact wp_told (hK _)
  · unfold wp_X12_foundOf
    exact wp_isNumber ⟨fun _ => ⟨fun _ => hK _, fun e => absurd q2 e⟩, fun e => absurd e q⟩
  · unfold wp_X12_foundOf
    exact wp_isNumber ⟨fun e => absurd q e, fun _ => hK _⟩
