/-! racks -/
def zr10 (A : Nat → Int32) (j t : Nat) : Nat → Int32 := fun i => if 10 * j ≤ i ∧ i < 10 * j + t then 0 else A i
theorem zr10_0 (A : Nat → Int32) (j : Nat) : zr10 A j 0 = A := by
  funext i
  exact if_neg (by omega)
theorem zr10_s (A : Nat → Int32) (j t : Nat) : upd (zr10 A j t) (10 * j + t) (vp_nar .boolean 0) = zr10 A j (t + 1) := by
  funext i
  unfold upd zr10
  by_cases e : i = 10 * j + t
  · rw [if_pos e, if_pos (by omega)]
    rfl
  · rw [if_neg e]
    by_cases e2 : 10 * j ≤ i ∧ i < 10 * j + t
    · rw [if_pos e2, if_pos (by omega)]
    · rw [if_neg e2, if_neg (by omega)]
def cp10 (A : Nat → Int32) (j o t : Nat) : Nat → Int32 := fun i => if 10 * o ≤ i ∧ i < 10 * o + t then A (10 * j + (i - 10 * o)) else A i
theorem cp10_0 (A : Nat → Int32) (j o : Nat) : cp10 A j o 0 = A := by
  funext i
  exact if_neg (by omega)
theorem cp10_at (A : Nat → Int32) {j o t : Nat} (ht : t < 10) : cp10 A j o t (10 * j + t) = A (10 * j + t) := by
  unfold cp10
  by_cases e : 10 * o ≤ 10 * j + t ∧ 10 * j + t < 10 * o + t
  · exact absurd e (by omega)
  · rw [if_neg e]
theorem cp10_s (A : Nat → Int32) {j o t : Nat} : upd (cp10 A j o t) (10 * o + t) (A (10 * j + t)) = cp10 A j o (t + 1) := by
  funext i
  unfold upd cp10
  by_cases e : i = 10 * o + t
  · rw [if_pos e, if_pos (by omega), e, show 10 * o + t - 10 * o = t by omega]
  · rw [if_neg e]
    by_cases e2 : 10 * o ≤ i ∧ i < 10 * o + t
    · rw [if_pos e2, if_pos (by omega)]
    · rw [if_neg e2, if_neg (by omega)]
theorem bnar {y : Int32} (h : y = 0 ∨ y = 1) : vp_nar .boolean y = y := by
  rcases h with h | h <;> rw [h] <;> rfl
theorem bnar' {y : Int32} (h : y = 0 ∨ y = 1) : narrow .boolean (.int y) = .int y := by
  rcases h with h | h <;> rw [h] <;> rfl
/-- kinds, sizes, things, whether full: class, model -/
def rkR (k s t F k' s' t' F' : Nat → Int32) : Prop :=
  (∀ i, i < 3 → k' i = k i ∧ s' i = s i ∧ ((k i = -1 ∧ s i = 0) ∨ ((∃ c : Nat, c ≤ 2 ∧ k i = nI c) ∧ (∃ m : Nat, m ≤ 10 ∧ s i = nI m) ∧ ∀ x, x < 10 → F' (10 * i + x) = F (10 * i + x) ∧ (F (10 * i + x) = 0 ∨ F (10 * i + x) = 1)))) ∧ ∀ i, i < 30 → t' i = t i
theorem nI_ne_m1 {c : Nat} (h : c < 1000) : ¬ nI c = -1 := by
  intro e
  have := congrArg Int32.toInt e
  rw [nI_t (by omega), show (-1 : Int32).toInt = -1 from rfl] at this
  omega
theorem pr_rack {x1 x2 x3 : Int32} {k s t F k' s' t' F' : Nat → Int32} {K : Int32 → (Nat → Int32) → (Nat → Int32) → (Nat → Int32) → Int32 → (Nat → Int32) → (Nat → Int32) → (Nat → Int32) → Prop} (h : rkR k s t F k' s' t' F')
    (hK : ∀ r k2 s2 F2 k2' s2' F2', rkR k2 s2 t F2 k2' s2' t' F2' → K r k2 s2 F2 r k2' s2' F2') : wp_X11_rack x1 x2 x3 k s F (fun r k2 s2 F2 => wp_X12_rack x1 x2 x3 k' s' F' (fun r2 k2' s2' F2' => K r k2 s2 F2 r2 k2' s2' F2')) := by
  unfold wp_X11_rack
  refine wp_within ⟨fun q => ?_, fun q => wp_within ⟨fun q2 => ⟨fun q3 => ⟨fun q4 => ⟨fun q5 => ?_, fun q5 => ?_⟩, fun q4 => ?_⟩, fun q3 => ?_⟩, fun q2 => ?_⟩⟩
  · unfold wp_X12_rack
    exact wp_isRack (br_t q (hK _ _ _ _ _ _ _ h))
  · obtain ⟨j, hj, rfl⟩ := btw_n (N := 2) (by decide) q
    have hb := btw_i q2
    have k1 : (-1 : Int32).toInt = -1 := rfl
    have k2 : (2 : Int32).toInt = 2 := rfl
    have hne : x2.toInt ≠ -1 := fun e => q3 (ieq e)
    obtain ⟨c, hc, rfl⟩ : ∃ c : Nat, c ≤ 2 ∧ x2 = nI c := ⟨x2.toInt.toNat, by omega, i_nI (by omega)⟩
    have k10 : (10 : Int32).toInt = 10 := rfl
    have g4 := Int32.le_iff_toInt_le.mp q4
    have g5 := Int32.le_iff_toInt_le.mp q5
    have k0 : (0 : Int32).toInt = 0 := rfl
    obtain ⟨m, hm, rfl⟩ : ∃ m : Nat, m ≤ 10 ∧ x3 = nI m := ⟨x3.toInt.toNat, by omega, i_nI (by omega)⟩
    unfold wp_X6_make
    refine ⟨vpn (by omega) (by decide), ?_⟩
    rw [cln (by omega)]
    refine V_X6_make_17 10 (fun i a b g => upd k j (nI c) = a ∧ upd s j (nI m) = b ∧ zr10 F j i = g) (fun kk a b g e => ?_) (fun kk i a b g hi e ih => ?_) (i := 0) (Nat.zero_le _) ⟨rfl, rfl, zr10_0 _ _⟩
    · obtain ⟨e1, e2, e3⟩ := e
      subst e1 e2 e3
      unfold lp_X6_make_17
      refine br_t (nle (Nat.le_refl 10) (by decide)) ?_
      unfold wp_X12_rack
      refine wp_isRack (br_f q (wp_isIn (rb_f q2 (br_f (nlt0 (by omega)) (br_t q4 ?_)))))
      unfold jn_X12_rack_31
      refine br_f (nlt0 (by omega)) (br_t q5 ?_)
      unfold jn_X12_rack_42
      refine ⟨vpn (by omega) (by decide), br_t (nI_pos' (by omega)) ?_⟩
      unfold jn_X12_rack_63
      refine ⟨vpn (by omega) (by decide), ?_⟩
      rw [cln (by omega)]
      refine V_X12_rack_67 10 (fun i a b g => upd k' j (nI c) = a ∧ upd s' j (nI m) = b ∧ zr10 F' j i = g) (fun kk a b g e => ?_) (fun kk i a b g hi e ih => ?_) (i := 0) (Nat.zero_le _) ⟨rfl, rfl, zr10_0 _ _⟩
      · obtain ⟨e1, e2, e3⟩ := e
        subst e1 e2 e3
        unfold lp_X12_rack_67
        refine br_t (nle (Nat.le_refl 10) (by decide)) (hK _ _ _ _ _ _ _ ⟨fun i hi => ?_, h.2⟩)
        by_cases e : i = j
        · subst e
          rw [pk_us, pk_us, pk_us, pk_us]
          refine ⟨rfl, rfl, Or.inr ⟨⟨c, hc, rfl⟩, ⟨m, hm, rfl⟩, fun x hx => ?_⟩⟩
          have z1 : zr10 F i 10 (10 * i + x) = 0 := if_pos (by omega)
          have z2 : zr10 F' i 10 (10 * i + x) = 0 := if_pos (by omega)
          rw [z1, z2]
          exact ⟨rfl, Or.inl rfl⟩
        · rw [pk_un e, pk_un e, pk_un e, pk_un e]
          obtain ⟨a1, a2, a3⟩ := h.1 i hi
          refine ⟨a1, a2, a3.imp id (fun ⟨b1, b2, b3⟩ => ⟨b1, b2, fun x hx => ?_⟩)⟩
          have z1 : zr10 F j 10 (10 * i + x) = F (10 * i + x) := if_neg (by omega)
          have z2 : zr10 F' j 10 (10 * i + x) = F' (10 * i + x) := if_neg (by omega)
          rw [z1, z2]
          exact b3 x hx
      · obtain ⟨e1, e2, e3⟩ := e
        subst e1 e2 e3
        unfold lp_X12_rack_67
        refine br_f (ngt (b := 10) hi (by decide)) ?_
        rw [at10']
        refine ⟨vpn (by omega) (by decide), ?_⟩
        rw [cln (by omega), zr10_s]
        exact ih _ _ _ ⟨rfl, rfl, rfl⟩
    · obtain ⟨e1, e2, e3⟩ := e
      subst e1 e2 e3
      unfold lp_X6_make_17
      refine br_f (ngt (b := 10) hi (by decide)) ?_
      rw [at10]
      refine ⟨vpn (by omega) (by decide), ?_⟩
      rw [cln (by omega), zr10_s]
      exact ih _ _ _ ⟨rfl, rfl, rfl⟩
  · have hp : ¬ x2 < 0 := by
      have hb := btw_i q2
      have k1 : (-1 : Int32).toInt = -1 := rfl
      have hne : x2.toInt ≠ -1 := fun e => q3 (ieq e)
      rw [Int32.lt_iff_toInt_lt, show (0 : Int32).toInt = 0 from rfl]
      omega
    unfold wp_X12_rack
    refine wp_isRack (br_f q (wp_isIn (rb_f q2 (br_f hp (br_t q4 ?_)))))
    unfold jn_X12_rack_31
    exact br_f hp (br_f q5 (hK _ _ _ _ _ _ _ h))
  · have hp : ¬ x2 < 0 := by
      have hb := btw_i q2
      have k1 : (-1 : Int32).toInt = -1 := rfl
      have hne : x2.toInt ≠ -1 := fun e => q3 (ieq e)
      rw [Int32.lt_iff_toInt_lt, show (0 : Int32).toInt = 0 from rfl]
      omega
    unfold wp_X12_rack
    exact wp_isRack (br_f q (wp_isIn (rb_f q2 (br_f hp (br_f q4 (hK _ _ _ _ _ _ _ h))))))
  · obtain ⟨j, hj, rfl⟩ := btw_n (N := 2) (by decide) q
    subst q3
    unfold wp_X6_drop
    refine ⟨vpn (by omega) (by decide), ?_⟩
    rw [cln (by omega)]
    unfold wp_X12_rack
    refine wp_isRack (br_f q (wp_isIn (rb_f q2 (br_t (by decide) ?_))))
    unfold jn_X12_rack_31
    refine br_t (by decide) ?_
    unfold jn_X12_rack_42
    refine ⟨vpn (by omega) (by decide), br_f (by decide) ?_⟩
    unfold jn_X12_rack_63
    refine ⟨vpn (by omega) (by decide), ?_⟩
    rw [cln (by omega)]
    refine V_X12_rack_67 10 (fun i a b g => upd k' j (-1) = a ∧ upd s' j 0 = b ∧ zr10 F' j i = g) (fun kk a b g e => ?_) (fun kk i a b g hi e ih => ?_) (i := 0) (Nat.zero_le _) ⟨rfl, rfl, zr10_0 _ _⟩
    · obtain ⟨e1, e2, e3⟩ := e
      subst e1 e2 e3
      unfold lp_X12_rack_67
      refine br_t (nle (Nat.le_refl 10) (by decide)) (hK _ _ _ _ _ _ _ ⟨fun i hi => ?_, h.2⟩)
      by_cases e : i = j
      · subst e
        rw [pk_us, pk_us, pk_us, pk_us]
        exact ⟨rfl, rfl, Or.inl ⟨rfl, rfl⟩⟩
      · rw [pk_un e, pk_un e, pk_un e, pk_un e]
        obtain ⟨a1, a2, a3⟩ := h.1 i hi
        refine ⟨a1, a2, a3.imp id (fun ⟨b1, b2, b3⟩ => ⟨b1, b2, fun x hx => ?_⟩)⟩
        have z2 : zr10 F' j 10 (10 * i + x) = F' (10 * i + x) := if_neg (by omega)
        rw [z2]
        exact b3 x hx
    · obtain ⟨e1, e2, e3⟩ := e
      subst e1 e2 e3
      unfold lp_X12_rack_67
      refine br_f (ngt (b := 10) hi (by decide)) ?_
      rw [at10']
      refine ⟨vpn (by omega) (by decide), ?_⟩
      rw [cln (by omega), zr10_s]
      exact ih _ _ _ ⟨rfl, rfl, rfl⟩
  · unfold wp_X12_rack
    exact wp_isRack (br_f q (wp_isIn (rb_t q2 (hK _ _ _ _ _ _ _ h))))
theorem btw_sm {x : Int32} {m : Nat} (hm : m < 1000) (h : ¬ btw x 0 (nI m - 1) = 0) : ∃ t : Nat, t < m ∧ x = nI t := by
  have hb := btw_i h
  have e1 : (nI m - 1).toInt = (m : Int) - 1 := is' (nI_t (by omega)) rfl (by have k1 : (1 : Int32).toInt = 1 := rfl; omega)
  have k0 : (0 : Int32).toInt = 0 := rfl
  rw [e1, k0] at hb
  exact ⟨x.toInt.toNat, by omega, i_nI (by omega)⟩
theorem pr_store {x1 x2 x3 x4 : Int32} {k s t F k' s' t' F' : Nat → Int32} {K : Int32 → (Nat → Int32) → (Nat → Int32) → Int32 → (Nat → Int32) → (Nat → Int32) → Prop} (h : rkR k s t F k' s' t' F')
    (hK : ∀ r t2 F2 t2' F2', rkR k s t2 F2 k' s' t2' F2' → K r t2 F2 r t2' F2') : wp_X11_store x1 x2 x3 x4 k s t F (fun r t2 F2 => wp_X12_store x1 x2 x3 x4 k' s' t' F' (fun r2 t2' F2' => K r t2 F2 r2 t2' F2')) := by
  unfold wp_X11_store
  refine wp_within ⟨fun q => ?_, fun q => wp_within ⟨fun q2 => ?_, fun q2 => ?_⟩⟩
  · unfold wp_X12_store
    exact wp_isRack (br_t q (hK _ _ _ _ _ h))
  · obtain ⟨j, hj, rfl⟩ := btw_n (N := 2) (by decide) q
    refine ⟨vpn (by omega) (by decide), ?_⟩
    rw [cln (by omega)]
    obtain ⟨a1, a2, a3⟩ := h.1 j (by omega)
    rcases a3 with ⟨b1, b2⟩ | ⟨⟨c, hc, ec⟩, ⟨m, hm, em⟩, b3⟩
    · refine rb_t b1 ?_
      unfold wp_X12_store
      refine wp_isRack (br_f q (wp_isIn (rb_f q2 ⟨vpn (by omega) (by decide), ?_⟩)))
      rw [cln (by omega), a1, b1]
      exact br_f (by decide) (hK _ _ _ _ _ h)
    · have hk1 : ¬ k j = -1 := by rw [ec]; exact nI_ne_m1 (by omega)
      refine rb_f hk1 ?_
      rw [em]
      refine wp_within ⟨fun q4 => ⟨fun q5 => ?_, fun q5 => ?_⟩, fun q4 => ?_⟩
      · obtain ⟨x, hx, rfl⟩ := btw_sm (by omega) q4
        unfold wp_X6_bring
        rw [at10]
        refine ⟨vpn (by omega) (by decide), ?_⟩
        rw [cln (by omega)]
        unfold wp_X12_store
        refine wp_isRack (br_f q (wp_isIn (rb_f q2 ⟨vpn (by omega) (by decide), ?_⟩)))
        rw [cln (by omega), a1, a2, em]
        refine br_t (by rw [ec]; exact nI_pos' (by omega)) (wp_isIn (rb_f q4 (br_t q5 ?_)))
        rw [at10']
        refine ⟨vpn (by omega) (by decide), ?_⟩
        rw [cln (by omega)]
        refine hK _ _ _ _ _ ⟨fun i hi => ?_, fun i hi => ?_⟩
        · obtain ⟨c1, c2, c3⟩ := h.1 i hi
          refine ⟨c1, c2, c3.imp id (fun ⟨d1, d2, d3⟩ => ⟨d1, d2, fun y hy => ?_⟩)⟩
          by_cases e : 10 * i + y = 10 * j + x
          · rw [e, pk_us, pk_us]
            exact ⟨rfl, Or.inr rfl⟩
          · rw [pk_un e, pk_un e]
            exact d3 y hy
        · by_cases e : i = 10 * j + x
          · rw [e, pk_us, pk_us]
          · rw [pk_un e, pk_un e]
            exact h.2 i hi
      · unfold wp_X12_store
        refine wp_isRack (br_f q (wp_isIn (rb_f q2 ⟨vpn (by omega) (by decide), ?_⟩)))
        rw [cln (by omega), a1, a2, em]
        exact br_t (by rw [ec]; exact nI_pos' (by omega)) (wp_isIn (rb_f q4 (br_f q5 (hK _ _ _ _ _ h))))
      · unfold wp_X12_store
        refine wp_isRack (br_f q (wp_isIn (rb_f q2 ⟨vpn (by omega) (by decide), ?_⟩)))
        rw [cln (by omega), a1, a2, em]
        exact br_t (by rw [ec]; exact nI_pos' (by omega)) (wp_isIn (rb_t q4 (hK _ _ _ _ _ h)))
  · unfold wp_X12_store
    exact wp_isRack (br_f q (wp_isIn (rb_t q2 (hK _ _ _ _ _ h))))
theorem pr_thing {x1 x2 : Int32} {k s t F k' s' t' F' : Nat → Int32} {K : Int64 → Int64 → Prop} (h : rkR k s t F k' s' t' F') (hK : ∀ r, K r r) : wp_X11_thing x1 x2 k s t F (fun r => wp_X12_thing x1 x2 s' t' F' (fun r2 => K r r2)) := by
  unfold wp_X11_thing
  refine wp_within ⟨fun q => ?_, fun q => ?_⟩
  · unfold wp_X12_thing
    refine wp_isRack (br_t q ?_)
    unfold jn_X12_thing_41 jn_X12_thing_42
    exact br_t rfl (hK _)
  · obtain ⟨j, hj, rfl⟩ := btw_n (N := 2) (by decide) q
    refine ⟨vpn (by omega) (by decide), ?_⟩
    rw [cln (by omega)]
    obtain ⟨a1, a2, a3⟩ := h.1 j (by omega)
    rcases a3 with ⟨b1, b2⟩ | ⟨⟨c, hc, ec⟩, ⟨m, hm, em⟩, b3⟩
    · refine rb_t b1 ?_
      unfold wp_X12_thing
      refine wp_isRack (br_f q ⟨vpn (by omega) (by decide), ?_⟩)
      rw [cln (by omega), a2, b2]
      refine wp_isIn (br_t ?_ ?_)
      · rw [btw_0]
        intro e
        have e1 := Int32.le_iff_toInt_le.mp e.1
        have e2 := Int32.le_iff_toInt_le.mp e.2
        have k0 : (0 : Int32).toInt = 0 := rfl
        have k1 : ((0 : Int32) - 1).toInt = -1 := rfl
        omega
      · unfold jn_X12_thing_41 jn_X12_thing_42
        exact br_t rfl (hK _)
    · have hk1 : ¬ k j = -1 := by rw [ec]; exact nI_ne_m1 (by omega)
      refine rb_f hk1 ?_
      rw [em]
      refine wp_within ⟨fun q4 => ?_, fun q4 => ?_⟩
      · unfold wp_X12_thing
        refine wp_isRack (br_f q ⟨vpn (by omega) (by decide), ?_⟩)
        rw [cln (by omega), a2, em]
        refine wp_isIn (br_t q4 ?_)
        unfold jn_X12_thing_41 jn_X12_thing_42
        exact br_t rfl (hK _)
      · obtain ⟨x, hx, rfl⟩ := btw_sm (by omega) q4
        obtain ⟨f1, f2⟩ := b3 x (by omega)
        unfold wp_X6_holdsAt
        rw [at10, cln (by omega)]
        refine ⟨vpn (by omega) (by decide), bnar' f2, fun q5 => ?_, fun q5 => ?_⟩
        · unfold wp_X6_numberAt
          rw [at10, cln (by omega)]
          refine ⟨vpn (by omega) (by decide), ?_⟩
          unfold wp_X12_thing
          refine wp_isRack (br_f q ⟨vpn (by omega) (by decide), ?_⟩)
          rw [cln (by omega), a2, em]
          refine wp_isIn (br_f q4 ?_)
          rw [at10', cln (by omega), f1]
          refine ⟨vpn (by omega) (by decide), br_f q5 ?_⟩
          unfold jn_X12_thing_42
          rw [at10', cln (by omega), h.2 _ (by omega)]
          exact br_f (by decide) ⟨vpn (by omega) (by decide), hK _⟩
        · unfold wp_X12_thing
          refine wp_isRack (br_f q ⟨vpn (by omega) (by decide), ?_⟩)
          rw [cln (by omega), a2, em]
          refine wp_isIn (br_f q4 ?_)
          rw [at10', cln (by omega), f1]
          refine ⟨vpn (by omega) (by decide), br_t q5 ?_⟩
          unfold jn_X12_thing_41 jn_X12_thing_42
          exact br_t rfl (hK _)
theorem pr_copied {x1 x2 : Int32} {k s t F k' s' t' F' : Nat → Int32} {K : Int32 → (Nat → Int32) → (Nat → Int32) → (Nat → Int32) → (Nat → Int32) → Int32 → (Nat → Int32) → (Nat → Int32) → (Nat → Int32) → (Nat → Int32) → Prop} (h : rkR k s t F k' s' t' F')
    (hK : ∀ r k2 s2 t2 F2 k2' s2' t2' F2', rkR k2 s2 t2 F2 k2' s2' t2' F2' → K r k2 s2 t2 F2 r k2' s2' t2' F2') : wp_X11_copied x1 x2 k s t F (fun r k2 s2 t2 F2 => wp_X12_copied x1 x2 k' s' t' F' (fun r2 k2' s2' t2' F2' => K r k2 s2 t2 F2 r2 k2' s2' t2' F2')) := by
  unfold wp_X11_copied
  refine wp_within ⟨fun q => ?_, fun q => wp_within ⟨fun q2 => ?_, fun q2 => ?_⟩⟩
  · unfold wp_X12_copied
    exact wp_isRack (br_t q (hK _ _ _ _ _ _ _ _ _ h))
  · obtain ⟨j, hj, rfl⟩ := btw_n (N := 2) (by decide) q
    obtain ⟨o, ho, rfl⟩ := btw_n (N := 2) (by decide) q2
    refine ⟨vpn (by omega) (by decide), ?_⟩
    rw [cln (by omega)]
    obtain ⟨a1, a2, a3⟩ := h.1 j (by omega)
    rcases a3 with ⟨b1, b2⟩ | ⟨⟨c, hc, ec⟩, ⟨m, hm, em⟩, b3⟩
    · refine rb_t b1 ?_
      unfold wp_X12_copied
      refine wp_isRack (br_f q (wp_isRack (rb_f q2 ⟨vpn (by omega) (by decide), ?_⟩)))
      rw [cln (by omega), a1, b1]
      exact br_f (by decide) (hK _ _ _ _ _ _ _ _ _ h)
    · have hk1 : ¬ k j = -1 := by rw [ec]; exact nI_ne_m1 (by omega)
      refine rb_f hk1 ?_
      unfold wp_X6_copyTo
      refine ⟨vpn (by omega) (by decide), fun y2 qy2 => ⟨vpn (by omega) (by decide), fun y4 qy4 => ?_⟩⟩
      rw [cln (by omega)] at qy2 qy4
      subst qy2 qy4
      rw [cln (by omega)]
      refine V_X6_copyTo_26 10 (fun i a b g g2 => upd k o (k j) = a ∧ upd s o (s j) = b ∧ cp10 t j o i = g ∧ cp10 F j o i = g2) (fun kk a b g g2 e => ?_) (fun kk i a b g g2 hi e ih => ?_) (i := 0) (Nat.zero_le _) ⟨rfl, rfl, cp10_0 _ _ _, cp10_0 _ _ _⟩
      · obtain ⟨e1, e2, e3, e4⟩ := e
        subst e1 e2 e3 e4
        unfold lp_X6_copyTo_26
        refine br_t (nle (Nat.le_refl 10) (by decide)) ?_
        unfold wp_X12_copied
        refine wp_isRack (br_f q (wp_isRack (rb_f q2 ⟨vpn (by omega) (by decide), ?_⟩)))
        rw [cln (by omega)]
        refine br_t (by rw [a1, ec]; exact nI_pos' (by omega)) (fun y4 qy4 => ⟨vpn (by omega) (by decide), fun y6 qy6 => ?_⟩)
        subst qy4 qy6
        rw [cln (by omega)]
        refine V_X12_copied_54 10 (fun i a b g g2 => upd k' o (k' j) = a ∧ upd s' o (s' j) = b ∧ cp10 t' j o i = g ∧ cp10 F' j o i = g2) (fun kk a b g g2 e => ?_) (fun kk i a b g g2 hi e ih => ?_) (i := 0) (Nat.zero_le _) ⟨rfl, rfl, cp10_0 _ _ _, cp10_0 _ _ _⟩
        · obtain ⟨e1, e2, e3, e4⟩ := e
          subst e1 e2 e3 e4
          unfold lp_X12_copied_54
          refine br_t (nle (Nat.le_refl 10) (by decide)) ?_
          unfold jn_X12_copied_110
          refine ⟨vpn (by omega) (by decide), ?_⟩
          rw [cln (by omega)]
          have es : upd s' o (s' j) j = upd s o (s j) j := by
            by_cases e : j = o
            · rw [← e, pk_us, pk_us, a2]
            · rw [pk_un e, pk_un e, a2]
          rw [es]
          refine hK _ _ _ _ _ _ _ _ _ ⟨fun i hi => ?_, fun i hi => ?_⟩
          · by_cases e : i = o
            · subst e
              rw [pk_us, pk_us, pk_us, pk_us]
              refine ⟨a1, a2, Or.inr ⟨⟨c, hc, ec⟩, ⟨m, hm, em⟩, fun x hx => ?_⟩⟩
              have z1 : cp10 F j i 10 (10 * i + x) = F (10 * j + x) := by
                unfold cp10
                rw [if_pos (by omega), show 10 * i + x - 10 * i = x by omega]
              have z2 : cp10 F' j i 10 (10 * i + x) = F' (10 * j + x) := by
                unfold cp10
                rw [if_pos (by omega), show 10 * i + x - 10 * i = x by omega]
              rw [z1, z2]
              exact b3 x hx
            · rw [pk_un e, pk_un e, pk_un e, pk_un e]
              obtain ⟨c1, c2, c3⟩ := h.1 i hi
              refine ⟨c1, c2, c3.imp id (fun ⟨d1, d2, d3⟩ => ⟨d1, d2, fun x hx => ?_⟩)⟩
              have z1 : cp10 F j o 10 (10 * i + x) = F (10 * i + x) := if_neg (by omega)
              have z2 : cp10 F' j o 10 (10 * i + x) = F' (10 * i + x) := if_neg (by omega)
              rw [z1, z2]
              exact d3 x hx
          · unfold cp10
            by_cases e : 10 * o ≤ i ∧ i < 10 * o + 10
            · rw [if_pos e, if_pos e]
              exact h.2 _ (by omega)
            · rw [if_neg e, if_neg e]
              exact h.2 i hi
        · obtain ⟨e1, e2, e3, e4⟩ := e
          subst e1 e2 e3 e4
          unfold lp_X12_copied_54
          refine br_f (ngt (b := 10) hi (by decide)) ?_
          rw [at10', at10', cln (by omega), cln (by omega)]
          refine ⟨vpn (by omega) (by decide), fun y2 qy2 => ⟨vpn (by omega) (by decide), fun y4 qy4 => ?_⟩⟩
          rw [cp10_at _ hi] at qy2 qy4
          rw [qy2, qy4, bnar (by rw [(b3 i hi).1]; exact (b3 i hi).2), cp10_s, cp10_s]
          exact ih _ _ _ _ ⟨rfl, rfl, rfl, rfl⟩
      · obtain ⟨e1, e2, e3, e4⟩ := e
        subst e1 e2 e3 e4
        unfold lp_X6_copyTo_26
        refine br_f (ngt (b := 10) hi (by decide)) ?_
        rw [at10, at10, cln (by omega), cln (by omega)]
        refine ⟨vpn (by omega) (by decide), fun y2 qy2 => ⟨vpn (by omega) (by decide), fun y4 qy4 => ?_⟩⟩
        rw [cp10_at _ hi] at qy2 qy4
        rw [qy2, qy4, bnar (b3 i hi).2, cp10_s, cp10_s]
        exact ih _ _ _ _ ⟨rfl, rfl, rfl, rfl⟩
  · unfold wp_X12_copied
    exact wp_isRack (br_f q (wp_isRack (rb_t q2 (hK _ _ _ _ _ _ _ _ _ h))))
