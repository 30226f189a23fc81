/-! search: the class, columns one by one -/
/-- a row whose numbers may be told either way -/
def raA (n : Nat) (A : Nat → Int32) (z : Nat → Int) : Prop := ∀ i, i < n → cg (A i).toInt (z i) ∧ -10006 ≤ (A i).toInt ∧ (A i).toInt ≤ 10006
theorem raA.zero {n : Nat} {A : Nat → Int32} {z : Nat → Int} (h : raA n A z) {i : Nat} (hi : i < n) : A i = 0 ↔ cg (z i) 0 := by
  obtain ⟨h1, h2, h3⟩ := h i hi
  constructor
  · intro e
    rw [e] at h1
    exact h1.sy
  · intro e
    have e2 := h1.tr e
    refine ieq ?_
    rw [show (0 : Int32).toInt = 0 from rfl]
    unfold cg at e2
    omega
theorem fA.ra {n : Nat} {A : Nat → Int32} {z : Nat → Int} (h : fA n A z) : raA n A z := fun i hi => by
  have hb := fdI_b (z i)
  rw [h i hi, fdI_t]
  exact ⟨cg_bm _, by omega, by omega⟩
theorem raA.cc {n : Nat} {A : Nat → Int32} {z w : Nat → Int} (h : raA n A z) (e : ∀ i, i < n → cg (z i) (w i)) : raA n A w := fun i hi => ⟨(h i hi).1.tr (e i hi), (h i hi).2⟩
theorem raA.g {n : Nat} {A : Nat → Int32} {z : Nat → Int} (h : raA n A z) (i : Nat) (hi : i < n) : cg (A i).toInt (z i) ∧ -10006 ≤ (A i).toInt ∧ (A i).toInt ≤ 10006 := h i hi
theorem raA.up {n : Nat} {A : Nat → Int32} {z : Nat → Int} (h : raA n A z) (j : Nat) {x : Int32} {w : Int} (h1 : cg x.toInt w) (h2 : -10006 ≤ x.toInt ∧ x.toInt ≤ 10006) : raA n (upd A j x) (zu z j w) := by
  intro i hi
  by_cases e : i = j
  · rw [zu_p e, e, pk_us]
    exact ⟨h1, h2⟩
  · rw [zu_n e, pk_un e]
    exact h i hi
theorem fold_ra {x : Int32} {z : Int} (h : cg x.toInt z) {K : Int32 → Prop} (hK : K (fdI z)) : wp_X3_fold x.toInt64 K := fd_long (i2l_t rfl) h hK
/-- the remainder as the machine makes it -/
theorem rem_ra {x : Int32} {w : Int} (h : x.toInt = w) {z : Int} (hz : cg w z) : cg (x - x / (10007 : Int32) * (10007 : Int32)).toInt z ∧ -10006 ≤ (x - x / (10007 : Int32) * (10007 : Int32)).toInt ∧ (x - x / (10007 : Int32) * (10007 : Int32)).toInt ≤ 10006 := by
  rw [irem_t h (y := 10007) rfl (by decide)]
  have e3 : w.tmod 10007 < 10007 := Int.tmod_lt_of_pos w (by decide)
  have e4 : -10007 < w.tmod 10007 := by
    rcases Int.le_total 0 w with g | g
    · have := Int.tmod_nonneg 10007 g
      omega
    · have := Int.neg_tmod (a := -w) (b := 10007)
      have h2 := Int.tmod_lt_of_pos (-w) (b := 10007) (by decide)
      rw [Int.neg_neg] at this
      omega
  exact ⟨(cg_tm w).tr hz, by omega, by omega⟩
def flat (Z : Nat → Nat → Int) : Nat → Int := fun r => Z (r / 9) (r % 9)
theorem fG_flat {A : Nat → Int32} {Z : Nat → Nat → Int} (h : fG 9 25 A Z) : fA 225 A (flat Z) := fun r hr => by
  have e : A r = A (9 * (r / 9) + r % 9) := by
    congr 1
    omega
  rw [e]
  exact h (r / 9) (r % 9) (by omega) (by omega)
theorem mG_flat {A : Nat → Int32} {Z : Nat → Nat → Int} (h : mG 9 25 A Z) : mA 225 A (flat Z) := fun r hr => by
  have e : A r = A (9 * (r / 9) + r % 9) := by
    congr 1
    omega
  rw [e]
  exact h (r / 9) (r % 9) (by omega) (by omega)
/-- base times x to the i, s to the j -/
theorem wp_shift {i j : Nat} {A D : Nat → Int32} {Y : Nat → Nat → Int} {K : (Nat → Int32) → Prop} (hi : i ≤ 4) (hj : j ≤ 8) (hD : fG 9 25 D Y) (hK : ∀ A', fG 9 25 A' (shz i j Y) → K A') : wp_X8_shift (nI i) (nI j) A D K := by
  unfold wp_X8_shift
  refine wp_fill_spec (by decide) ?_
  have h0 : fG 9 25 (fun t => if t < 225 then 0 else A t) (fun _ _ => 0) := fun u v hu hv => by
    show (if 9 * u + v < 225 then (0 : Int32) else A _) = fdI 0
    rw [if_pos (by omega), fdI_z]
  generalize (fun t => if t < 225 then 0 else A t) = A0 at h0
  refine V_X8_shift_10 25 (fun u g => i ≤ u ∧ fG 9 25 g (fun u' v' => if u' < u then shz i j Y u' v' else 0)) (fun k g e => ?_) (fun k u g hu e ih => ?_) (i := i) (by omega) ⟨Nat.le_refl i, h0.ex (fun u' v' _ _ => ?_)⟩
  · unfold lp_X8_shift_10
    exact br_t (nle (Nat.le_refl 25) (by decide)) (hK _ (e.2.ex (fun u' v' hu' hv' => if_pos hu')))
  · obtain ⟨h1, e⟩ := e
    unfold lp_X8_shift_10
    refine br_f (ngt (b := 25) hu (by decide)) ?_
    refine V_X8_shift_19 9 (fun v a g2 => nI u = a ∧ j ≤ v ∧ fG 9 25 g2 (fun u' v' => if u' < u ∨ (u' = u ∧ v' < v) then shz i j Y u' v' else 0)) (fun k2 a g2 e2 => ?_) (fun k2 v a g2 hv e2 ih2 => ?_) (i := j) (by omega) ⟨rfl, Nat.le_refl j, e.ex (fun u' v' _ _ => ?_)⟩
    · obtain ⟨r1, -, e2⟩ := e2
      subst r1
      unfold lp_X8_shift_19
      refine br_t (nle (Nat.le_refl 9) (by decide)) ?_
      unfold jn_X8_shift_60
      refine ih _ ⟨by omega, e2.ex (fun u' v' _ _ => ?_)⟩
      by_cases q : u' < u ∨ (u' = u ∧ v' < 9)
      · rw [if_pos q, if_pos (by omega)]
      · rw [if_neg q, if_neg (by omega)]
    · obtain ⟨r1, h2, e2⟩ := e2
      subst r1
      unfold lp_X8_shift_19
      refine br_f (ngt (b := 9) hv (by decide)) ?_
      rw [pk_sub h1, at9, at9, pk_sub (by omega)]
      refine ⟨vpn (by omega) (by decide), fun y q => ⟨vpn (by omega) (by decide), ?_⟩⟩
      rw [cln (by omega), show 9 * (u - i) + v - j = 9 * (u - i) + (v - j) by omega, hD.g (u - i) (v - j) (by omega) (by omega)] at q
      subst q
      rw [cln (by omega)]
      refine ih2 _ _ ⟨rfl, by omega, (e2.up hv _).ex (fun u' v' _ _ => ?_)⟩
      by_cases q : u' = u ∧ v' = v
      · rw [zu2_p q, if_pos (by omega), q.1, q.2]
        unfold shz
        rw [if_pos ⟨h1, h2⟩]
      · rw [zu2_n q]
        by_cases q2 : u' < u ∨ (u' = u ∧ v' < v)
        · rw [if_pos q2, if_pos (by omega)]
        · rw [if_neg q2, if_neg (by omega)]
    · by_cases q : u' < u
      · rw [if_pos q, if_pos (Or.inl q)]
      · rw [if_neg q]
        by_cases q2 : u' < u ∨ (u' = u ∧ v' < j)
        · rw [if_pos q2]
          unfold shz
          rw [if_neg (by omega)]
        · rw [if_neg q2]
  · by_cases q : u' < i
    · rw [if_pos q]
      unfold shz
      rw [if_neg (by omega)]
    · rw [if_neg q]
/-- what steps explain, one by one -/
def rsd (S : Nat → Nat → Int) (l : Nat → Nat) (z : Nat → Int) : Nat → Nat → Int
  | 0 => z
  | j + 1 => fun r => rsd S l z j r - rsd S l z j (l j) * S j r
/-- the steps as the class holds them -/
def StR (n : Nat) (St Ld En : Nat → Int32) (S : Nat → Nat → Int) (l : Nat → Nat) : Prop := n ≤ 84 ∧ (∀ j, j < n → (∀ r, r < 225 → St (225 * j + r) = fdI (S j r)) ∧ Ld j = nI (l j) ∧ l j < 225 ∧ ∃ e : Nat, En j = nI e ∧ e < 225 ∧ l j ≤ e ∧ ∀ r, r < 225 → (r < l j ∨ e < r) → cg (S j r) 0)
theorem wp_explained {n : Nat} {St Ld En A Sh : Nat → Int32} {S : Nat → Nat → Int} {l : Nat → Nat} {z : Nat → Int} {K : Int32 → (Nat → Int32) → (Nat → Int32) → Prop} (h : StR n St Ld En S l) (hA : raA 225 A z)
    (hK : ∀ r A' Sh', raA 225 A' (rsd S l z n) → raA n Sh' (fun j => rsd S l z j (l j)) → ((r = 1 ∧ ∀ i, i < 225 → cg (rsd S l z n i) 0) ∨ (r = 0 ∧ ¬ ∀ i, i < 225 → cg (rsd S l z n i) 0)) → K r A' Sh') : wp_X8_explained (nI n) St Ld En A Sh K := by
  unfold wp_X8_explained
  obtain ⟨hn, h⟩ := h
  refine V_X8_explained_2 n (fun j g g2 => raA 225 g (rsd S l z j) ∧ raA j g2 (fun j => rsd S l z j (l j))) (fun k g g2 e => ?_) (fun k j g g2 hj e ih => ?_) (i := 0) (Nat.zero_le _) ⟨hA, fun i hi => absurd hi (Nat.not_lt_zero i)⟩
  · obtain ⟨e1, e2⟩ := e
    unfold lp_X8_explained_2
    refine br_t (nle (Nat.le_refl n) (by omega)) ?_
    unfold jn_X8_explained_100
    refine wp_highest (by decide) ?_
    rcases hi_cases g 225 (by decide) with ⟨h1, h2⟩ | ⟨m, h1, h2, h3, h4⟩
    · rw [h1]
      exact br_f (by decide) (hK _ _ _ e1 e2 (Or.inl ⟨rfl, fun i hi => (e1.zero hi).mp (h2 i hi)⟩))
    · rw [h2]
      exact br_t (nI_pos' (by omega)) (hK _ _ _ e1 e2 (Or.inr ⟨rfl, fun q => h3 ((e1.zero h1).mpr (q m h1))⟩))
  · obtain ⟨e1, e2⟩ := e
    obtain ⟨g1, g3, g4, ee, g5, g6, g7, g8⟩ := h j hj
    unfold lp_X8_explained_2
    refine br_f (ngt hj (by omega)) ⟨vpn (by omega) (by decide), ?_⟩
    rw [cln (by omega), g3]
    refine ⟨vpn g4 (by decide), fun y3 q3 => ?_⟩
    rw [cln (by omega)] at q3
    subst q3
    have hf := e1 (l j) g4
    have hsh : raA (j + 1) (upd g2 j (g (l j))) (fun j => rsd S l z j (l j)) := fun i hi => by
      by_cases c : i = j
      · rw [c, pk_us]
        exact hf
      · rw [pk_un c]
        exact e2 i (by omega)
    refine ⟨fun q => ?_, fun q y4 q4 y5 q5 => ?_⟩
    · unfold jn_X8_explained_94
      have q0 := (e1.zero g4).mp q
      refine ih _ _ ⟨e1.cc (fun r hr => ?_), hsh⟩
      show cg (rsd S l z j r) (rsd S l z j r - rsd S l z j (l j) * S j r)
      have := cg.sub (cg.rf (a := rsd S l z j r)) (cg0_mul (b := S j r) q0)
      rw [Int.sub_zero] at this
      exact this.sy
    · rw [show (225 : Int32) = nI 225 from rfl, pk_mul] at q4
      subst q4 q5
      refine V_X8_explained_47 (ee + 1) (fun t a b c g4 g5 => nI j = a ∧ g (l j) = b ∧ nI (j * 225) = c ∧ l j ≤ t ∧ upd g2 j (g (l j)) = g5 ∧ raA 225 g4 (fun r => if l j ≤ r ∧ r < t then rsd S l z j r - rsd S l z j (l j) * S j r else rsd S l z j r)) (fun k2 a b c g9 g10 e3 => ?_) (fun k2 t a b c g9 g10 ht e3 ih3 => ?_) (i := l j) (by omega) ⟨rfl, rfl, rfl, Nat.le_refl _, rfl, e1.cc (fun r hr => ?_)⟩
      · obtain ⟨r1, r2, r3, -, r4, e3⟩ := e3
        subst r1 r2 r3 r4
        unfold lp_X8_explained_47
        refine ⟨vpn (by omega) (by decide), ?_⟩
        rw [cln (by omega), g5]
        refine br_t (nI_lt (by omega) (by omega)) ?_
        unfold jn_X8_explained_94
        refine ih _ _ ⟨e3.cc (fun r hr => ?_), hsh⟩
        by_cases c : l j ≤ r ∧ r < ee + 1
        · rw [if_pos c]
          exact cg.rf
        · rw [if_neg c]
          show cg (rsd S l z j r) (rsd S l z j r - rsd S l z j (l j) * S j r)
          have z0 := g8 r hr (by omega)
          have := cg.sub (cg.rf (a := rsd S l z j r)) (cg0_mul (b := rsd S l z j (l j)) z0)
          rw [Int.sub_zero, Int.mul_comm (S j r)] at this
          exact this.sy
      · obtain ⟨r1, r2, r3, ht1, r4, e3⟩ := e3
        subst r1 r2 r3 r4
        unfold lp_X8_explained_47
        refine ⟨vpn (by omega) (by decide), ?_⟩
        rw [cln (by omega), g5]
        refine br_f (nI_nlt (by omega) (by omega)) ⟨vpn (by omega) (by decide), ?_⟩
        rw [nI_add, show j * 225 + t = 225 * j + t by omega]
        refine ⟨vpn (by omega) (by decide), fun y6 q6 => ?_⟩
        have hb2 := fdI_b (S j t)
        have hct := e3.g t (by omega)
        rw [if_neg (by omega)] at hct
        have hm := mb (X := 10006) (Y := 5003) hf.2 hb2
        rw [cln (by omega), cln (by omega), g1 t (by omega)] at q6
        have hr := rem_ra (is' (a := g9 t) (b := g (l j) * fdI (S j t)) rfl (im rfl (fdI_t _) (by omega)) (by omega)) (cg.sub hct.1 (cg.mul hf.1 (cg_bm (S j t))))
        rw [← q6] at hr
        rw [cln (by omega)]
        refine ih3 _ _ _ _ _ ⟨rfl, rfl, rfl, by omega, rfl, (e3.up t hr.1 hr.2).cc (fun r hr => ?_)⟩
        by_cases c : r = t
        · rw [zu_p c, if_pos (by omega), c]
          exact cg.rf
        · rw [zu_n c]
          by_cases c2 : l j ≤ r ∧ r < t
          · rw [if_pos c2, if_pos (by omega)]
            exact cg.rf
          · rw [if_neg c2, if_neg (by omega)]
            exact cg.rf
      · rw [if_neg (by omega)]
        exact cg.rf
/-- the first place that isn't 0 -/
theorem wp_firstOther {A : Nat → Int32} {K : Int32 → Prop} (h : ¬ ∀ i, i < 225 → A i = 0) (hK : ∀ m, m < 225 → ¬ A m = 0 → (∀ i, i < m → A i = 0) → K (nI m)) : wp_X8_firstOther A K := by
  unfold wp_X8_firstOther
  refine V_X8_firstOther_2 225 (fun m => ∀ i, i < m → A i = 0) (fun k e => absurd e h) (fun k m hm e ih => ?_) (i := 0) (Nat.zero_le _) (fun i hi => absurd hi (Nat.not_lt_zero i))
  unfold lp_X8_firstOther_2
  refine br_f (ngt (b := 225) hm (by decide)) ⟨vpn hm (by decide), ?_⟩
  rw [cln (by omega)]
  refine ⟨fun q => ih (fun i hi => ?_), fun q => hK m hm q e⟩
  by_cases c : i = m
  · rw [c]
    exact q
  · exact e i (by omega)
