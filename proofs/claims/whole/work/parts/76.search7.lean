/-! search: class beside model -/
/-- a column less a sum of others, as one sum over all columns -/
def xz (c r : Nat) (a : Nat → Int) (src : Nat → Nat) : Nat → Int := fun c' => (if c' = c then 1 else 0) - sm (fun j => if src j = c' then a j else 0) r
theorem xz_sum {c r N : Nat} {a : Nat → Int} {src : Nat → Nat} (hc : c < N) (hs : ∀ j, j < r → src j < N) (M : Nat → Int) : sm (fun c' => xz c r a src c' * M c') N = M c - sm (fun j => a j * M (src j)) r := by
  have e1 : sm (fun c' => xz c r a src c' * M c') N = sm (fun c' => if c' = c then M c' else 0) N - sm (fun c' => sm (fun j => if c' = src j then a j * M c' else 0) r) N := by
    rw [← sm_sub]
    refine sm_ext (fun c' _ => ?_)
    unfold xz
    rw [Int.sub_mul, ← sm_mulr]
    congr 1
    · by_cases q : c' = c
      · rw [if_pos q, if_pos q, Int.one_mul]
      · rw [if_neg q, if_neg q, Int.zero_mul]
    · refine sm_ext (fun j _ => ?_)
      by_cases q : src j = c'
      · rw [if_pos q, if_pos q.symm]
      · rw [if_neg q, if_neg (fun q2 => q q2.symm), Int.zero_mul]
  rw [e1, sm_if, if_pos hc, sm_swap]
  congr 1
  refine sm_ext (fun j hj => ?_)
  rw [sm_if (f := fun c' => a j * M c'), if_pos (hs j hj)]
/-- rows may be told in another way: what they tell to be 0 is the same -/
def KE (N : Nat) (C T : Nat → Nat → Int) : Prop := ∀ a : Nat → Int, (∀ r, r < 225 → cg (sm (fun c => a c * T r c) N) 0) ↔ ∀ r, r < 225 → cg (sm (fun c => a c * C c r) N) 0
theorem KE.sw {N p r : Nat} {C T : Nat → Nat → Int} (h : KE N C T) (hp : p < 225) (hr : r < 225) : KE N C (swz T p r) := by
  intro a
  rw [← h a]
  constructor
  · intro g row hrow
    by_cases c1 : row = p
    · have := g r hr
      unfold swz at this
      by_cases c2 : r = p
      · rw [if_pos c2] at this
        rw [c1, ← c2]
        exact this
      · rw [if_neg c2, if_pos rfl] at this
        rw [c1]
        exact this
    · by_cases c2 : row = r
      · have := g p hp
        unfold swz at this
        rw [if_pos rfl] at this
        rw [c2]
        exact this
      · have := g row hrow
        unfold swz at this
        rw [if_neg c1, if_neg c2] at this
        exact this
  · intro g row hrow
    unfold swz
    by_cases c1 : row = p
    · rw [if_pos c1]
      exact g r hr
    · rw [if_neg c1]
      by_cases c2 : row = r
      · rw [if_pos c2]
        exact g p hp
      · rw [if_neg c2]
        exact g row hrow
/-- the whole row operation -/
def rfz (T : Nat → Nat → Int) (r c : Nat) : Nat → Nat → Int := fun row c' => if row = r then T r c' * T r c ^ 10005 else T row c' - T row c * (T r c' * T r c ^ 10005)
theorem rd_rf {T : Nat → Nat → Int} {r c : Nat} {row c' : Nat} (h : c' < c → cg (T r c') 0) : cg (rdz T r c row c') (rfz T r c row c') := by
  unfold rdz rfz
  by_cases q : c ≤ c'
  · rw [if_pos q]
    exact cg.rf
  · rw [if_neg q]
    have h0 := h (by omega)
    by_cases q2 : row = r
    · rw [if_pos q2, q2]
      exact h0.tr (cg0_mul h0).sy
    · rw [if_neg q2]
      have h1 : cg (T row c * (T r c' * T r c ^ 10005)) 0 := by
        rw [Int.mul_comm]
        exact cg0_mul (cg0_mul h0)
      have := cg.sub (cg.rf (a := T row c')) h1
      rw [Int.sub_zero] at this
      exact this.sy
theorem KE.rf {N r c : Nat} {C T : Nat → Nat → Int} (h : KE N C T) (hr : r < 225) (hz : ¬ cg (T r c) 0) : KE N C (rfz T r c) := by
  intro a
  rw [← h a]
  -- the sums of the new rows
  have e0 : sm (fun c' => a c' * rfz T r c r c') N = T r c ^ 10005 * sm (fun c' => a c' * T r c') N := by
    rw [← sm_mul]
    refine sm_ext (fun c' _ => ?_)
    unfold rfz
    rw [if_pos rfl, ← Int.mul_assoc, Int.mul_comm _ (T r c ^ 10005)]
  have e1 : ∀ row, row ≠ r → sm (fun c' => a c' * rfz T r c row c') N = sm (fun c' => a c' * T row c') N - T row c * (T r c ^ 10005 * sm (fun c' => a c' * T r c') N) := by
    intro row hne
    rw [← sm_mul, ← sm_mul, ← sm_sub]
    refine sm_ext (fun c' _ => ?_)
    unfold rfz
    rw [if_neg hne, Int.mul_sub]
    congr 1
    rw [Int.mul_left_comm, ← Int.mul_assoc (a c'), Int.mul_comm (a c' * T r c')]
  constructor
  · intro g
    have g0 : cg (sm (fun c' => a c' * T r c') N) 0 := by
      have := g r hr
      rw [e0] at this
      rcases cg_mul0 this with q | q
      · exact absurd q (cg_pow0 hz 10005)
      · exact q
    intro row hrow
    by_cases q : row = r
    · rw [q]
      exact g0
    · have h1 := g row hrow
      rw [e1 row q] at h1
      have h2 : cg (T row c * (T r c ^ 10005 * sm (fun c' => a c' * T r c') N)) 0 := by
        rw [Int.mul_comm, Int.mul_comm (T r c ^ 10005)]
        exact cg0_mul (cg0_mul g0)
      have := cg.add h1 h2
      rw [Int.sub_add_cancel, Int.add_zero] at this
      exact this
  · intro g row hrow
    have g0 := g r hr
    by_cases q : row = r
    · rw [q, e0, Int.mul_comm]
      exact cg0_mul g0
    · rw [e1 row q]
      have h2 : cg (T row c * (T r c ^ 10005 * sm (fun c' => a c' * T r c') N)) 0 := by
        rw [Int.mul_comm, Int.mul_comm (T r c ^ 10005)]
        exact cg0_mul (cg0_mul g0)
      have := cg.sub (g row hrow) h2
      rw [Int.sub_zero] at this
      exact this
theorem KE.cc {N : Nat} {C T W : Nat → Nat → Int} (h : KE N C T) (q : ∀ r c, r < 225 → c < N → cg (T r c) (W r c)) : KE N C W := by
  intro a
  rw [← h a]
  have e : ∀ r, r < 225 → cg (sm (fun c => a c * T r c) N) (sm (fun c => a c * W r c) N) := fun r hr => sm_cg (fun c hc => cg.mul cg.rf (q r c hr hc))
  exact ⟨fun g r hr => (e r hr).tr (g r hr), fun g r hr => (e r hr).sy.tr (g r hr)⟩
/-- where the model is ahead of a column: r rows told -/
def MI (N n : Nat) (C : Nat → Nat → Int) (src : Nat → Nat) (c r : Nat) (T : Nat → Nat → Int) : Prop := KE N C T ∧ r ≤ n ∧ (∀ i, i < r → src i < c) ∧ (r < n → c ≤ src r) ∧ (∀ i row, i < r → row < 225 → cg (T row (src i)) (if row = i then 1 else 0)) ∧ ∀ c' row, c' < c → r ≤ row → row < 225 → cg (T row c') 0
theorem MI.lt {N n c r : Nat} {C T : Nat → Nat → Int} {src : Nat → Nat} (h : MI N n C src c r T) (hinc : ∀ i j, i < j → j < n → src i < src j) {j : Nat} (hj : j < n) : src j < c ↔ j < r := by
  obtain ⟨_, h2, h3, h4, _⟩ := h
  constructor
  · intro q
    by_cases g : j < r
    · exact g
    · exfalso
      have h5 := h4 (by omega)
      by_cases g2 : j = r
      · rw [g2] at q
        omega
      · have := hinc r j (by omega) hj
        omega
  · exact h3 j
/-- a column that is a sum of those ahead: what the rows have there -/
theorem MI.dep {N n c r : Nat} {C T : Nat → Nat → Int} {src : Nat → Nat} (h : MI N n C src c r T) (hc : c < N) (hN : ∀ j, j < n → src j < N) {a : Nat → Int} (ha : ∀ row, row < 225 → cg (C c row) (sm (fun j => a j * C (src j) row) r)) : ∀ row, row < 225 → cg (T row c) (if row < r then a row else 0) := by
  obtain ⟨h1, h2, _, _, h5, _⟩ := h
  have hs : ∀ j, j < r → src j < N := fun j hj => hN j (by omega)
  have k1 := (h1 (xz c r a src)).mpr (fun row hrow => by
    rw [xz_sum hc hs (fun c' => C c' row)]
    exact cg_iff.mp (ha row hrow))
  intro row hrow
  have k2 := k1 row hrow
  rw [xz_sum hc hs (fun c' => T row c')] at k2
  have k3 := cg_iff.mpr k2
  refine k3.tr ?_
  have k4 : cg (sm (fun j => a j * T row (src j)) r) (sm (fun j => if j = row then a j else 0) r) := by
    refine sm_cg (fun j hj => ?_)
    have k5 := cg.mul (cg.rf (a := a j)) (h5 j row hj hrow)
    refine k5.tr ?_
    by_cases q : j = row
    · rw [if_pos q, if_pos q.symm, Int.mul_one]
      exact cg.rf
    · rw [if_neg q, if_neg (fun q2 => q q2.symm), Int.mul_zero]
      exact cg.rf
  rw [sm_if] at k4
  exact k4
/-- a kept column has a row for it -/
theorem MI.kept {N n c r : Nat} {C T : Nat → Nat → Int} {src : Nat → Nat} (h : MI N n C src c r T) (hc : c < N) (hN : ∀ j, j < n → src j < N) (hfree : ∀ a : Nat → Int, (∀ row, row < 225 → cg (sm (fun j => a j * C (src j) row) n) 0) → ∀ j, j < n → cg (a j) 0) (hr : r < n) (he : src r = c) (hz : ∀ row, r ≤ row → row < 225 → cg (T row c) 0) : False := by
  obtain ⟨h1, h2, _, _, h5, _⟩ := h
  have hs : ∀ j, j < r → src j < N := fun j hj => hN j (by omega)
  have k1 := (h1 (xz c r (fun j => T j c) src)).mp (fun row hrow => by
    rw [xz_sum hc hs (fun c' => T row c')]
    refine cg_iff.mp ?_
    have k4 : cg (sm (fun j => T j c * T row (src j)) r) (sm (fun j => if j = row then T j c else 0) r) := by
      refine sm_cg (fun j hj => ?_)
      have k5 := cg.mul (cg.rf (a := T j c)) (h5 j row hj hrow)
      refine k5.tr ?_
      by_cases q : j = row
      · rw [if_pos q, if_pos q.symm, Int.mul_one]
        exact cg.rf
      · rw [if_neg q, if_neg (fun q2 => q q2.symm), Int.mul_zero]
        exact cg.rf
    rw [sm_if (f := fun j => T j c)] at k4
    refine cg.tr ?_ k4.sy
    by_cases q : row < r
    · rw [if_pos q]
      exact cg.rf
    · rw [if_neg q]
      exact hz row (by omega) hrow)
  have k2 := hfree (fun j => if j = r then 1 else if j < r then - T j c else 0) (fun row hrow => by
    have k3 := k1 row hrow
    rw [xz_sum hc hs (fun c' => C c' row)] at k3
    have e1 : sm (fun j => (if j = r then 1 else if j < r then - T j c else 0) * C (src j) row) n = C c row - sm (fun j => T j c * C (src j) row) r := by
      rw [sm_cut (m := r + 1) (by omega) (fun j h3 _ => by rw [if_neg (by omega), if_neg (by omega), Int.zero_mul]), sm_s, if_pos rfl, Int.one_mul, he]
      have e2 : sm (fun j => (if j = r then 1 else if j < r then - T j c else 0) * C (src j) row) r = - sm (fun j => T j c * C (src j) row) r := by
        rw [← sm_neg]
        refine sm_ext (fun j hj => ?_)
        rw [if_neg (by omega), if_pos hj, Int.neg_mul]
      rw [e2]
      omega
    rw [e1]
    exact k3) r hr
  rw [if_pos rfl] at k2
  exact cg_10 k2
/-- the step over a kept column -/
theorem MI.up {N n c r p : Nat} {C T : Nat → Nat → Int} {src : Nat → Nat} (h : MI N n C src c r T) (hinc : ∀ i j, i < j → j < n → src i < src j) (hr : r < n) (he : src r = c) (hp : r ≤ p) (hp2 : p < 225) (hz : ¬ cg (T p c) 0) : MI N n C src (c + 1) (r + 1) (rdz (swz T p r) r c) := by
  obtain ⟨h1, h2, h3, h4, h5, h6⟩ := h
  have hr2 : r < 225 := by omega
  -- the swapped rows
  have s1 : swz T p r r = T p := by
    unfold swz
    by_cases q : r = p
    · rw [if_pos q, q]
    · rw [if_neg q, if_pos rfl]
  have s6 : ∀ c' row, c' < c → r ≤ row → row < 225 → cg (swz T p r row c') 0 := by
    intro c' row hc' hrow hrow2
    unfold swz
    by_cases q : row = p
    · rw [if_pos q]
      exact h6 c' r hc' (Nat.le_refl r) hr2
    · rw [if_neg q]
      by_cases q2 : row = r
      · rw [if_pos q2]
        exact h6 c' p hc' hp hp2
      · rw [if_neg q2]
        exact h6 c' row hc' hrow hrow2
  have s5 : ∀ row, row < r → swz T p r row = T row := by
    intro row hrow
    unfold swz
    rw [if_neg (by omega), if_neg (by omega)]
  have z1 : ¬ cg (swz T p r r c) 0 := by
    rw [s1]
    exact hz
  have eq : ∀ row c', row < 225 → c' < N → cg (rdz (swz T p r) r c row c') (rfz (swz T p r) r c row c') := fun row c' _ _ => rd_rf (fun q => s6 c' r q (Nat.le_refl r) hr2)
  have eq2 : ∀ row c', cg (rdz (swz T p r) r c row c') (rfz (swz T p r) r c row c') := fun row c' => rd_rf (fun q => s6 c' r q (Nat.le_refl r) hr2)
  have col : ∀ row, cg (rfz (swz T p r) r c row c) (if row = r then 1 else 0) := by
    intro row
    unfold rfz
    by_cases q : row = r
    · rw [if_pos q, if_pos q]
      exact fermat z1
    · rw [if_neg q, if_neg q]
      have := cg.sub (cg.rf (a := swz T p r row c)) (cg.mul (cg.rf (a := swz T p r row c)) (fermat z1))
      rw [Int.mul_one, Int.sub_self] at this
      exact this
  have oth : ∀ row c', cg (swz T p r r c') 0 → row ≠ r → cg (rfz (swz T p r) r c row c') (swz T p r row c') := by
    intro row c' h0 hne
    unfold rfz
    rw [if_neg hne]
    have h7 : cg (swz T p r row c * (swz T p r r c' * swz T p r r c ^ 10005)) 0 := by
      rw [Int.mul_comm]
      exact cg0_mul (cg0_mul h0)
    have := cg.sub (cg.rf (a := swz T p r row c')) h7
    rw [Int.sub_zero] at this
    exact this
  refine ⟨((h1.sw hp2 hr2).rf hr2 z1).cc (fun row c' a b => (eq row c' a b).sy), by omega, fun i hi => ?_, fun hr3 => ?_, fun i row hi hrow => ?_, fun c' row hc' hrow hrow2 => ?_⟩
  · by_cases q : i = r
    · rw [q, he]
      omega
    · have := h3 i (by omega)
      omega
  · have := hinc r (r + 1) (by omega) hr3
    omega
  · refine (eq2 row (src i)).tr ?_
    by_cases q : i = r
    · rw [q, he]
      exact col row
    · have hi2 : i < r := by omega
      have hlt := h3 i hi2
      have z0 := s6 (src i) r hlt (Nat.le_refl r) hr2
      by_cases q2 : row = r
      · rw [if_neg (by omega), q2]
        unfold rfz
        rw [if_pos rfl]
        exact cg0_mul z0
      · refine (oth row (src i) z0 q2).tr ?_
        by_cases q3 : row < r
        · rw [s5 row q3]
          exact h5 i row hi2 hrow
        · rw [if_neg (by omega)]
          exact s6 (src i) row hlt (by omega) hrow
  · refine (eq2 row c').tr ?_
    by_cases q : c' = c
    · rw [q]
      have := col row
      rw [if_neg (by omega)] at this
      exact this
    · have z0 := s6 c' r (by omega) (Nat.le_refl r) hr2
      exact (oth row c' z0 (by omega)).tr (s6 c' row (by omega) (by omega) hrow2)
/-- the step over a column that isn't kept -/
theorem MI.skip {N n c r : Nat} {C T : Nat → Nat → Int} {src : Nat → Nat} (h : MI N n C src c r T) (hne : r < n → src r ≠ c) (hz : ∀ row, r ≤ row → row < 225 → cg (T row c) 0) : MI N n C src (c + 1) r T := by
  obtain ⟨h1, h2, h3, h4, h5, h6⟩ := h
  refine ⟨h1, h2, fun i hi => ?_, fun hr => ?_, h5, fun c' row hc' hrow hrow2 => ?_⟩
  · have := h3 i hi
    omega
  · have a := h4 hr
    have b := hne hr
    omega
  · by_cases q : c' = c
    · rw [q]
      exact hz row hrow hrow2
    · exact h6 c' row (by omega) hrow hrow2
