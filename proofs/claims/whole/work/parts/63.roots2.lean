/-! how many roots; the fractions in order -/
theorem evz_dq (z : Nat → Int) (r s : Int) : evz z s 0 9 = (s - r) * evz (dq z r) s 0 9 + evz z r 0 9 := by
  have h : ∀ v, v < 9 → z v = evz z r v (9 - v) - r * dq z r v := by
    intro v hv
    have e := evz_s z r v (8 - v)
    rw [show 8 - v + 1 = 9 - v by omega] at e
    unfold dq
    rw [e, Int.mul_comm r]
    omega
  have e1 : evz z s 0 9 = sm (fun v => evz z r v (9 - v) * s ^ v) 9 - r * evz (dq z r) s 0 9 := by
    unfold evz
    rw [← sm_mul, ← sm_sub]
    refine sm_ext (fun v hv => ?_)
    rw [Nat.zero_add, h v hv, Int.sub_mul, Int.mul_assoc]
    rfl
  have e2 : sm (fun v => evz z r v (9 - v) * s ^ v) 9 = evz z r 0 9 + s * sm (fun v => dq z r v * s ^ v) 8 := by
    rw [sm_first, ← sm_mul, Int.pow_zero, Int.mul_one]
    congr 1
    refine sm_ext (fun v hv => ?_)
    unfold dq
    rw [Int.pow_succ, show 9 - (v + 1) = 8 - v by omega, Int.mul_left_comm s, Int.mul_comm s]
  have e3 : evz (dq z r) s 0 9 = sm (fun v => dq z r v * s ^ v) 8 := by
    unfold evz
    rw [sm_s]
    have : dq z r (0 + 8) = 0 := rfl
    rw [this, Int.zero_mul, Int.add_zero]
    exact sm_ext (fun v _ => by rw [Nat.zero_add])
  rw [e1, e2, e3, Int.sub_mul]
  omega
theorem roots_le : ∀ (t : Nat) (l : List Int) (z : Nat → Int), t ≤ 8 → ¬ cg (z t) 0 → zab t z → (∀ r ∈ l, cg (evz z r 0 9) 0) → l.Pairwise (fun a b => ¬ cg a b) → l.length ≤ t
  | t, [], z, _, _, _, _, _ => Nat.zero_le t
  | 0, r :: l, z, _, h0, hz, hr, _ => by
    exfalso
    have h1 := hr r List.mem_cons_self
    have h2 := evz_c (s := r) (n := 0) (m := 1) hz (by decide) (by decide)
    have h3 : evz z r 0 1 = z 0 := by
      show 0 + z (0 + 0) * r ^ 0 = z 0
      rw [Int.pow_zero, Int.mul_one, Int.zero_add]
    rw [h3] at h2
    exact h0 (h2.sy.tr h1)
  | t + 1, r :: l, z, ht, h0, hz, hr, hp => by
    rw [List.pairwise_cons] at hp
    have lead : ¬ cg (dq z r t) 0 := by
      intro h
      unfold dq at h
      have h2 := evz_c (s := r) (n := t + 1) (m := 1) hz (by omega) (by omega)
      rw [show 9 - (t + 1) = 8 - t by omega] at h2
      have h3 : evz z r (t + 1) 1 = z (t + 1) := by
        show 0 + z (t + 1 + 0) * r ^ 0 = z (t + 1)
        rw [Int.pow_zero, Int.mul_one, Int.zero_add, Nat.add_zero]
      rw [h3] at h2
      exact h0 (h2.sy.tr h)
    have := roots_le t l (dq z r) (by omega) lead (dq_zab hz) (fun s hs => by
      have h1 := hr s (List.mem_cons_of_mem r hs)
      have h2 := hr r List.mem_cons_self
      rw [evz_dq z r s] at h1
      have h3 := cg.sub h1 h2
      rw [Int.add_sub_cancel, Int.sub_zero] at h3
      rcases cg_mul0 h3 with h4 | h4
      · exact absurd ((cg_iff.mpr h4).sy) (hp.1 s hs)
      · exact h4) hp.2
    rw [List.length_cons]
    omega
/-- the n-th fraction: a by c -/
def rA (n : Nat) : Nat := n % 25
def rC (n : Nat) : Nat := n / 25 + 1
def rR (n : Nat) : Int := -((rA n : Int) * (rC n : Int) ^ 10005)
/-- is it a root -/
def isRt (z : Nat → Int) (t n : Nat) : Bool := (Nat.gcd (rA n) (rC n) == 1) && Nat.blt 0 (ho (rR n) t z)
def rcn (z : Nat → Int) (t : Nat) : Nat → Nat
  | 0 => 0
  | n + 1 => rcn z t n + (if isRt z t n = true then 1 else 0)
def rls (z : Nat → Int) (t : Nat) : Nat → List Int
  | 0 => []
  | n + 1 => if isRt z t n = true then rR n :: rls z t n else rls z t n
theorem rls_len (z : Nat → Int) (t : Nat) : ∀ n, (rls z t n).length = rcn z t n
  | 0 => rfl
  | n + 1 => by
    unfold rls rcn
    by_cases h : isRt z t n = true
    · rw [if_pos h, if_pos h, List.length_cons, rls_len z t n]
    · rw [if_neg h, if_neg h, rls_len z t n, Nat.add_zero]
theorem isRt_iff {z : Nat → Int} {t n : Nat} : isRt z t n = true ↔ Nat.gcd (rA n) (rC n) = 1 ∧ 0 < ho (rR n) t z := by
  unfold isRt
  rw [Bool.and_eq_true]
  constructor
  · intro h
    exact ⟨eq_of_beq h.1, Nat.le_of_ble_eq_true h.2⟩
  · intro h
    exact ⟨beq_iff_eq.mpr h.1, Nat.ble_eq_true_of_le h.2⟩
theorem rls_mem {z : Nat → Int} {t : Nat} {r : Int} : ∀ {n : Nat}, r ∈ rls z t n → ∃ m, m < n ∧ r = rR m ∧ isRt z t m = true
  | 0, h => absurd h List.not_mem_nil
  | n + 1, h => by
    unfold rls at h
    by_cases c : isRt z t n = true
    · rw [if_pos c] at h
      rcases List.mem_cons.mp h with e | e
      · exact ⟨n, by omega, e, c⟩
      · obtain ⟨m, h1, h2⟩ := rls_mem e
        exact ⟨m, by omega, h2⟩
    · rw [if_neg c] at h
      obtain ⟨m, h1, h2⟩ := rls_mem h
      exact ⟨m, by omega, h2⟩
/-- fractions in lowest terms are told by their products -/
def frc : Nat → Nat → Bool := fun n m => !(Nat.gcd (rA n) (rC n) == 1 && Nat.gcd (rA m) (rC m) == 1 && rA n * rC m == rA m * rC n) || n == m
def frcs : Nat → Nat → Bool
  | 0, _ => true
  | n + 1, m => frc n m && frcs n m
def frca : Nat → Bool
  | 0 => true
  | m + 1 => frcs 150 m && frca m
set_option maxRecDepth 20000 in
theorem frca_150 : frca 150 = true := by decide +kernel
theorem frcs_get {m : Nat} : ∀ {N n : Nat}, frcs N m = true → n < N → frc n m = true
  | 0, n, _, h => absurd h (Nat.not_lt_zero n)
  | N + 1, n, h, hn => by
    unfold frcs at h
    rw [Bool.and_eq_true] at h
    by_cases e : n = N
    · rw [e]
      exact h.1
    · exact frcs_get h.2 (by omega)
theorem frca_get : ∀ {M m n : Nat}, frca M = true → m < M → n < 150 → frc n m = true
  | 0, m, n, _, h, _ => absurd h (Nat.not_lt_zero m)
  | M + 1, m, n, h, hm, hn => by
    unfold frca at h
    rw [Bool.and_eq_true] at h
    by_cases e : m = M
    · rw [e]
      exact frcs_get h.1 hn
    · exact frca_get h.2 (by omega) hn
theorem frac_inj {n m : Nat} (hn : n < 150) (hm : m < 150) (g1 : Nat.gcd (rA n) (rC n) = 1) (g2 : Nat.gcd (rA m) (rC m) = 1) (e : rA n * rC m = rA m * rC n) : n = m := by
  have h := frca_get (m := m) (n := n) frca_150 hm hn
  unfold frc at h
  rw [g1, g2, e] at h
  simp at h
  exact h
theorem rR_ne {n m : Nat} (hn : n < 150) (hm : m < 150) (g1 : Nat.gcd (rA n) (rC n) = 1) (g2 : Nat.gcd (rA m) (rC m) = 1) (h : cg (rR n) (rR m)) : n = m := by
  refine frac_inj hn hm g1 g2 ?_
  have a1 : rA n < 25 := Nat.mod_lt n (by decide)
  have a2 : rA m < 25 := Nat.mod_lt m (by decide)
  have c1 : 1 ≤ rC n ∧ rC n ≤ 6 := by unfold rC; omega
  have c2 : 1 ≤ rC m ∧ rC m ≤ 6 := by unfold rC; omega
  have nz : ∀ c : Nat, 1 ≤ c ∧ c ≤ 6 → ¬ cg (c : Int) 0 := fun c hc => by unfold cg; omega
  have i1 := fermat (nz _ c1)
  have i2 := fermat (nz _ c2)
  unfold rR at h
  have h1 := cg.mul (cg.neg h) (cg.rf (a := (rC n : Int) * (rC m : Int)))
  rw [Int.neg_neg, Int.neg_neg] at h1
  have l1 : cg ((rA n : Int) * (rC n : Int) ^ 10005 * ((rC n : Int) * (rC m : Int))) ((rA n : Int) * (rC m : Int)) := by
    have e1 : (rA n : Int) * (rC n : Int) ^ 10005 * ((rC n : Int) * (rC m : Int)) = ((rC n : Int) * (rC n : Int) ^ 10005) * ((rA n : Int) * (rC m : Int)) := by
      generalize (rC n : Int) ^ 10005 = x
      grind
    rw [e1]
    have := cg.mul i1 (cg.rf (a := (rA n : Int) * (rC m : Int)))
    rw [Int.one_mul] at this
    exact this
  have l2 : cg ((rA m : Int) * (rC m : Int) ^ 10005 * ((rC n : Int) * (rC m : Int))) ((rA m : Int) * (rC n : Int)) := by
    have e1 : (rA m : Int) * (rC m : Int) ^ 10005 * ((rC n : Int) * (rC m : Int)) = ((rC m : Int) * (rC m : Int) ^ 10005) * ((rA m : Int) * (rC n : Int)) := by
      generalize (rC m : Int) ^ 10005 = x
      grind
    rw [e1]
    have := cg.mul i2 (cg.rf (a := (rA m : Int) * (rC n : Int)))
    rw [Int.one_mul] at this
    exact this
  have l3 := l1.sy.tr (h1.tr l2)
  have b1 : rA n * rC m ≤ 24 * 6 := Nat.mul_le_mul (by omega) c2.2
  have b2 : rA m * rC n ≤ 24 * 6 := Nat.mul_le_mul (by omega) c1.2
  rw [← Int.natCast_mul, ← Int.natCast_mul] at l3
  unfold cg at l3
  omega
theorem rls_pw (z : Nat → Int) (t : Nat) : ∀ n, n ≤ 150 → (rls z t n).Pairwise (fun a b => ¬ cg a b)
  | 0, _ => List.Pairwise.nil
  | n + 1, hn => by
    unfold rls
    by_cases c : isRt z t n = true
    · rw [if_pos c, List.pairwise_cons]
      refine ⟨fun r hr h => ?_, rls_pw z t n (by omega)⟩
      obtain ⟨m, h1, h2, h3⟩ := rls_mem hr
      rw [h2] at h
      have := rR_ne (by omega) (by omega) (isRt_iff.mp c).1 (isRt_iff.mp h3).1 h
      omega
    · rw [if_neg c]
      exact rls_pw z t n (by omega)
theorem ho_root {r : Int} {t : Nat} {z : Nat → Int} (h : 0 < ho r t z) : cg (evz z r 0 9) 0 := by
  cases t with
  | zero => exact absurd h (Nat.lt_irrefl 0)
  | succ d =>
    rw [ho_s] at h
    by_cases c : evz z r 0 9 % 10007 = 0
    · exact em0.mp c
    · rw [if_neg c] at h
      exact absurd h (Nat.lt_irrefl 0)
theorem rcn_le {z : Nat → Int} {t : Nat} (ht : t ≤ 8) (h0 : ¬ cg (z t) 0) (hz : zab t z) (n : Nat) (hn : n ≤ 150) : rcn z t n ≤ t := by
  rw [← rls_len]
  refine roots_le t _ z ht h0 hz (fun r hr => ?_) (rls_pw z t n hn)
  obtain ⟨m, _, h2, h3⟩ := rls_mem hr
  rw [h2]
  exact ho_root (isRt_iff.mp h3).2
theorem rcn_mono (z : Nat → Int) (t : Nat) {n : Nat} : ∀ {m : Nat}, n ≤ m → rcn z t n ≤ rcn z t m
  | 0, h => by rw [Nat.le_zero.mp h]; exact Nat.le_refl _
  | m + 1, h => by
    by_cases e : n = m + 1
    · rw [e]
      exact Nat.le_refl _
    · have := rcn_mono z t (n := n) (m := m) (by omega)
      show _ ≤ rcn z t m + _
      omega
theorem rcn_find (z : Nat → Int) (t : Nat) : ∀ {N i : Nat}, i < rcn z t N → ∃ n, n < N ∧ isRt z t n = true ∧ rcn z t n = i
  | 0, i, h => absurd h (Nat.not_lt_zero i)
  | N + 1, i, h => by
    have e : rcn z t (N + 1) = rcn z t N + (if isRt z t N = true then 1 else 0) := rfl
    by_cases c : isRt z t N = true
    · rw [e, if_pos c] at h
      by_cases c2 : i = rcn z t N
      · exact ⟨N, by omega, c, c2.symm⟩
      · obtain ⟨n, h1, h2⟩ := rcn_find z t (N := N) (i := i) (by omega)
        exact ⟨n, by omega, h2⟩
    · rw [e, if_neg c, Nat.add_zero] at h
      obtain ⟨n, h1, h2⟩ := rcn_find z t (N := N) h
      exact ⟨n, by omega, h2⟩
