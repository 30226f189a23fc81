/-! texts that are read -/
def pX (t : Nat → Nat) (n i num : Nat) : Bool × Nat × Nat × Nat := if i < n ∧ t i = 94 then (if i + 1 < n ∧ 48 ≤ t (i + 1) ∧ t (i + 1) ≤ 52 then (true, i + 2, num, t (i + 1) - 48) else (false, i + 1, 0, 0)) else (true, i, num, 1)
def pN (t : Nat → Nat) (n i num : Nat) (has : Bool) : Bool × Nat × Nat × Nat := if i < n ∧ t i = 120 then pX t n (i + 1) (if has = true then num else 1) else if has = true then (true, i, num, 0) else (false, i, 0, 0)
def pD (t : Nat → Nat) (n : Nat) : Nat → Nat → Nat → Bool → Bool × Nat × Nat × Nat
  | 0, i, num, has => pN t n i num has
  | k + 1, i, num, has => if i < n ∧ 48 ≤ t i ∧ t i ≤ 57 then pD t n k (i + 1) (10 * num + (t i - 48)) true else pN t n i num has
def tx (t : Nat → Nat) (n : Nat) : Nat → Nat → Int → (Nat → Int) → Bool × Nat × (Nat → Int)
  | 0, i, _, z => (false, i, z)
  | k + 1, i, s, z =>
    if (pD t n 3 i 0 false).1 = true then
      (if (pD t n 3 i 0 false).2.1 < n ∧ (t (pD t n 3 i 0 false).2.1 = 43 ∨ t (pD t n 3 i 0 false).2.1 = 45) then
        tx t n k ((pD t n 3 i 0 false).2.1 + 1) (if t (pD t n 3 i 0 false).2.1 = 45 then -1 else 1) (zu z (pD t n 3 i 0 false).2.2.2 (z (pD t n 3 i 0 false).2.2.2 + s * ((pD t n 3 i 0 false).2.2.1 : Int)))
      else (decide ((pD t n 3 i 0 false).2.1 = n), (pD t n 3 i 0 false).2.1, zu z (pD t n 3 i 0 false).2.2.2 (z (pD t n 3 i 0 false).2.2.2 + s * ((pD t n 3 i 0 false).2.2.1 : Int))))
    else (false, (pD t n 3 i 0 false).2.1, z)
/-- where a term's reading ends -/
theorem pX_b {t : Nat → Nat} {n i num : Nat} (hi : i ≤ n) : i ≤ (pX t n i num).2.1 ∧ (pX t n i num).2.1 ≤ n ∧ (pX t n i num).2.2.1 ≤ num ∧ (pX t n i num).2.2.2 ≤ 4 := by
  unfold pX
  by_cases h : i < n ∧ t i = 94
  · rw [if_pos h]
    by_cases h2 : i + 1 < n ∧ 48 ≤ t (i + 1) ∧ t (i + 1) ≤ 52
    · rw [if_pos h2]
      dsimp only
      omega
    · rw [if_neg h2]
      dsimp only
      omega
  · rw [if_neg h]
    dsimp only
    omega
theorem pN_b {t : Nat → Nat} {n i num : Nat} {has : Bool} (hi : i ≤ n) (hn : num ≤ 999) : i ≤ (pN t n i num has).2.1 ∧ (pN t n i num has).2.1 ≤ n ∧ (pN t n i num has).2.2.1 ≤ 999 ∧ (pN t n i num has).2.2.2 ≤ 4 ∧ ((pN t n i num has).1 = true → has = true ∨ i < (pN t n i num has).2.1) := by
  unfold pN
  by_cases h : i < n ∧ t i = 120
  · rw [if_pos h]
    obtain ⟨a, b, c, d⟩ := pX_b (t := t) (num := if has = true then num else 1) (show i + 1 ≤ n by omega)
    have e : (if has = true then num else 1) ≤ 999 := by
      by_cases q : has = true
      · rw [if_pos q]
        exact hn
      · rw [if_neg q]
        decide
    exact ⟨by omega, b, by omega, d, fun _ => Or.inr (by omega)⟩
  · rw [if_neg h]
    by_cases q : has = true
    · rw [if_pos q]
      refine ⟨Nat.le_refl _, hi, hn, Nat.zero_le _, fun _ => Or.inl q⟩
    · rw [if_neg q]
      exact ⟨Nat.le_refl _, hi, Nat.zero_le _, Nat.zero_le _, fun h => by cases h⟩
theorem pD_b {t : Nat → Nat} {n : Nat} : ∀ {k i num : Nat} {has : Bool}, i ≤ n → (num + 1) * 10 ^ k ≤ 1000 → i ≤ (pD t n k i num has).2.1 ∧ (pD t n k i num has).2.1 ≤ n ∧ (pD t n k i num has).2.2.1 ≤ 999 ∧ (pD t n k i num has).2.2.2 ≤ 4 ∧ ((pD t n k i num has).1 = true → has = true ∨ i < (pD t n k i num has).2.1)
  | 0, i, num, has, hi, hn => by
    rw [Nat.pow_zero] at hn
    exact pN_b hi (by omega)
  | k + 1, i, num, has, hi, hn => by
    have h1 : 1 ≤ 10 ^ k := Nat.pos_of_ne_zero (by
      have := Nat.pow_pos (n := k) (show 0 < 10 by decide)
      omega)
    rw [Nat.pow_succ] at hn
    have e1 : (num + 1) * (10 ^ k * 10) = ((num + 1) * 10) * 10 ^ k := by rw [Nat.mul_comm (10 ^ k) 10, Nat.mul_assoc]
    rw [e1] at hn
    have e2 : (num + 1) * 10 ≤ (num + 1) * 10 * 10 ^ k := Nat.le_mul_of_pos_right _ h1
    unfold pD
    by_cases h : i < n ∧ 48 ≤ t i ∧ t i ≤ 57
    · rw [if_pos h]
      have e3 : (10 * num + (t i - 48) + 1) * 10 ^ k ≤ 1000 := Nat.le_trans (Nat.mul_le_mul_right _ (by omega)) hn
      obtain ⟨a, b, c, d, f⟩ := pD_b (t := t) (n := n) (k := k) (i := i + 1) (num := 10 * num + (t i - 48)) (has := true) (by omega) e3
      exact ⟨by omega, b, c, d, fun _ => Or.inr (by omega)⟩
    · rw [if_neg h]
      exact pN_b hi (by omega)
theorem p3_b {t : Nat → Nat} {n i : Nat} (hi : i ≤ n) : i ≤ (pD t n 3 i 0 false).2.1 ∧ (pD t n 3 i 0 false).2.1 ≤ n ∧ (pD t n 3 i 0 false).2.2.1 ≤ 999 ∧ (pD t n 3 i 0 false).2.2.2 ≤ 4 ∧ ((pD t n 3 i 0 false).1 = true → i < (pD t n 3 i 0 false).2.1) := by
  obtain ⟨a, b, c, d, e⟩ := pD_b (t := t) (n := n) (k := 3) (i := i) (num := 0) (has := false) hi (by decide)
  exact ⟨a, b, c, d, fun h => (e h).resolve_left (fun h2 => by cases h2)⟩
/-- the class: one byte -/
def sgI (b : Nat) : Int32 := if b = 45 then -1 else 1
theorem wp_mayEnd {st : Nat} {K : Int32 → Prop} (hst : st ≤ 5) (h : K (if st = 2 ∨ st = 3 ∨ st = 5 then 1 else 0)) : wp_X10_mayEnd (nI st) K := by
  unfold wp_X10_mayEnd
  obtain rfl | rfl | rfl | rfl | rfl | rfl : st = 0 ∨ st = 1 ∨ st = 2 ∨ st = 3 ∨ st = 4 ∨ st = 5 := by omega
  · exact br_f (by decide) (br_f (by decide) (rb_f (by decide) h))
  · exact br_f (by decide) (br_f (by decide) (rb_f (by decide) h))
  · exact br_t rfl h
  · exact br_f (by decide) (br_t rfl h)
  · exact br_f (by decide) (br_f (by decide) (rb_f (by decide) h))
  · exact br_f (by decide) (br_f (by decide) (rb_t rfl h))
theorem wp_step {st b fg : Nat} {s num pow : Int32} {A : Nat → Int32} {K : Int32 → Int32 → Int32 → Int32 → Int32 → (Nat → Int32) → Prop} (hst : st ≤ 5) (hb : b ≤ 126) (hfg : fg ≤ 3)
    (h : if 48 ≤ b ∧ b ≤ 57 then (if st = 4 then (if b ≤ 52 then K 5 s num (nI fg) (nI (b - 48)) A else K 6 s num (nI fg) (nI (b - 48)) A) else if st = 0 ∨ st = 1 ∨ (st = 2 ∧ fg < 3) then K 2 s (num * 10 + nI (b - 48)) (nI (fg + 1)) pow A else K 6 s num (nI fg) pow A)
      else if b = 120 then (if st = 0 ∨ st = 1 then K 3 s 1 (nI fg) 1 A else if st = 2 then K 3 s num (nI fg) 1 A else K 6 s num (nI fg) pow A)
      else if b = 94 then (if st = 3 then K 4 s num (nI fg) pow A else K 6 s num (nI fg) pow A)
      else if b = 43 ∨ b = 45 then (if st = 2 ∨ st = 3 ∨ st = 5 then wp_X10_endTerm s num pow A (fun A' => K 1 (sgI b) 0 0 0 A') else if st = 0 ∧ b = 45 then K 1 (-1) 0 0 0 A else K 6 s num (nI fg) pow A)
      else K 6 s num (nI fg) pow A) : wp_X10_step (nI st) (nI b) s num (nI fg) pow A K := by
  unfold wp_X10_step
  by_cases hd : 48 ≤ b ∧ b ≤ 57
  · rw [if_pos hd] at h
    refine br_f (nI_nlt (b := 48) hd.1 (by omega)) (br_f (nI_nlt (a := 57) hd.2 (by decide)) ?_)
    rw [show nI b - (48 : Int32) = nI (b - 48) from pk_sub (b := 48) hd.1]
    unfold wp_X10_stepFigure jn_X10_stepFigure_44
    obtain rfl | rfl | rfl | rfl | rfl | rfl : st = 0 ∨ st = 1 ∨ st = 2 ∨ st = 3 ∨ st = 4 ∨ st = 5 := by omega
    · refine rb_f (by decide) (br_t rfl (fun y q y2 q2 => ?_))
      rw [q, q2, nI_1]
      exact h
    · refine rb_f (by decide) (br_f (by decide) (br_t rfl (fun y q y2 q2 => ?_)))
      rw [q, q2, nI_1]
      exact h
    · refine rb_f (by decide) (br_f (by decide) (br_f (by decide) (rb_t rfl ?_)))
      rw [if_neg (by decide)] at h
      by_cases h3 : fg < 3
      · rw [if_pos (by omega)] at h
        refine br_f (ngt (b := 3) h3 (by decide)) (fun y q y2 q2 => ?_)
        rw [q, q2, nI_1]
        exact h
      · rw [if_neg (by omega)] at h
        exact br_t (nle (a := 3) (by omega) (by omega)) h
    · exact rb_f (by decide) (br_f (by decide) (br_f (by decide) (rb_f (by decide) h)))
    · rw [if_pos rfl] at h
      refine rb_t rfl ?_
      by_cases h3 : b ≤ 52
      · rw [if_pos h3] at h
        exact br_f (nI_nlt (a := 4) (by omega) (by decide)) h
      · rw [if_neg h3] at h
        exact br_t (nI_lt (a := 4) (by omega) (by omega)) h
    · exact rb_f (by decide) (br_f (by decide) (br_f (by decide) (rb_f (by decide) h)))
  · rw [if_neg hd] at h
    have go : jn_X10_step_22 (nI st) (nI b) K s num (nI fg) pow A := by
      unfold jn_X10_step_22
      have ne : ∀ c : Nat, c < 127 → b ≠ c → ¬ nI b = nI c := fun c hc hbc q => hbc ((nI_eq (by omega) (by omega)).mp q)
      by_cases h120 : b = 120
      · subst h120
        rw [if_pos rfl] at h
        refine ⟨fun q => absurd q (by decide), fun q => absurd q (by decide), fun q => absurd q (by decide), fun _ => ?_, fun _ _ _ q => absurd rfl q⟩
        unfold wp_X10_stepUnknown jn_X10_stepUnknown_9 jn_X10_stepUnknown_25
        obtain rfl | rfl | rfl | rfl | rfl | rfl : st = 0 ∨ st = 1 ∨ st = 2 ∨ st = 3 ∨ st = 4 ∨ st = 5 := by omega
        · exact br_t rfl h
        · exact br_f (by decide) (rb_t rfl h)
        · exact br_f (by decide) (rb_f (by decide) (br_t rfl h))
        · exact br_f (by decide) (rb_f (by decide) (br_f (by decide) h))
        · exact br_f (by decide) (rb_f (by decide) (br_f (by decide) h))
        · exact br_f (by decide) (rb_f (by decide) (br_f (by decide) h))
      · rw [if_neg h120] at h
        by_cases h94 : b = 94
        · subst h94
          rw [if_pos rfl] at h
          refine ⟨fun q => absurd q (by decide), fun q => absurd q (by decide), fun _ => ?_, fun q => absurd q (by decide), fun _ _ q => absurd rfl q⟩
          by_cases h3 : st = 3
          · subst h3
            exact rb_t rfl h
          · rw [if_neg h3] at h
            exact rb_f (fun q => h3 ((nI_eq (b := 3) (by omega) (by decide)).mp q)) h
        · rw [if_neg h94] at h
          by_cases hs : b = 43 ∨ b = 45
          · rw [if_pos hs] at h
            have go2 : jn_X10_step_82 (nI st) (nI b) K s num (nI fg) pow A := by
              have go3 : jn_X10_step_95 (nI st) (nI b) K (nI st) (sgI b) s num (nI fg) pow A := by
                unfold jn_X10_step_95 wp_X10_stepSign
                refine wp_mayEnd hst ?_
                unfold jn_X10_stepSign_25 wp_X10_startTerm
                by_cases he : st = 2 ∨ st = 3 ∨ st = 5
                · rw [if_pos he] at h ⊢
                  exact br_f (by decide) h
                · rw [if_neg he] at h ⊢
                  refine br_t rfl ?_
                  by_cases h0 : st = 0
                  · subst h0
                    refine rb_t rfl ?_
                    by_cases h45 : b = 45
                    · subst h45
                      rw [if_pos ⟨rfl, rfl⟩] at h
                      exact br_t (by decide) h
                    · rw [if_neg (fun q => h45 q.2)] at h
                      have e : sgI b = 1 := if_neg h45
                      rw [e]
                      exact br_f (by decide) h
                  · rw [if_neg (fun q => h0 q.1)] at h
                    exact rb_f (fun q => h0 ((nI_eq (b := 0) (by omega) (by decide)).mp q)) h
              unfold jn_X10_step_82
              by_cases h45 : b = 45
              · subst h45
                exact rb_t rfl go3
              · have e : sgI b = 1 := if_neg h45
                rw [e] at go3
                exact rb_f (ne 45 (by decide) h45) go3
            exact ⟨fun _ => go2, fun _ => go2, fun q => absurd q (ne 94 (by decide) h94), fun q => absurd q (ne 120 (by decide) h120), fun q1 q2 => by
              rcases hs with e | e
              · exact absurd (by rw [e]; rfl) q1
              · exact absurd (by rw [e]; rfl) q2⟩
          · rw [if_neg hs] at h
            exact ⟨fun q => absurd q (ne 43 (by decide) (fun e => hs (Or.inl e))), fun q => absurd q (ne 45 (by decide) (fun e => hs (Or.inr e))), fun q => absurd q (ne 94 (by decide) h94), fun q => absurd q (ne 120 (by decide) h120), fun _ _ _ _ => h⟩
    by_cases h48 : b < 48
    · exact br_t (nI_lt (b := 48) h48 (by decide)) go
    · exact br_f (nI_nlt (b := 48) (by omega) (by omega)) (br_t (nI_lt (a := 57) (by omega) (by omega)) go)
/-- the class's loop at a place -/
def CL (n : Nat) (T : Nat → Int32) (K : Int32 → Int32 → Int32 → Int32 → Int32 → (Nat → Int32) → Prop) (st i : Nat) (s num fg pow : Int32) (A : Nat → Int32) : Prop := ∃ k, lp_X10_fault_17 (nI n) T (jn_X10_fault_57 (nI n) T K) K k (nI st) (nI i) s num fg pow A
theorem wp_endTerm {s num : Int32} {sz nz : Int} {p : Nat} {A : Nat → Int32} {z : Nat → Int} {K : (Nat → Int32) → Prop} (hp : p ≤ 4) (hs : s.toInt = sz) (hs2 : -1 ≤ sz ∧ sz ≤ 1) (hn : num.toInt = nz) (hn2 : 0 ≤ nz ∧ nz ≤ 999) (h : fA 5 A z) (hK : ∀ A', fA 5 A' (zu z p (z p + sz * nz)) → K A') : wp_X10_endTerm s num (nI p) A K := by
  unfold wp_X10_endTerm
  refine wp_within ⟨fun q => ?_, fun q => ⟨vpn (by omega) (by decide), ?_⟩⟩
  · rw [btw_0] at q
    exact absurd ⟨nI_pos' (by omega), nle (b := 4) hp (by decide)⟩ q
  · rw [cln (by omega), h.g p (by omega)]
    have b1 := fdI_b (z p)
    have b2 := mb (X := 1) (Y := 999) hs2 (show -999 ≤ nz ∧ nz ≤ 999 by omega)
    refine fd_long (la (i2l_t (fdI_t _)) (lm (i2l_t hs) (i2l_t hn) (by omega)) (by omega)) (cg.add (cg_bm _) cg.rf) (hK _ (h.up p _))
/-- one byte goes on -/
theorem CL_go {n : Nat} {T : Nat → Int32} {K : Int32 → Int32 → Int32 → Int32 → Int32 → (Nat → Int32) → Prop} {t : Nat → Nat} {st i fg st2 : Nat} {s num pow : Int32} {A : Nat → Int32} (hn : n ≤ 60) (hi : i < n) (hT : T i = nI (t i)) {s2 n2 f2 p2 : Int32} {A2 : Nat → Int32} (hst2 : st2 ≤ 5) (hc : CL n T K st2 (i + 1) s2 n2 f2 p2 A2) (hw : ∀ K2 : Int32 → Int32 → Int32 → Int32 → Int32 → (Nat → Int32) → Prop, K2 (nI st2) s2 n2 f2 p2 A2 → wp_X10_step (nI st) (nI (t i)) s num (nI fg) pow A K2) : CL n T K st i s num (nI fg) pow A := by
  obtain ⟨k, hk⟩ := hc
  refine ⟨k + 1, ?_⟩
  unfold lp_X10_fault_17
  refine br_f (ngt hi (by omega)) (br_f (ngt (b := 60) (by omega) (by decide)) ⟨vpn (by omega) (by decide), ?_⟩)
  rw [cln (by omega), hT]
  refine hw _ (rb_f (fun q => absurd ((nI_eq (b := 6) (by omega) (by decide)).mp q) (by omega)) ?_)
  rw [nI_1]
  exact hk
/-- one byte that doesn't -/
theorem CL_bad {n : Nat} {T : Nat → Int32} {K : Int32 → Int32 → Int32 → Int32 → Int32 → (Nat → Int32) → Prop} {t : Nat → Nat} {st i fg : Nat} {s num pow : Int32} {A : Nat → Int32} (hn : n ≤ 60) (hi : i < n) (hT : T i = nI (t i)) (hK : ∀ a b c d A', K (nI i) a b c d A') (hw : ∀ K2 : Int32 → Int32 → Int32 → Int32 → Int32 → (Nat → Int32) → Prop, (∀ a b c d A', K2 6 a b c d A') → wp_X10_step (nI st) (nI (t i)) s num (nI fg) pow A K2) : CL n T K st i s num (nI fg) pow A := by
  refine ⟨1, ?_⟩
  unfold lp_X10_fault_17
  refine br_f (ngt hi (by omega)) (br_f (ngt (b := 60) (by omega) (by decide)) ⟨vpn (by omega) (by decide), ?_⟩)
  rw [cln (by omega), hT]
  exact hw _ (fun a b c d A' => rb_t rfl (hK _ _ _ _ _))
/-- the end, too early -/
theorem CL_early {n : Nat} {T : Nat → Int32} {K : Int32 → Int32 → Int32 → Int32 → Int32 → (Nat → Int32) → Prop} {st : Nat} {s num fg pow : Int32} {A : Nat → Int32} (hn : n ≤ 60) (hst : st ≤ 5) (hs : ¬ (st = 2 ∨ st = 3 ∨ st = 5)) (hK : ∀ a b c d A', K (nI n) a b c d A') : CL n T K st n s num fg pow A := by
  refine ⟨1, ?_⟩
  unfold lp_X10_fault_17
  refine br_t (nle (Nat.le_refl n) (by omega)) ?_
  unfold jn_X10_fault_57
  refine wp_mayEnd hst ?_
  rw [if_neg hs]
  exact rb_t rfl (hK _ _ _ _ _)
/-- the class reads a term, and is where it may end -/
def endOk (t : Nat → Nat) (n st fg i : Nat) : Prop := (st = 2 ∧ ¬ (i < n ∧ t i = 120) ∧ ¬ (i < n ∧ 48 ≤ t i ∧ t i ≤ 57 ∧ fg < 3)) ∨ (st = 3 ∧ ¬ (i < n ∧ t i = 94)) ∨ st = 5
theorem CL_X {n : Nat} {T : Nat → Int32} {K : Int32 → Int32 → Int32 → Int32 → Int32 → (Nat → Int32) → Prop} {t : Nat → Nat} {i fg num : Nat} {s : Int32} {A : Nat → Int32} (hn : n ≤ 60) (hfg : fg ≤ 3) (hi : i ≤ n) (hT : ∀ j, j < n → T j = nI (t j) ∧ t j ≤ 126)
    (hok : (pX t n i num).1 = true → ∀ st, st ≤ 5 → endOk t n st fg (pX t n i num).2.1 → CL n T K st (pX t n i num).2.1 s (nI (pX t n i num).2.2.1) (nI fg) (nI (pX t n i num).2.2.2) A)
    (hfl : ¬ (pX t n i num).1 = true → ∀ a b c d A', K (nI (pX t n i num).2.1) a b c d A') : CL n T K 3 i s (nI num) (nI fg) 1 A := by
  unfold pX at hok hfl
  by_cases h : i < n ∧ t i = 94
  · rw [if_pos h] at hok hfl
    have hb := hT i h.1
    have toCaret : CL n T K 4 (i + 1) s (nI num) (nI fg) 1 A → CL n T K 3 i s (nI num) (nI fg) 1 A := by
      intro hc
      refine CL_go hn h.1 hb.1 (by decide) hc (fun K2 h2 => wp_step (by decide) hb.2 hfg ?_)
      rw [h.2, if_neg (by decide), if_neg (by decide), if_pos rfl, if_pos rfl]
      exact h2
    by_cases h2 : i + 1 < n ∧ 48 ≤ t (i + 1) ∧ t (i + 1) ≤ 52
    · rw [if_pos h2] at hok
      have hb2 := hT (i + 1) h2.1
      refine toCaret (CL_go hn h2.1 hb2.1 (st2 := 5) (by decide) (hok rfl 5 (by decide) (Or.inr (Or.inr rfl))) (fun K2 h3 => wp_step (by decide) hb2.2 hfg ?_))
      rw [if_pos (by omega), if_pos rfl, if_pos (by omega)]
      exact h3
    · rw [if_neg h2] at hfl
      have hfl2 := hfl Bool.false_ne_true
      refine toCaret ?_
      by_cases h3 : i + 1 < n
      · have hb2 := hT (i + 1) h3
        refine CL_bad hn h3 hb2.1 hfl2 (fun K2 h4 => wp_step (by decide) hb2.2 hfg ?_)
        by_cases d1 : 48 ≤ t (i + 1) ∧ t (i + 1) ≤ 57
        · rw [if_pos d1, if_pos rfl, if_neg (by omega)]
          exact h4 _ _ _ _ _
        · rw [if_neg d1]
          by_cases d2 : t (i + 1) = 120
          · rw [if_pos d2, if_neg (by decide), if_neg (by decide)]
            exact h4 _ _ _ _ _
          · rw [if_neg d2]
            by_cases d3 : t (i + 1) = 94
            · rw [if_pos d3, if_neg (by decide)]
              exact h4 _ _ _ _ _
            · rw [if_neg d3]
              by_cases d4 : t (i + 1) = 43 ∨ t (i + 1) = 45
              · rw [if_pos d4, if_neg (by decide), if_neg (fun q => absurd q.1 (by decide))]
                exact h4 _ _ _ _ _
              · rw [if_neg d4]
                exact h4 _ _ _ _ _
      · have e : i + 1 = n := by omega
        rw [e] at hfl2 ⊢
        exact CL_early hn (by decide) (by decide) hfl2
  · rw [if_neg h] at hok
    exact hok rfl 3 (by decide) (Or.inr (Or.inl ⟨rfl, h⟩))
theorem CL_N {n : Nat} {T : Nat → Int32} {K : Int32 → Int32 → Int32 → Int32 → Int32 → (Nat → Int32) → Prop} {t : Nat → Nat} {i fg num st : Nat} {has : Bool} {s : Int32} {A : Nat → Int32} (hn : n ≤ 60) (hfg : fg ≤ 3) (hi : i ≤ n) (hT : ∀ j, j < n → T j = nI (t j) ∧ t j ≤ 126) (hst : (has = true ∧ st = 2) ∨ (has = false ∧ fg = 0 ∧ (st = 1 ∨ (st = 0 ∧ ¬ (i < n ∧ t i = 45))))) (hd : ¬ (i < n ∧ 48 ≤ t i ∧ t i ≤ 57 ∧ fg < 3))
    (hok : (pN t n i num has).1 = true → ∀ st, st ≤ 5 → endOk t n st fg (pN t n i num has).2.1 → CL n T K st (pN t n i num has).2.1 s (nI (pN t n i num has).2.2.1) (nI fg) (nI (pN t n i num has).2.2.2) A)
    (hfl : ¬ (pN t n i num has).1 = true → ∀ a b c d A', K (nI (pN t n i num has).2.1) a b c d A') : CL n T K st i s (nI num) (nI fg) 0 A := by
  unfold pN at hok hfl
  by_cases h : i < n ∧ t i = 120
  · rw [if_pos h] at hok hfl
    have hb := hT i h.1
    have hc := CL_X (K := K) hn hfg (show i + 1 ≤ n by omega) hT hok hfl
    refine CL_go hn h.1 hb.1 (by decide) hc (fun K2 h2 => wp_step (by omega) hb.2 hfg ?_)
    rw [h.2, if_neg (by decide), if_pos rfl]
    rcases hst with ⟨e1, e2⟩ | ⟨e1, ef, e2⟩
    · rw [if_neg (by omega), if_pos e2]
      rw [if_pos e1] at h2
      exact h2
    · rw [if_pos (by omega)]
      rw [e1, if_neg (by decide)] at h2
      exact h2
  · rw [if_neg h] at hok hfl
    rcases hst with ⟨e1, e2⟩ | ⟨e1, ef, e2⟩
    · rw [if_pos e1] at hok
      subst e2
      exact hok rfl 2 (by decide) (Or.inl ⟨rfl, h, hd⟩)
    · rw [if_neg (by rw [e1]; decide)] at hfl
      have hfl2 := hfl Bool.false_ne_true
      by_cases h3 : i < n
      · have hb := hT i h3
        refine CL_bad hn h3 hb.1 hfl2 (fun K2 h4 => wp_step (by omega) hb.2 hfg ?_)
        by_cases d1 : 48 ≤ t i ∧ t i ≤ 57
        · exact absurd ⟨h3, d1.1, d1.2, by omega⟩ hd
        · rw [if_neg d1, if_neg (fun q => h ⟨h3, q⟩)]
          by_cases d3 : t i = 94
          · rw [if_pos d3, if_neg (by omega)]
            exact h4 _ _ _ _ _
          · rw [if_neg d3]
            by_cases d4 : t i = 43 ∨ t i = 45
            · rw [if_pos d4, if_neg (by omega), if_neg (by omega)]
              exact h4 _ _ _ _ _
            · rw [if_neg d4]
              exact h4 _ _ _ _ _
      · have e : i = n := by omega
        rw [e] at hfl2 ⊢
        exact CL_early hn (by omega) (by omega) hfl2
theorem CL_D {n : Nat} {T : Nat → Int32} {K : Int32 → Int32 → Int32 → Int32 → Int32 → (Nat → Int32) → Prop} {t : Nat → Nat} {s : Int32} {A : Nat → Int32} (hn : n ≤ 60) (hT : ∀ j, j < n → T j = nI (t j) ∧ t j ≤ 126) : ∀ {k i num st : Nat} {has : Bool}, k ≤ 3 → i ≤ n → ((has = true ∧ st = 2) ∨ (has = false ∧ k = 3 ∧ (st = 1 ∨ (st = 0 ∧ ¬ (i < n ∧ t i = 45))))) →
    ((pD t n k i num has).1 = true → ∀ st fg, st ≤ 5 → fg ≤ 3 → endOk t n st fg (pD t n k i num has).2.1 → CL n T K st (pD t n k i num has).2.1 s (nI (pD t n k i num has).2.2.1) (nI fg) (nI (pD t n k i num has).2.2.2) A) →
    (¬ (pD t n k i num has).1 = true → ∀ a b c d A', K (nI (pD t n k i num has).2.1) a b c d A') → CL n T K st i s (nI num) (nI (3 - k)) 0 A
  | 0, i, num, st, has, hk, hi, hst, hok, hfl => by
    refine CL_N hn (by omega) hi hT (hst.imp id (fun q => ⟨q.1, by omega, q.2.2⟩)) (by omega) (fun h st' h1 h2 => hok h st' 3 h1 (Nat.le_refl 3) h2) hfl
  | k + 1, i, num, st, has, hk, hi, hst, hok, hfl => by
    unfold pD at hok hfl
    by_cases h : i < n ∧ 48 ≤ t i ∧ t i ≤ 57
    · rw [if_pos h] at hok hfl
      have hb := hT i h.1
      have hc := CL_D (K := K) (A := A) (s := s) hn hT (k := k) (st := 2) (by omega) (show i + 1 ≤ n by omega) (Or.inl ⟨rfl, rfl⟩) hok hfl
      refine CL_go hn h.1 hb.1 (by decide) hc (fun K2 h2 => wp_step (by omega) hb.2 (by omega) ?_)
      rw [if_pos h.2, if_neg (by omega), if_pos (by omega)]
      rw [show (10 : Int32) = nI 10 from rfl, pk_mul, nI_add, show num * 10 + (t i - 48) = 10 * num + (t i - 48) by omega, show 3 - (k + 1) + 1 = 3 - k by omega]
      exact h2
    · rw [if_neg h] at hok hfl
      refine CL_N hn (by omega) hi hT (hst.imp id (fun q => ⟨q.1, by omega, q.2.2⟩)) (fun q => h ⟨q.1, q.2.1, q.2.2.1⟩) (fun h st' h1 h2 => hok h st' _ h1 (by omega) h2) hfl
/-- behind a term -/
theorem CL_end {n : Nat} {T : Nat → Int32} {K : Int32 → Int32 → Int32 → Int32 → Int32 → (Nat → Int32) → Prop} {t : Nat → Nat} {st i fg num p : Nat} {s : Int32} {sz : Int} {A : Nat → Int32} {z : Nat → Int} (hn : n ≤ 60) (hT : ∀ j, j < n → T j = nI (t j) ∧ t j ≤ 126) (hi : i ≤ n) (hst : st ≤ 5) (hfg : fg ≤ 3) (he : endOk t n st fg i) (hp : p ≤ 4) (hnum : num ≤ 999) (hs : s.toInt = sz) (hs2 : -1 ≤ sz ∧ sz ≤ 1) (h : fA 5 A z)
    (h1 : i = n → ∀ a b c d A', fA 5 A' (zu z p (z p + sz * num)) → K (-1) a b c d A')
    (h2 : i < n → (t i = 43 ∨ t i = 45) → ∀ A', fA 5 A' (zu z p (z p + sz * num)) → CL n T K 1 (i + 1) (sgI (t i)) 0 0 0 A')
    (h3 : i < n → ¬ (t i = 43 ∨ t i = 45) → ∀ a b c d A', K (nI i) a b c d A') : CL n T K st i s (nI num) (nI fg) (nI p) A := by
  have hse : st = 2 ∨ st = 3 ∨ st = 5 := by
    rcases he with ⟨e, _⟩ | ⟨e, _⟩ | e <;> omega
  by_cases c : i = n
  · subst c
    refine ⟨1, ?_⟩
    unfold lp_X10_fault_17
    refine br_t (nle (Nat.le_refl i) (by omega)) ?_
    unfold jn_X10_fault_57
    refine wp_mayEnd hst ?_
    rw [if_pos hse]
    exact rb_f (by decide) (wp_endTerm hp hs hs2 (nI_t (by omega)) (by omega) h (fun A' hA => h1 rfl _ _ _ _ _ hA))
  · have hlt : i < n := by omega
    have hb := hT i hlt
    by_cases c2 : t i = 43 ∨ t i = 45
    · -- the sign: the term ends, another begins
      have he2 : ∃ A', fA 5 A' (zu z p (z p + sz * num)) ∧ ∀ K3 : (Nat → Int32) → Prop, K3 A' → wp_X10_endTerm s (nI num) (nI p) A K3 := by
        refine ⟨upd A p (fdI (z p + sz * num)), h.up p _, fun K3 h4 => ?_⟩
        unfold wp_X10_endTerm
        refine wp_within ⟨fun q => ?_, fun q => ⟨vpn (by omega) (by decide), ?_⟩⟩
        · rw [btw_0] at q
          exact absurd ⟨nI_pos' (by omega), nle (b := 4) hp (by decide)⟩ q
        · rw [cln (by omega), h.g p (by omega)]
          have b1 := fdI_b (z p)
          have b2 := mb (X := 1) (Y := 999) hs2 (show -999 ≤ (num : Int) ∧ (num : Int) ≤ 999 by omega)
          exact fd_long (la (i2l_t (fdI_t _)) (lm (i2l_t hs) (i2l_t (nI_t (by omega))) (by omega)) (by omega)) (cg.add (cg_bm _) cg.rf) h4
      obtain ⟨A', hA, hw⟩ := he2
      refine CL_go hn hlt hb.1 (by decide) (h2 hlt c2 A' hA) (fun K2 h4 => wp_step hst hb.2 hfg ?_)
      rw [if_neg (by omega), if_neg (by omega), if_neg (by omega), if_pos c2, if_pos hse]
      exact hw _ h4
    · refine CL_bad hn hlt hb.1 (h3 hlt c2) (fun K2 h4 => wp_step hst hb.2 hfg ?_)
      rcases he with ⟨e, e2, e3⟩ | ⟨e, e2⟩ | e
      · subst e
        by_cases d1 : 48 ≤ t i ∧ t i ≤ 57
        · rw [if_pos d1, if_neg (by decide), if_neg (by omega)]
          exact h4 _ _ _ _ _
        · rw [if_neg d1, if_neg (fun q => e2 ⟨hlt, q⟩)]
          by_cases d3 : t i = 94
          · rw [if_pos d3, if_neg (by decide)]
            exact h4 _ _ _ _ _
          · rw [if_neg d3, if_neg c2]
            exact h4 _ _ _ _ _
      · subst e
        by_cases d1 : 48 ≤ t i ∧ t i ≤ 57
        · rw [if_pos d1, if_neg (by decide), if_neg (by omega)]
          exact h4 _ _ _ _ _
        · rw [if_neg d1]
          by_cases d2 : t i = 120
          · rw [if_pos d2, if_neg (by decide), if_neg (by decide)]
            exact h4 _ _ _ _ _
          · rw [if_neg d2, if_neg (fun q => e2 ⟨hlt, q⟩), if_neg c2]
            exact h4 _ _ _ _ _
      · subst e
        by_cases d1 : 48 ≤ t i ∧ t i ≤ 57
        · rw [if_pos d1, if_neg (by decide), if_neg (by omega)]
          exact h4 _ _ _ _ _
        · rw [if_neg d1]
          by_cases d2 : t i = 120
          · rw [if_pos d2, if_neg (by decide), if_neg (by decide)]
            exact h4 _ _ _ _ _
          · rw [if_neg d2]
            by_cases d3 : t i = 94
            · rw [if_pos d3, if_neg (by decide)]
              exact h4 _ _ _ _ _
            · rw [if_neg d3, if_neg c2]
              exact h4 _ _ _ _ _
/-- the class reads the text from a term on -/
theorem CL_tx {n : Nat} {T : Nat → Int32} {K : Int32 → Int32 → Int32 → Int32 → Int32 → (Nat → Int32) → Prop} {t : Nat → Nat} (hn : n ≤ 60) (hT : ∀ j, j < n → T j = nI (t j) ∧ t j ≤ 126) : ∀ {k i st : Nat} {s : Int32} {sz : Int} {z : Nat → Int} {A : Nat → Int32}, n < i + k → i ≤ n → (st = 1 ∨ (st = 0 ∧ ¬ (i < n ∧ t i = 45))) → s.toInt = sz → -1 ≤ sz ∧ sz ≤ 1 → fA 5 A z →
    ((tx t n k i sz z).1 = true → ∀ a b c d A', fA 5 A' (tx t n k i sz z).2.2 → K (-1) a b c d A') → (¬ (tx t n k i sz z).1 = true → ∀ a b c d A', K (nI (tx t n k i sz z).2.1) a b c d A') → CL n T K st i s 0 0 0 A
  | 0, i, st, s, sz, z, A, hk, hi, _, _, _, _, _, _ => absurd hk (by omega)
  | k + 1, i, st, s, sz, z, A, hk, hi, hst, hs, hs2, h, hok, hfl => by
    unfold tx at hok hfl
    obtain ⟨b1, b2, b3, b4, b5⟩ := p3_b (t := t) hi
    refine CL_D (k := 3) (has := false) (num := 0) hn hT (Nat.le_refl 3) hi (Or.inr ⟨rfl, rfl, hst⟩) (fun g st' fg h1 h2 h3 => ?_) (fun g => ?_)
    · rw [if_pos g] at hok hfl
      have b6 := b5 g
      refine CL_end hn hT b2 h1 h2 h3 b4 b3 hs hs2 h (fun e a b c d A' hA => ?_) (fun e1 e2 A' hA => ?_) (fun e1 e2 => ?_)
      · rw [if_neg (by omega)] at hok
        exact hok (decide_eq_true e) a b c d A' hA
      · rw [if_pos ⟨e1, e2⟩] at hok hfl
        refine CL_tx hn hT (k := k) (by omega) (by omega) (Or.inl rfl) (sz := if t (pD t n 3 i 0 false).2.1 = 45 then -1 else 1) ?_ ?_ hA hok hfl
        · unfold sgI
          by_cases c : t (pD t n 3 i 0 false).2.1 = 45
          · rw [if_pos c, if_pos c]
            rfl
          · rw [if_neg c, if_neg c]
            rfl
        · by_cases c : t (pD t n 3 i 0 false).2.1 = 45
          · rw [if_pos c]
            decide
          · rw [if_neg c]
            decide
      · rw [if_neg (fun q => e2 q.2)] at hfl
        exact hfl (fun q => absurd (of_decide_eq_true q) (by omega))
    · rw [if_neg g] at hfl
      exact hfl Bool.false_ne_true
/-- the whole text: a sign perhaps -/
def txt (t : Nat → Nat) (n : Nat) : Bool × Nat × (Nat → Int) := if 0 < n ∧ t 0 = 45 then tx t n (n + 1) 1 (-1) (fun _ => 0) else tx t n (n + 1) 0 1 (fun _ => 0)
theorem wp_cfault {n : Nat} {s nu fg pw : Int32} {A T : Nat → Int32} {t : Nat → Nat} {K : Int32 → Int32 → Int32 → Int32 → Int32 → (Nat → Int32) → Prop} (hn : n ≤ 60) (hT : ∀ j, j < n → T j = nI (t j) ∧ t j ≤ 126) (hok : (txt t n).1 = true → ∀ a b c d A', fA 5 A' (txt t n).2.2 → K (-1) a b c d A') (hfl : ¬ (txt t n).1 = true → ∀ a b c d A', K (nI (txt t n).2.1) a b c d A') : wp_X10_fault (nI n) s nu fg pw A T K := by
  unfold wp_X10_fault
  refine wp_fill_spec (by decide) ?_
  unfold wp_X10_startTerm
  have h0 : fA 5 (fun i => if i < 5 then 0 else A i) (fun _ => 0) := fun i hi => by
    show (if i < 5 then (0 : Int32) else A i) = fdI 0
    rw [if_pos hi, fdI_z]
  unfold txt at hok hfl
  by_cases c : 0 < n ∧ t 0 = 45
  · rw [if_pos c] at hok hfl
    have hb := hT 0 c.1
    have hc := CL_tx (K := K) hn hT (k := n + 1) (i := 1) (st := 1) (s := -1) (sz := -1) (by omega) (by omega) (Or.inl rfl) rfl (by decide) h0 hok hfl
    refine CL_go (st := 0) (i := 0) (fg := 0) hn c.1 hb.1 (by decide) hc (fun K2 h2 => wp_step (by decide) hb.2 (by decide) ?_)
    rw [c.2, if_neg (by decide), if_neg (by decide), if_neg (by decide), if_pos (by decide), if_neg (by decide), if_pos (by decide)]
    exact h2
  · rw [if_neg c] at hok hfl
    exact CL_tx (K := K) hn hT (k := n + 1) (i := 0) (st := 0) (s := 1) (sz := 1) (by omega) (Nat.zero_le _) (Or.inr ⟨rfl, c⟩) rfl (by decide) h0 hok hfl
