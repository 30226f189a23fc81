/-! read -/
def txr (t : Nat → Nat) (n k j : Nat) (z : Nat → Int) : Bool × Nat × (Nat → Int) := if j < n ∧ (t j = 43 ∨ t j = 45) then tx t n k (j + 1) (if t j = 45 then -1 else 1) z else (decide (j = n), j, z)
theorem tx_s (t : Nat → Nat) (n k i : Nat) (s : Int) (z : Nat → Int) : tx t n (k + 1) i s z = if (pD t n 3 i 0 false).1 = true then txr t n k (pD t n 3 i 0 false).2.1 (zu z (pD t n 3 i 0 false).2.2.2 (z (pD t n 3 i 0 false).2.2.2 + s * ((pD t n 3 i 0 false).2.2.1 : Int))) else (false, (pD t n 3 i 0 false).2.1, z) := rfl
theorem wp_text58 {n : Nat} {T : Nat → Int32} {t : Nat → Nat} {K : Int32 → Int32 → (Nat → Int32) → Prop} (hn : n ≤ 60) (hT : ∀ j, j < n → T j = nI (t j) ∧ t j ≤ 126) {m j : Nat} {B : Nat → Int32} {z : Nat → Int} (hj : j ≤ n) (hm : n < j + 1 + m) (hB : mA 5 B z) (hok : (txr t n m j z).1 = true → ∀ B', mA 5 B' (txr t n m j z).2.2 → K 1 (nI (txr t n m j z).2.1) B') (hfl : ¬ (txr t n m j z).1 = true → ∀ B', K 0 (nI (txr t n m j z).2.1) B') : lp_X12_isText_58 (nI n) T (jn_X12_isText_120 (nI n) T K) K (m + 1) 1 (nI j) B := by
  refine G_X12_isText_58 (I := fun m a b g => (a = 0 ∧ ∀ B', K 0 b B') ∨ (a = 1 ∧ ∃ (j : Nat) (z : Nat → Int), nI j = b ∧ j ≤ n ∧ n < j + 1 + m ∧ mA 5 g z ∧ ((txr t n m j z).1 = true → ∀ B', mA 5 B' (txr t n m j z).2.2 → K 1 (nI (txr t n m j z).2.1) B') ∧ (¬ (txr t n m j z).1 = true → ∀ B', K 0 (nI (txr t n m j z).2.1) B'))) (fun k m a b g e ih => ?_) m _ _ _ (Or.inr ⟨rfl, j, z, rfl, hj, hm, hB, hok, hfl⟩)
  rcases e with ⟨r1, e⟩ | ⟨r1, j, z, r2, hj, hm, hB, hok, hfl⟩
  · subst r1
    unfold lp_X12_isText_58
    refine br_t rfl ?_
    unfold jn_X12_isText_120
    exact br_t rfl (e _)
  · subst r1 r2
    unfold lp_X12_isText_58
    refine br_f (by decide) (wp_isAt (a := 43) (b := 43) (t := t) hn hj (by decide) (by decide) hT ?_)
    unfold txr at hok hfl
    by_cases c : j < n ∧ (t j = 43 ∨ t j = 45)
    · rw [if_pos c] at hok hfl
      obtain ⟨m', rfl⟩ : ∃ m', m = m' + 1 := ⟨m - 1, by omega⟩
      rw [tx_s] at hok hfl
      have hb3 := p3_b (t := t) (show j + 1 ≤ n by omega)
      have go : jn_X12_isText_84 (nI n) T (fun x1 I_0_at A_reads => lp_X12_isText_58 (nI n) T (jn_X12_isText_120 (nI n) T K) K k x1 I_0_at A_reads) (jn_X12_isText_120 (nI n) T K) K (nI j) g := by
        unfold jn_X12_isText_84
        refine wp_isAt (a := 43) (b := 43) (t := t) hn hj (by decide) (by decide) hT ?_
        have go2 : ∀ (s : Int32), s.toInt = (if t j = 45 then -1 else 1) → jn_X12_isText_100 (nI n) T (fun x1 I_0_at A_reads => lp_X12_isText_58 (nI n) T (jn_X12_isText_120 (nI n) T K) K k x1 I_0_at A_reads) (jn_X12_isText_120 (nI n) T K) K s (nI j) g := by
          intro s hs
          unfold jn_X12_isText_100
          intro y1 q1
          rw [nI_1] at q1
          subst q1
          refine wp_isTerm (sz := if t j = 45 then -1 else 1) hn (by omega) hT hs ?_ hB (fun g1 B' hB' => ?_) (fun g1 => ?_)
          · by_cases d : t j = 45
            · rw [if_pos d]
              decide
            · rw [if_neg d]
              decide
          · rw [if_pos g1] at hok hfl
            have h5 := hb3.2.2.2.2 g1
            exact ih m' _ _ _ rfl (Or.inr ⟨rfl, _, _, rfl, hb3.2.1, by omega, hB', hok, hfl⟩)
          · rw [if_neg g1] at hfl
            exact ih m' _ _ _ rfl (Or.inl ⟨rfl, hfl Bool.false_ne_true⟩)
        by_cases d : t j = 43
        · rw [if_pos ⟨c.1, by omega, by omega⟩]
          exact br_f (by decide) (go2 1 (by rw [if_neg (by omega)]; rfl))
        · rw [if_neg (fun q => d (by omega))]
          exact br_t rfl (go2 (-1) (by rw [if_pos (by omega)]; rfl))
      by_cases d : t j = 43
      · rw [if_pos ⟨c.1, by omega, by omega⟩]
        exact rb_f (by decide) go
      · rw [if_neg (fun q => d (by omega))]
        refine rb_t rfl (wp_isAt (a := 45) (b := 45) (t := t) hn hj (by decide) (by decide) hT ?_)
        rw [if_pos ⟨c.1, by omega, by omega⟩]
        exact br_f (by decide) go
    · rw [if_neg c] at hok hfl
      have out : jn_X12_isText_120 (nI n) T K 1 (nI j) g := by
        unfold jn_X12_isText_120
        refine br_f (by decide) ?_
        by_cases d : j = n
        · subst d
          exact rb_t rfl (hok (decide_eq_true rfl) _ hB)
        · exact rb_f (fun q => d ((nI_eq (by omega) (by omega)).mp q)) (hfl (fun q => d (of_decide_eq_true q)) _)
      rw [if_neg (fun q => c ⟨q.1, Or.inl (by omega)⟩)]
      refine rb_t rfl (wp_isAt (a := 45) (b := 45) (t := t) hn hj (by decide) (by decide) hT ?_)
      rw [if_neg (fun q => c ⟨q.1, Or.inr (by omega)⟩)]
      exact br_t rfl out
theorem wp_isText {n : Nat} {T B : Nat → Int32} {t : Nat → Nat} {K : Int32 → Int32 → (Nat → Int32) → Prop} (hn : n ≤ 60) (hT : ∀ j, j < n → T j = nI (t j) ∧ t j ≤ 126) (hok : (txt t n).1 = true → ∀ B', mA 5 B' (txt t n).2.2 → K 1 (nI (txt t n).2.1) B') (hfl : ¬ (txt t n).1 = true → ∀ B', K 0 (nI (txt t n).2.1) B') : wp_X12_isText (nI n) 0 T B K := by
  unfold wp_X12_isText
  refine V_X12_isText_2 5 (fun i a g => nI 0 = a ∧ mA i g (fun _ => 0)) (fun k a g e => ?_) (fun k i a g hi e ih => ?_) (i := 0) (Nat.zero_le _) ⟨rfl, fun i hi => absurd hi (Nat.not_lt_zero i)⟩
  · obtain ⟨r1, e⟩ := e
    subst r1
    unfold lp_X12_isText_2
    refine br_t (nle (Nat.le_refl 5) (by decide)) ?_
    unfold jn_X12_isText_20
    refine wp_isAt (a := 45) (b := 45) (t := t) hn (Nat.zero_le _) (by decide) (by decide) hT ?_
    unfold txt at hok hfl
    have go : ∀ (i : Nat) (s : Int32) (sz : Int), i ≤ n → s.toInt = sz → -1 ≤ sz ∧ sz ≤ 1 → ((tx t n (n + 1) i sz (fun _ => 0)).1 = true → ∀ B', mA 5 B' (tx t n (n + 1) i sz (fun _ => 0)).2.2 → K 1 (nI (tx t n (n + 1) i sz (fun _ => 0)).2.1) B') → (¬ (tx t n (n + 1) i sz (fun _ => 0)).1 = true → ∀ B', K 0 (nI (tx t n (n + 1) i sz (fun _ => 0)).2.1) B') → jn_X12_isText_54 (nI n) T K s (nI i) g := by
      intro i s sz hi hs hs2 hok hfl
      unfold jn_X12_isText_54
      rw [tx_s] at hok hfl
      have hb3 := p3_b (t := t) hi
      refine wp_isTerm hn hi hT hs hs2 e (fun g1 B' hB' => ?_) (fun g1 => ?_)
      · rw [if_pos g1] at hok hfl
        exact ⟨n + 1, wp_text58 hn hT hb3.2.1 (by omega) hB' hok hfl⟩
      · rw [if_neg g1] at hfl
        refine ⟨1, ?_⟩
        unfold lp_X12_isText_58
        refine br_t rfl ?_
        unfold jn_X12_isText_120
        exact br_t rfl (hfl Bool.false_ne_true _)
    by_cases c : 0 < n ∧ t 0 = 45
    · rw [if_pos c] at hok hfl
      rw [if_pos ⟨c.1, by omega, by omega⟩]
      refine br_f (by decide) ?_
      unfold jn_X12_isText_37
      exact rb_t rfl (go 1 (-1) (-1) (by omega) rfl (by decide) hok hfl)
    · rw [if_neg c] at hok hfl
      rw [if_neg (fun q => c ⟨q.1, by omega⟩)]
      refine br_t rfl ?_
      unfold jn_X12_isText_37
      exact rb_f (by decide) (go 0 1 1 (Nat.zero_le _) rfl (by decide) hok hfl)
  · obtain ⟨r1, e⟩ := e
    subst r1
    unfold lp_X12_isText_2
    refine br_f (ngt (b := 5) hi (by decide)) ⟨vpn hi (by decide), ?_⟩
    rw [cln (by omega)]
    refine ih _ _ ⟨rfl, fun n hn => ?_⟩
    by_cases q : n = i
    · rw [q, pk_us]
      rfl
    · rw [pk_un q]
      exact e n (by omega)
theorem tx_le {t : Nat → Nat} {n : Nat} : ∀ {k i : Nat} {s : Int} {z : Nat → Int}, i ≤ n → (tx t n k i s z).2.1 ≤ n
  | 0, i, s, z, hi => hi
  | k + 1, i, s, z, hi => by
    rw [tx_s]
    have hb3 := p3_b (t := t) hi
    by_cases g : (pD t n 3 i 0 false).1 = true
    · rw [if_pos g]
      unfold txr
      by_cases c : (pD t n 3 i 0 false).2.1 < n ∧ (t (pD t n 3 i 0 false).2.1 = 43 ∨ t (pD t n 3 i 0 false).2.1 = 45)
      · rw [if_pos c]
        exact tx_le (by omega)
      · rw [if_neg c]
        exact hb3.2.1
    · rw [if_neg g]
      exact hb3.2.1
theorem txt_le (t : Nat → Nat) (n : Nat) : (txt t n).2.1 ≤ n := by
  unfold txt
  by_cases c : 0 < n ∧ t 0 = 45
  · rw [if_pos c]
    exact tx_le (by omega)
  · rw [if_neg c]
    exact tx_le (Nat.zero_le _)
theorem pr_read {n : Nat} {F A T F' T' R : Nat → Int32} {s nu fg pw sz at_ : Int32} {f : Nat → Int} {K : Int32 → (Nat → Int32) → Int32 → Int32 → Int32 → Int32 → Int32 → (Nat → Int32) → Int32 → Int32 → Int32 → Int32 → (Nat → Int32) → (Nat → Int32) → Prop} (hn : n ≤ 60) (h : ∀ i, i < 60 → T' i = T i ∧ 0 ≤ (T i).toInt ∧ (T i).toInt ≤ 126) (hf : rl 5 F F' f)
    (hK : ∀ r F2 a b c d A2 e g F2' R2 f2, rl 5 F2 F2' f2 → K r F2 0 a b c d A2 r 0 e g F2' R2) : wp_X11_read F (nI n) s nu fg pw A T (fun r F2 z a b c d A2 => wp_X12_read (nI n) sz at_ F' T' R (fun r2 z2 e g F2' R2 => K r F2 z a b c d A2 r2 z2 e g F2' R2)) := by
  unfold wp_X11_read
  have hT : ∀ j, j < n → T j = nI ((fun i => (T i).toInt.toNat) j) ∧ (fun i => (T i).toInt.toNat) j ≤ 126 := fun j hj => by
    have h1 := h j (by omega)
    exact ⟨i_nI h1.2.1, by show (T j).toInt.toNat ≤ 126; omega⟩
  have hT' : ∀ j, j < n → T' j = nI ((fun i => (T i).toInt.toNat) j) ∧ (fun i => (T i).toInt.toNat) j ≤ 126 := fun j hj => by
    rw [(h j (by omega)).1]
    exact hT j hj
  have hle := txt_le (fun i => (T i).toInt.toNat) n
  refine wp_cfault hn hT (fun g a b c d A' hA => ?_) (fun g a b c d A' => ?_)
  · refine br_t rfl ?_
    rw [cl0, show ((5 : Int32)).toNatClampNeg = 5 from rfl, va_cpy_0]
    refine wp_highest (by decide) ?_
    unfold wp_X12_read
    refine wp_isText hn hT' (fun _ B' hB => rb_f (by decide) ?_) (fun g2 => absurd g g2)
    refine V_X12_read_35 5 (fun i a b c g r => (0 : Int32) = a ∧ nI n = b ∧ nI (txt (fun i => (T i).toInt.toNat) n).2.1 = c ∧ cpy i B' F' = g ∧ B' = r) (fun k a b c g r e => ?_) (fun k i a b c g r hi e ih => ?_) (i := 0) (Nat.zero_le _) ⟨rfl, rfl, rfl, cpy_0 _ _, rfl⟩
    · obtain ⟨r1, r2, r3, r4, r5⟩ := e
      subst r1 r2 r3 r4 r5
      unfold lp_X12_read_35
      refine br_t (nle (Nat.le_refl 5) (by decide)) ?_
      unfold jn_X12_read_58
      refine wp_degreeOf ?_
      have h2 : rl 5 (cpy 5 A' F) (cpy 5 B' F') (txt (fun i => (T i).toInt.toNat) n).2.2 := rl_iff.mpr ⟨fun i hi => by rw [cpy_at hi]; exact hA i hi, fun i hi => by rw [cpy_at hi]; exact hB i hi⟩
      rw [h2.hi 5 (Nat.le_refl 5)]
      exact hK _ _ _ _ _ _ _ _ _ _ _ _ h2
    · obtain ⟨r1, r2, r3, r4, r5⟩ := e
      subst r1 r2 r3 r4 r5
      unfold lp_X12_read_35
      refine br_f (ngt (b := 5) hi (by decide)) ⟨vpn hi (by decide), fun y q => ?_⟩
      subst q
      rw [cln (by omega)]
      exact ih _ _ _ _ _ ⟨rfl, rfl, rfl, (cpy_s _ _ _).symm, rfl⟩
  · refine br_f (nI_ne_m1 (by omega)) ?_
    unfold wp_X12_read
    exact wp_isText hn hT' (fun g2 => absurd g2 g) (fun _ B' => rb_t rfl (hK _ _ _ _ _ _ _ _ _ _ _ _ hf))
