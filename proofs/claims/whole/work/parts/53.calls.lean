/-! take, image, undo, count, judge, racks: class beside model -/
theorem cl0 : ((0 : Int32)).toNatClampNeg = 0 := rfl
theorem pr_take {top isF fB : Int32} {A N B M : Nat → Int32} {z zn : Nat → Int} {K : Int32 → (Nat → Int32) → Int32 → (Nat → Int32) → Prop} (hf : fnd top isF fB) (h : rl 75 A B z) (hn : ¬ isF = 0 → rl 75 N M zn) (hK : ∀ r A' B' z', rl 75 A' B' z' → K r A' r B') : wp_X11_take A top N (fun r A' => wp_X12_take isF B M (fun r2 B' => K r A' r2 B')) := by
  unfold wp_X11_take
  refine wp_isThere hf ⟨fun q => ?_, fun q => ?_⟩
  · unfold wp_X4_become
    rw [cl0, show ((75 : Int32)).toNatClampNeg = 75 from rfl, va_cpy_0]
    refine wp_topDer ?_
    unfold wp_X12_take
    refine rb_f q ?_
    refine V_X12_take_12 75 (fun i g => cpy i M B = g) (fun k g e => ?_) (fun k i g hi e ih => ?_) (i := 0) (Nat.zero_le _) (cpy_0 _ _)
    · subst e
      unfold lp_X12_take_12
      refine br_t (nle (Nat.le_refl 75) (by decide)) ?_
      unfold jn_X12_take_36
      refine wp_orderOf ?_
      have h2 : rl 75 (cpy 75 N A) (cpy 75 M B) zn := (hn q).cpy
      rw [h2.or 75 (Nat.le_refl 75)]
      exact hK _ _ _ _ h2
    · subst e
      unfold lp_X12_take_12
      refine br_f (ngt (b := 75) hi (by decide)) ⟨vpn hi (by decide), fun y0 qy0 => ?_⟩
      subst qy0
      rw [cln (by omega)]
      exact ih _ (cpy_s _ _ _).symm
  · unfold wp_X12_take
    exact rb_t q (hK _ _ _ _ h)
/-- b's greatest power is there, with number 1 -/
def mon (z : Nat → Int) (fB : Int32) : Prop := ∃ t : Nat, t ≤ 8 ∧ fB = nI t ∧ cg (z t) 1 ∧ ∀ v, t < v → v < 9 → cg (z v) 0
/-- what an image keeps, of class and model -/
def kp (f o n b : Nat → Int32) (top size : Int32) (ks as : Nat → Int32) (f' o' n' b' : Nat → Int32) (isF fB ch : Int32) (ws vs : Nat → Int32) : Prop :=
  (∃ z, rl 5 f f' z) ∧ (∃ z, rl 75 o o' z) ∧ fnd top isF fB ∧ (¬ isF = 0 → (∃ z, rl 75 n n' z) ∧ ∃ z, rl 9 b b' z ∧ mon z fB) ∧ (∃ m : Nat, m ≤ 8 ∧ size = nI m ∧ ch = nI m) ∧ pl ks as ws vs
theorem fnd.nz {top isF fB : Int32} (h : fnd top isF fB) : narrow .boolean (.int isF) = .int isF := by
  rcases h with ⟨_, h⟩ | ⟨t, _, _, h, _⟩ <;> rw [h] <;> rfl
theorem pl.cpy {A A2 B B2 : Nat → Int32} (h : pl A A2 B B2) (X X2 Y Y2 : Nat → Int32) : pl (cpy 8 A X) (cpy 8 A2 X2) (cpy 8 B Y) (cpy 8 B2 Y2) := by
  intro i hi
  rw [cpy_at hi, cpy_at hi, cpy_at hi, cpy_at hi]
  exact h i hi
theorem kp.cpy {f o n b : Nat → Int32} {top size : Int32} {ks as : Nat → Int32} {f' o' n' b' : Nat → Int32} {isF fB ch : Int32} {ws vs : Nat → Int32} (h : kp f o n b top size ks as f' o' n' b' isF fB ch ws vs) (x1 x2 x3 x4 x5 x6 y1 y2 y3 y4 y5 y6 : Nat → Int32) :
    kp (cpy 5 f x1) (cpy 75 o x2) (cpy 75 n x3) (cpy 9 b x4) top size (cpy 8 ks x5) (cpy 8 as x6) (cpy 5 f' y1) (cpy 75 o' y2) (cpy 75 n' y3) (cpy 9 b' y4) isF fB ch (cpy 8 ws y5) (cpy 8 vs y6) := by
  obtain ⟨⟨z1, h1⟩, ⟨z2, h2⟩, h3, h4, h5, h6⟩ := h
  refine ⟨⟨z1, h1.cpy⟩, ⟨z2, h2.cpy⟩, h3, fun q => ?_, h5, h6.cpy _ _ _ _⟩
  obtain ⟨⟨z3, h7⟩, z4, h8, h9⟩ := h4 q
  exact ⟨⟨z3, h7.cpy⟩, z4, h8.cpy, h9⟩
theorem wp_sbecome {f o : Nat → Int32} {top : Int32} {n b : Nat → Int32} {size : Int32} {ks as f1 o1 : Nat → Int32} {top1 : Int32} {n1 b1 : Nat → Int32} {size1 : Int32} {ks1 as1 : Nat → Int32} {K : (Nat → Int32) → (Nat → Int32) → Int32 → (Nat → Int32) → (Nat → Int32) → Int32 → (Nat → Int32) → (Nat → Int32) → Prop}
    (hK : K (cpy 5 f1 f) (cpy 75 o1 o) top1 (cpy 75 n1 n) (cpy 9 b1 b) size1 (cpy 8 ks1 ks) (cpy 8 as1 as)) : wp_X9_become f o top n b size ks as f1 o1 top1 n1 b1 size1 ks1 as1 K := by
  unfold wp_X9_become wp_X4_become wp_X0_become wp_X4_become wp_X5_become
  rw [cl0, show ((75 : Int32)).toNatClampNeg = 75 from rfl, show ((9 : Int32)).toNatClampNeg = 9 from rfl, show ((8 : Int32)).toNatClampNeg = 8 from rfl, show ((5 : Int32)).toNatClampNeg = 5 from rfl]
  rw [va_cpy_0, va_cpy_0, va_cpy_0, va_cpy_0, va_cpy_0, va_cpy_0]
  exact hK
theorem pr_image {im : Int32} {f o : Nat → Int32} {top : Int32} {n b : Nat → Int32} {size : Int32} {ks as f1 o1 : Nat → Int32} {top1 : Int32} {n1 b1 : Nat → Int32} {size1 : Int32} {ks1 as1 : Nat → Int32} {isF fB ch ik kF kB kC : Int32} {f' o' n' b' ws vs f1' o1' n1' b1' ws1 vs1 : Nat → Int32}
    {K : Int32 → Int32 → (Nat → Int32) → (Nat → Int32) → Int32 → (Nat → Int32) → (Nat → Int32) → Int32 → (Nat → Int32) → (Nat → Int32) → Int32 → Int32 → Int32 → Int32 → Int32 → (Nat → Int32) → (Nat → Int32) → (Nat → Int32) → (Nat → Int32) → (Nat → Int32) → (Nat → Int32) → Prop}
    (h : kp f o n b top size ks as f' o' n' b' isF fB ch ws vs)
    (hK : ∀ r f2 o2 n2 b2 ks2 as2 f2' o2' n2' b2' ws2 vs2, kp f2 o2 n2 b2 top size ks2 as2 f2' o2' n2' b2' isF fB ch ws2 vs2 → K r 1 f2 o2 top n2 b2 size ks2 as2 r 1 isF fB ch f2' o2' n2' b2' ws2 vs2) :
    wp_X11_image im f o top n b size ks as f1 o1 top1 n1 b1 size1 ks1 as1 (fun r im' f2 o2 top2 n2 b2 size2 ks2 as2 => wp_X12_image isF fB ch ik kF kB kC f' o' n' b' ws vs f1' o1' n1' b1' ws1 vs1 (fun r2 ik' kF' kB' kC' f2' o2' n2' b2' ws2 vs2 => K r im' f2 o2 top2 n2 b2 size2 ks2 as2 r2 ik' kF' kB' kC' f2' o2' n2' b2' ws2 vs2)) := by
  unfold wp_X11_image
  refine wp_sbecome (wp_highest (by decide) (wp_mimage h.2.2.1.nz ?_))
  obtain ⟨z, hz⟩ := h.1
  rw [hz.hi 5 (Nat.le_refl 5)]
  exact hK _ _ _ _ _ _ _ _ _ _ _ _ _ (h.cpy _ _ _ _ _ _ _ _ _ _ _ _)
theorem pr_undo {im : Int32} {f o : Nat → Int32} {top : Int32} {n b : Nat → Int32} {size : Int32} {ks as f1 o1 : Nat → Int32} {top1 : Int32} {n1 b1 : Nat → Int32} {size1 : Int32} {ks1 as1 : Nat → Int32} {isF fB ch kF kB kC : Int32} {f' o' n' b' ws vs f1' o1' n1' b1' ws1 vs1 : Nat → Int32}
    {K : Int32 → (Nat → Int32) → (Nat → Int32) → Int32 → (Nat → Int32) → (Nat → Int32) → Int32 → (Nat → Int32) → (Nat → Int32) → Int32 → Int32 → Int32 → Int32 → (Nat → Int32) → (Nat → Int32) → (Nat → Int32) → (Nat → Int32) → (Nat → Int32) → (Nat → Int32) → Prop}
    (h : kp f o n b top size ks as f' o' n' b' isF fB ch ws vs) (h1 : ¬ im = 0 → kp f1 o1 n1 b1 top1 size1 ks1 as1 f1' o1' n1' b1' kF kB kC ws1 vs1)
    (hK : ∀ r f2 o2 top2 n2 b2 size2 ks2 as2 isF2 fB2 ch2 f2' o2' n2' b2' ws2 vs2, kp f2 o2 n2 b2 top2 size2 ks2 as2 f2' o2' n2' b2' isF2 fB2 ch2 ws2 vs2 → K r f2 o2 top2 n2 b2 size2 ks2 as2 r isF2 fB2 ch2 f2' o2' n2' b2' ws2 vs2) :
    wp_X11_undo im f o top n b size ks as f1 o1 top1 n1 b1 size1 ks1 as1 (fun r f2 o2 top2 n2 b2 size2 ks2 as2 => wp_X12_undo isF fB ch im kF kB kC f' o' n' b' ws vs f1' o1' n1' b1' ws1 vs1 (fun r2 isF2 fB2 ch2 f2' o2' n2' b2' ws2 vs2 => K r f2 o2 top2 n2 b2 size2 ks2 as2 r2 isF2 fB2 ch2 f2' o2' n2' b2' ws2 vs2)) := by
  unfold wp_X11_undo
  refine ⟨fun q => ?_, fun q => ?_⟩
  · have g := h1 q
    refine wp_sbecome (wp_highest (by decide) (wp_mundo g.2.2.1.nz q ?_))
    have g2 := g.cpy f o n b ks as f' o' n' b' ws vs
    obtain ⟨z, hz⟩ := g2.1
    rw [hz.hi 5 (Nat.le_refl 5)]
    exact hK _ _ _ _ _ _ _ _ _ _ _ _ _ _ _ _ _ _ g2
  · unfold wp_X12_undo
    exact rb_t q (hK _ _ _ _ _ _ _ _ _ _ _ _ _ _ _ _ _ _ h)
/-- how many numbers aren't below 0 -/
def nbA (A : Nat → Int32) : Nat → Nat
  | 0 => 0
  | n + 1 => nbA A n + (if A n < 0 then 0 else 1)
theorem nb_ct {A : Nat → Int32} (n : Nat) : nbA A (n + 1) = nbA A n + (if A n < 0 then 0 else 1) := rfl
theorem wp_notBelow {A : Nat → Int32} {K : Int32 → Prop} (h : K (nI (nbA A 3))) : wp_X3_notBelow A K := by
  unfold wp_X3_notBelow
  intro y hy
  subst hy
  refine V_X3_notBelow_10 3 (fun i g g3 => nI (nbA A i) = g ∧ nI 3 = g3) (fun k g g3 e => ?_) (fun k i g g3 hi e ih => ?_) (i := 0) (Nat.zero_le _) ⟨rfl, rfl⟩
  · obtain ⟨e1, e2⟩ := e
    subst e1 e2
    unfold lp_X3_notBelow_10
    exact br_t (nle (Nat.le_refl 3) (by decide)) h
  · obtain ⟨e1, e2⟩ := e
    subst e1 e2
    unfold lp_X3_notBelow_10
    refine br_f (ngt (b := 3) hi (by decide)) ⟨vpn hi (by decide), fun y qy => ?_⟩
    subst qy
    rw [cln (by omega)]
    unfold jn_X3_notBelow_30
    refine ⟨fun q => ih _ _ ⟨?_, rfl⟩, fun q => ih _ _ ⟨?_, rfl⟩⟩
    · rw [nb_ct, if_pos q]
      rfl
    · rw [nI_1, nb_ct, if_neg q]
theorem nb_eq {A B : Nat → Int32} : ∀ {n : Nat}, (∀ i, i < n → B i = A i) → nbA A n = nbA B n
  | 0, _ => rfl
  | n + 1, h => by rw [nb_ct, nb_ct, nb_eq (fun i hi => h i (by omega)), h n (Nat.lt_succ_self n)]
theorem not0_lt {x : Int32} : ¬ 0 ≤ x ↔ x < 0 := Int32.not_le
theorem pr_count {x1 : Int32} {f o : Nat → Int32} {top size : Int32} {ks : Nat → Int32} {tsz : Int32} {ls : Nat → Int32} {isF fB : Int32} {f' o' ks' ls' : Nat → Int32} {zf zo : Nat → Int} {K : Int32 → Int32 → Prop}
    (hf : rl 5 f f' zf) (ho : rl 75 o o' zo) (hfn : fnd top isF fB) (hk : ∀ i, i < 3 → ks' i = ks i) (hl : ∀ i, i < 3 → ls' i = ls i) (hK : ∀ r, K r r) :
    wp_X11_count x1 f o top size ks tsz ls (fun r => wp_X12_count x1 isF size tsz f' o' ks' ls' (fun r2 => K r r2)) := by
  unfold wp_X11_count
  refine ⟨fun q => ?_, fun q => ?_, fun q => ?_, fun q => ?_, fun q => ?_, fun q => ?_, fun q => ?_, fun q0 q1 q2 q3 q4 q5 q6 => ?_⟩
  · subst q
    refine wp_others (by decide) ?_
    unfold wp_X12_count
    refine ⟨fun _ => ?_, fun e => absurd e (by decide), fun e => absurd e (by decide), fun e => absurd e (by decide), fun e => absurd e (by decide), fun e => absurd e (by decide), fun e => absurd e (by decide), fun e => absurd rfl e⟩
    refine V_X12_count_46 5 (fun i g => nI (ctA f' i) = g) (fun k g e => ?_) (fun k i g hi e ih => ?_) (i := 0) (Nat.zero_le _) rfl
    · subst e
      unfold lp_X12_count_46
      refine br_t (nle (Nat.le_refl 5) (by decide)) ?_
      rw [hf.ct 5 (Nat.le_refl 5)]
      exact hK _
    · subst e
      unfold lp_X12_count_46
      refine br_f (ngt (b := 5) hi (by decide)) ⟨vpn hi (by decide), ?_⟩
      rw [cln (by omega)]
      unfold jn_X12_count_66
      refine ⟨fun q y qy => ih _ ?_, fun q y qy => ih _ ?_⟩
      · rw [qy, show (1 : Int32) = nI 1 from rfl, nI_add]
        conv => lhs; unfold ctA
        rw [if_neg q]
      · rw [qy, show (0 : Int32) = nI 0 from rfl, nI_add]
        conv => lhs; unfold ctA
        rw [if_pos q]
  · subst q
    refine wp_others (by decide) ?_
    unfold wp_X12_count
    refine ⟨fun e => absurd e (by decide), fun _ => ?_, fun e => absurd e (by decide), fun e => absurd e (by decide), fun e => absurd e (by decide), fun e => absurd e (by decide), fun e => absurd e (by decide), fun _ e => absurd rfl e⟩
    refine wp_numbers ?_
    rw [ho.ct 75 (Nat.le_refl 75)]
    exact hK _
  · subst q
    unfold wp_X12_count
    exact ⟨fun e => absurd e (by decide), fun e => absurd e (by decide), fun _ => hK _, fun e => absurd e (by decide), fun e => absurd e (by decide), fun e => absurd e (by decide), fun e => absurd e (by decide), fun _ _ e => absurd rfl e⟩
  · subst q
    unfold wp_X12_count
    exact ⟨fun e => absurd e (by decide), fun e => absurd e (by decide), fun e => absurd e (by decide), fun _ => hK _, fun e => absurd e (by decide), fun e => absurd e (by decide), fun e => absurd e (by decide), fun _ _ _ e => absurd rfl e⟩
  · subst q
    refine wp_notBelow ?_
    unfold wp_X12_count
    refine ⟨fun e => absurd e (by decide), fun e => absurd e (by decide), fun e => absurd e (by decide), fun e => absurd e (by decide), fun _ => ?_, fun e => absurd e (by decide), fun e => absurd e (by decide), fun _ _ _ _ e => absurd rfl e⟩
    refine V_X12_count_93 3 (fun i g => nI (nbA ks' i) = g) (fun k g e => ?_) (fun k i g hi e ih => ?_) (i := 0) (Nat.zero_le _) rfl
    · subst e
      unfold lp_X12_count_93
      refine br_t (nle (Nat.le_refl 3) (by decide)) ?_
      rw [nb_eq hk]
      exact hK _
    · subst e
      unfold lp_X12_count_93
      refine br_f (ngt (b := 3) hi (by decide)) ⟨vpn hi (by decide), ?_⟩
      rw [cln (by omega)]
      unfold jn_X12_count_113
      refine ⟨fun q y qy => ih _ ?_, fun q y qy => ih _ ?_⟩
      · rw [qy, show (1 : Int32) = nI 1 from rfl, nI_add, nb_ct, if_neg (Int32.not_lt.mpr q)]
      · rw [qy, show (0 : Int32) = nI 0 from rfl, nI_add, nb_ct, if_pos (not0_lt.mp q)]
  · subst q
    refine wp_notBelow ?_
    unfold wp_X12_count
    refine ⟨fun e => absurd e (by decide), fun e => absurd e (by decide), fun e => absurd e (by decide), fun e => absurd e (by decide), fun e => absurd e (by decide), fun _ => ?_, fun e => absurd e (by decide), fun _ _ _ _ _ e => absurd rfl e⟩
    refine V_X12_count_125 3 (fun i g => nI (nbA ls' i) = g) (fun k g e => ?_) (fun k i g hi e ih => ?_) (i := 0) (Nat.zero_le _) rfl
    · subst e
      unfold lp_X12_count_125
      refine br_t (nle (Nat.le_refl 3) (by decide)) ?_
      rw [nb_eq hl]
      exact hK _
    · subst e
      unfold lp_X12_count_125
      refine br_f (ngt (b := 3) hi (by decide)) ⟨vpn hi (by decide), ?_⟩
      rw [cln (by omega)]
      unfold jn_X12_count_145
      refine ⟨fun q y qy => ih _ ?_, fun q y qy => ih _ ?_⟩
      · rw [qy, show (1 : Int32) = nI 1 from rfl, nI_add, nb_ct, if_neg (Int32.not_lt.mpr q)]
      · rw [qy, show (0 : Int32) = nI 0 from rfl, nI_add, nb_ct, if_pos (not0_lt.mp q)]
  · subst q
    refine wp_isThere hfn ?_
    unfold wp_X12_count
    refine ⟨fun q => ?_, fun q => ?_⟩
    · exact ⟨fun e => absurd e (by decide), fun e => absurd e (by decide), fun e => absurd e (by decide), fun e => absurd e (by decide), fun e => absurd e (by decide), fun e => absurd e (by decide), fun _ => ⟨fun _ => hK _, fun e => absurd q e⟩, fun _ _ _ _ _ _ e => absurd rfl e⟩
    · exact ⟨fun e => absurd e (by decide), fun e => absurd e (by decide), fun e => absurd e (by decide), fun e => absurd e (by decide), fun e => absurd e (by decide), fun e => absurd e (by decide), fun _ => ⟨fun e => absurd e q, fun _ => hK _⟩, fun _ _ _ _ _ _ e => absurd rfl e⟩
  · unfold wp_X12_count
    exact ⟨fun e => absurd e q0, fun e => absurd e q1, fun e => absurd e q2, fun e => absurd e q3, fun e => absurd e q4, fun e => absurd e q5, fun e => absurd e q6, fun _ _ _ _ _ _ _ => hK _⟩
/-- judge -/
theorem sz_of {s : Int32} {N : Nat} (hN : N < 1000) (h : -1 ≤ s.toInt ∧ s.toInt ≤ N) (hn : ¬ s = -1) : ∃ t : Nat, t ≤ N ∧ s = nI t := by
  have : s.toInt ≠ -1 := fun e => hn (ieq e)
  exact ⟨s.toInt.toNat, by omega, i_nI (by omega)⟩
theorem pr_judge {x1 top isF fB : Int32} {b b' S T : Nat → Int32} {L M : Nat → Int64} {z : Nat → Int} {K : Int32 → Int32 → Prop} (hf : fnd top isF fB) (hb : ¬ isF = 0 → rl 9 b b' z) (h : lsR S T L M) (hK : ∀ r, K r r) :
    wp_X11_judge x1 top b S L (fun r => wp_X12_judge x1 isF fB b' T M (fun r2 => K r r2)) := by
  unfold wp_X11_judge
  refine wp_within ⟨fun q => ?_, fun q => ?_⟩
  · obtain ⟨j, hj, rfl⟩ := btw_n (N := 2) (by decide) q
    refine ⟨vpn (by omega) (by decide), ?_⟩
    rw [cln (by omega)]
    obtain ⟨hT, hS1, hS2⟩ := h.1 j (by omega)
    refine ⟨fun q2 => wp_isThere hf ⟨fun q3 => ?_, fun q3 => ?_⟩, fun q2 => ?_⟩
    · obtain ⟨m, hm, em⟩ := sz_of (N := 12) (by decide) ⟨hS1, hS2⟩ q2
      rcases hf with ⟨_, h2⟩ | ⟨t, h1, h2, h3, h4⟩
      · exact absurd h2 q3
      have hr := hb q3
      subst h4
      rw [h2]
      -- the model's loop from place i on, for any end
      have key : ∀ d i : Nat, i + d = m → (∀ r, (∃ k, lp_X12_judge_33 (nI j) isF (nI t) b' T M (jn_X12_judge_84 (nI j) isF (nI t) b' T M (fun r2 => K r r2)) (fun r2 => K r r2) k (nI i)) → (∃ k, lp_X12_judge_33 (nI j) isF (nI t) b' T M (jn_X12_judge_84 (nI j) isF (nI t) b' T M (fun r2 => K r r2)) (fun r2 => K r r2) k (nI 0))) →
          ∃ k, lp_X1_compare_10 (nI j) S L (nI t) b (jn_X1_compare_58 (nI j) S L (nI t) b (fun y4 => wp_X12_judge (nI j) isF (nI t) b' T M (fun r2 => K y4 r2))) (fun y4 => wp_X12_judge (nI j) isF (nI t) b' T M (fun r2 => K y4 r2)) k (nI m) (nI i) := by
        intro d
        induction d with
        | zero =>
          intro i hi hR
          have e : i = m := hi
          subst e
          refine ⟨1, ?_⟩
          unfold lp_X1_compare_10
          refine br_t (nle (Nat.le_refl i) (by omega)) ?_
          unfold jn_X1_compare_58
          refine ⟨fun g => ?_, fun g => ?_⟩
          · unfold wp_X12_judge
            refine wp_isList ⟨fun _ => ⟨vpn (by omega) (by decide), ?_⟩, fun e => absurd e q⟩
            rw [cln (by omega), hT, em]
            refine br_t (nI_pos' (by omega)) (rb_f q3 (hR _ ⟨1, ?_⟩))
            unfold lp_X12_judge_33
            refine ⟨vpn (by omega) (by decide), ?_⟩
            rw [cln (by omega), hT, em]
            refine br_t (nle (Nat.le_refl i) (by omega)) ?_
            unfold jn_X12_judge_84
            refine ⟨vpn (by omega) (by decide), ?_⟩
            rw [cln (by omega), hT, em]
            exact br_t g (hK _)
          · unfold wp_X12_judge
            refine wp_isList ⟨fun _ => ⟨vpn (by omega) (by decide), ?_⟩, fun e => absurd e q⟩
            rw [cln (by omega), hT, em]
            refine br_t (nI_pos' (by omega)) (rb_f q3 (hR _ ⟨1, ?_⟩))
            unfold lp_X12_judge_33
            refine ⟨vpn (by omega) (by decide), ?_⟩
            rw [cln (by omega), hT, em]
            refine br_t (nle (Nat.le_refl i) (by omega)) ?_
            unfold jn_X12_judge_84
            refine ⟨vpn (by omega) (by decide), ?_⟩
            rw [cln (by omega), hT, em]
            exact br_f g (hK _)
        | succ d ih =>
          intro i hi hR
          -- the model at i, when its answer is i
          have stop : (nI t < nI i ∨ (¬ nI t < nI i ∧ ¬ L (12 * j + i) = (b i).toInt64)) → wp_X12_judge (nI j) isF (nI t) b' T M (fun r2 => K (nI i) r2) := by
            intro g
            unfold wp_X12_judge
            refine wp_isList ⟨fun _ => ⟨vpn (by omega) (by decide), ?_⟩, fun e => absurd e q⟩
            rw [cln (by omega), hT, em]
            refine br_t (nI_pos' (by omega)) (rb_f q3 (hR _ ⟨1, ?_⟩))
            unfold lp_X12_judge_33
            refine ⟨vpn (by omega) (by decide), ?_⟩
            rw [cln (by omega), hT, em]
            refine br_f (ngt (by omega) (by omega)) ?_
            rcases g with g | ⟨g, g2⟩
            · exact br_t g (hK _)
            · have hit : i ≤ t := by
                have := mt (nI_ltI (a := t) (b := i) (by omega) (by omega)).mpr g
                omega
              refine br_f g ?_
              rw [at12']
              refine ⟨vpn (by omega) (by decide), vpn (by omega) (by decide), ?_⟩
              rw [cln (by omega), cln (by omega), (hr i (by omega)).2]
              refine wp_signed ?_
              rw [← (hr i (by omega)).1, h.2 _ (by omega)]
              exact br_f (fun e => g2 ((lg_cmp_eq _ _).mp e)) (hK _)
          have go : ¬ nI t < nI i → L (12 * j + i) = (b i).toInt64 → ∀ r, (∃ k, lp_X12_judge_33 (nI j) isF (nI t) b' T M (jn_X12_judge_84 (nI j) isF (nI t) b' T M (fun r2 => K r r2)) (fun r2 => K r r2) k (nI (i + 1))) → ∃ k, lp_X12_judge_33 (nI j) isF (nI t) b' T M (jn_X12_judge_84 (nI j) isF (nI t) b' T M (fun r2 => K r r2)) (fun r2 => K r r2) k (nI 0) := by
            intro g g2 r ⟨k, hk⟩
            have hit : i ≤ t := by
              have := mt (nI_ltI (a := t) (b := i) (by omega) (by omega)).mpr g
              omega
            refine hR r ⟨k + 1, ?_⟩
            unfold lp_X12_judge_33
            refine ⟨vpn (by omega) (by decide), ?_⟩
            rw [cln (by omega), hT, em]
            refine br_f (ngt (by omega) (by omega)) ?_
            refine br_f g ?_
            rw [at12']
            refine ⟨vpn (by omega) (by decide), vpn (by omega) (by decide), ?_⟩
            rw [cln (by omega), cln (by omega), (hr i (by omega)).2]
            refine wp_signed ?_
            rw [← (hr i (by omega)).1, h.2 _ (by omega)]
            refine br_t ((lg_cmp_eq _ _).mpr g2) ?_
            rw [nI_1]
            exact hk
          by_cases g : nI t < nI i
          · refine ⟨1, ?_⟩
            unfold lp_X1_compare_10
            exact br_f (ngt (by omega) (by omega)) (br_t g (stop (Or.inl g)))
          · have hit : i ≤ t := by
              have := mt (nI_ltI (a := t) (b := i) (by omega) (by omega)).mpr g
              omega
            by_cases g2 : L (12 * j + i) = (b i).toInt64
            · obtain ⟨k, hk⟩ := ih (i + 1) (by omega) (go g g2)
              refine ⟨k + 1, ?_⟩
              unfold lp_X1_compare_10
              refine br_f (ngt (by omega) (by omega)) (br_f g ?_)
              rw [at12]
              refine ⟨vpn (by omega) (by decide), vpn (by omega) (by decide), ?_⟩
              rw [cln (by omega), cln (by omega)]
              refine br_t ((lg_cmp_eq _ _).mpr g2) ?_
              rw [nI_1]
              exact hk
            · refine ⟨1, ?_⟩
              unfold lp_X1_compare_10
              refine br_f (ngt (by omega) (by omega)) (br_f g ?_)
              rw [at12]
              refine ⟨vpn (by omega) (by decide), vpn (by omega) (by decide), ?_⟩
              rw [cln (by omega), cln (by omega)]
              exact br_f (fun e => g2 ((lg_cmp_eq _ _).mp e)) (stop (Or.inr ⟨g, g2⟩))
      unfold wp_X1_compare
      refine ⟨vpn (by omega) (by decide), fun y qy => ?_⟩
      rw [qy, cln (by omega), em]
      exact key m 0 (by omega) (fun r hr => hr)
    · unfold wp_X12_judge
      refine wp_isList ⟨fun _ => ⟨vpn (by omega) (by decide), ?_⟩, fun e => absurd e q⟩
      obtain ⟨m, hm, em⟩ := sz_of (N := 12) (by decide) ⟨hS1, hS2⟩ q2
      rw [cln (by omega), hT, em]
      exact br_t (nI_pos' (by omega)) (rb_t q3 (hK _))
    · unfold wp_X12_judge
      refine wp_isList ⟨fun _ => ⟨vpn (by omega) (by decide), ?_⟩, fun e => absurd e q⟩
      rw [cln (by omega), hT, q2]
      exact br_f (by decide) (hK _)
  · unfold wp_X12_judge
    exact wp_isList ⟨fun e => absurd q e, fun _ => hK _⟩
