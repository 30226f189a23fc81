/-! floats: slopes and steps, as the class makes them -/
theorem wp_risingAt {f : FP.Core.Fmt} {x : Int64} {dx : FP.Core.Datum} {A : Nat → Int32} {K : Int64 → Prop} (hf : Fk f) (hx : Pn f x dx) (hK : K (lN (FP.Core.encode f (vlD f dx (fun i => (nI (i + 1) * A (i + 1)).toInt) 4 (zeroD f))))) : wp_X7_risingAt x (nI (f.p - 1)) (nI f.emax) (nI (f.exps - 1)) (lN (2 ^ sb f)) (lN ((f.exps - 1) * f.tails)) (lN (FP.Core.encode f .nan)) A K := by
  unfold wp_X7_risingAt
  refine V_X7_risingAt_6 (fun i g => i ≤ 4 ∧ ∃ D, FP.Core.fits f D ∧ lN (FP.Core.encode f D) = g ∧ vlD f dx (fun i => (nI (i + 1) * A (i + 1)).toInt) i D = vlD f dx (fun i => (nI (i + 1) * A (i + 1)).toInt) 4 (zeroD f)) (fun k g e => ?_) (fun k i g e ih => ?_) (n := 4) ⟨Nat.le_refl 4, zeroD f, FP.Core.zero_fits hf.1 false, zeroD_e f, rfl⟩
  · obtain ⟨_, D, h1, h2, h3⟩ := e
    subst h2
    unfold lp_X7_risingAt_6
    refine br_t (by decide) ?_
    rw [← h3] at hK
    exact hK
  · obtain ⟨hi, D, h1, h2, h3⟩ := e
    subst h2
    unfold lp_X7_risingAt_6
    refine br_f (nI_nlt (b := 1) (by omega) (by omega)) ?_
    rw [cln (by omega)]
    refine wp_stp hf hx h1 (vpn (by omega) (by decide)) ?_
    exact ih _ ⟨by omega, _, FP.Core.round_fits hf.1 _, rfl, h3⟩
def nwD (f : FP.Core.Fmt) (gv gs : Nat → Int) (dx : FP.Core.Datum) : FP.Core.Datum := FP.Core.round f (FP.Core.exactSum dx (FP.Core.negate (FP.Core.quotient f (vlD f dx gv 5 (zeroD f)) (vlD f dx gs 4 (zeroD f)))))
def itD (f : FP.Core.Fmt) (gv gs : Nat → Int) : Nat → FP.Core.Datum → FP.Core.Datum
  | 0, d => d
  | n + 1, d => itD f gv gs n (nwD f gv gs d)
theorem itD_s (f : FP.Core.Fmt) (gv gs : Nat → Int) : ∀ (n : Nat) (d : FP.Core.Datum), itD f gv gs (n + 1) d = nwD f gv gs (itD f gv gs n d)
  | 0, _ => rfl
  | n + 1, d => by
    show itD f gv gs (n + 1) (nwD f gv gs d) = _
    rw [itD_s f gv gs n]
    rfl
theorem Pn_neg {f : FP.Core.Fmt} {x : Int64} {d : FP.Core.Datum} (hx : Pn f x d) : Pn f (lN (2 ^ sb f) ^^^ x) (FP.Core.negate d) := by
  obtain ⟨s, m, hm, ex, cx⟩ := hx
  subst ex
  refine ⟨!s, m, hm, by rw [lN_xor, sg_flip hm], ?_⟩
  rcases cx with ⟨h, e⟩ | ⟨h, e⟩ | ⟨h, e⟩ | ⟨c, q, h, h2, e⟩
  · exact Or.inl ⟨h, by rw [e]; rfl⟩
  · exact Or.inr (Or.inl ⟨h, by rw [e]; rfl⟩)
  · exact Or.inr (Or.inr (Or.inl ⟨h, by rw [e]; rfl⟩))
  · exact Or.inr (Or.inr (Or.inr ⟨c, q, h, h2, by rw [e]; rfl⟩))
theorem wp_towards {f : FP.Core.Fmt} {x : Int64} {d : FP.Core.Datum} {n : Nat} {A : Nat → Int32} {K : Int64 → Prop} (hf : Fk f) (h24 : f.p ≤ 24) (hn : n ≤ 20) (hx : Pn f x d) (hK : K (lN (FP.Core.encode f (itD f (fun i => (A i).toInt) (fun i => (nI (i + 1) * A (i + 1)).toInt) n d)))) : wp_X7_towardsNought x (nI n) (nI (f.p - 1)) (nI f.emax) (nI (f.exps - 1)) (lN (2 ^ sb f)) (lN ((f.exps - 1) * f.tails)) (lN (FP.Core.encode f .nan)) A K := by
  have go : ∀ (x0 : Int64) (d : FP.Core.Datum), FP.Core.fits f d → K (lN (FP.Core.encode f (itD f (fun i => (A i).toInt) (fun i => (nI (i + 1) * A (i + 1)).toInt) n d))) → jn_X7_towardsNought_21 x0 (nI n) (nI (f.p - 1)) (nI f.emax) (nI (f.exps - 1)) (lN (2 ^ sb f)) (lN ((f.exps - 1) * f.tails)) (lN (FP.Core.encode f .nan)) A K (lN (FP.Core.encode f d)) := by
    intro x0 d hd hK
    unfold jn_X7_towardsNought_21
    refine V_X7_towardsNought_26 n (fun i g => ∃ D, FP.Core.fits f D ∧ lN (FP.Core.encode f D) = g ∧ itD f (fun i => (A i).toInt) (fun i => (nI (i + 1) * A (i + 1)).toInt) i d = D) (fun k g e => ?_) (fun k i g hi e ih => ?_) (i := 0) (Nat.zero_le _) ⟨d, hd, rfl, rfl⟩
    · obtain ⟨D, h1, h2, h3⟩ := e
      subst h2 h3
      unfold lp_X7_towardsNought_26
      exact br_t (nle (Nat.le_refl n) (by omega)) hK
    · obtain ⟨D, h1, h2, h3⟩ := e
      subst h2
      unfold lp_X7_towardsNought_26
      have hP := Pn_enc hf h1
      refine br_f (ngt (b := n) hi (by omega)) (wp_atPoint hf hP (wp_risingAt hf hP ?_))
      have v1 := vlD_fits (dx := D) (g := fun i => (A i).toInt) hf 5 (zeroD f) (FP.Core.zero_fits hf.1 false)
      have v2 := vlD_fits (dx := D) (g := fun i => (nI (i + 1) * A (i + 1)).toInt) hf 4 (zeroD f) (FP.Core.zero_fits hf.1 false)
      refine wp_shortQ hf h24 (Pn_enc hf v1) (Pn_enc hf v2) ?_
      refine wp_plus hf hP (Pn_neg (Pn_enc hf (FP.Core.quotient_fits hf.1 _ _))) ?_
      refine ih _ ⟨_, FP.Core.round_fits hf.1 _, rfl, ?_⟩
      rw [itD_s, h3]
      rfl
  obtain ⟨s, m, hm, ex, cx⟩ := hx
  subst ex
  have hmag := hf.mag
  have hi := hf.inf
  have hT0 := FP.Core.tails_pos f
  unfold wp_X7_towardsNought
  refine wp_mag hm ?_
  rw [c_le (a := m) (by omega) (by omega)]
  refine ⟨fun r => ?_, fun r => ?_⟩
  · by_cases r2 : m = (f.exps - 1) * f.tails
    · have e := cx.inf hf r2
      rw [e] at hK
      have h := go (lN (sg s (sb f) + (f.exps - 1) * f.tails)) (.inf s) trivial hK
      rw [enc_inf] at h
      rw [r2]
      exact h
    · by_cases r3 : m = 0
      · have e := cx.zero hf r3
        rw [e] at hK
        have h := go (lN (sg s (sb f) + m)) _ (FP.Core.zero_fits hf.1 s) hK
        rw [enc_z] at h
        rw [r3, Nat.add_zero] at h ⊢
        exact h
      · obtain ⟨c, q, z, e⟩ := cx.fin r3 r r2
        rw [e] at hK
        have h := go (lN (sg s (sb f) + m)) _ (z.fits hf s) hK
        rw [z.enc] at h
        exact h
  · rw [cx.nan (by omega)] at hK
    exact go _ .nan trivial hK
