/-! WORK: the model -/
def mL (g : Nat → Int32) (Z : Nat → Nat → Nat → Int) : Prop := ∀ k u v, k < 5 → u < 25 → v < 9 → g (225 * k + 9 * u + v) = mdI (Z k u v)
theorem mL.g {g : Nat → Int32} {Z : Nat → Nat → Nat → Int} (h : mL g Z) (k u v : Nat) (hk : k < 5) (hu : u < 25) (hv : v < 9) : g (225 * k + 9 * u + v) = mdI (Z k u v) := h k u v hk hu hv
theorem mL.ex {g : Nat → Int32} {Z W : Nat → Nat → Nat → Int} (h : mL g Z) (e : ∀ k u v, k < 5 → u < 25 → v < 9 → Z k u v = W k u v) : mL g W := fun k u v hk hu hv => by rw [h k u v hk hu hv, e k u v hk hu hv]
theorem mL.cg {g : Nat → Int32} {Z W : Nat → Nat → Nat → Int} (h : mL g Z) (e : ∀ k u v, k < 5 → u < 25 → v < 9 → cg (Z k u v) (W k u v)) : mL g W := fun k u v hk hu hv => by rw [h k u v hk hu hv, mdI_eq (e k u v hk hu hv)]
/-- one number more at a place -/
def ad3 (Z : Nat → Nat → Nat → Int) (k0 u0 v0 : Nat) (c : Int) : Nat → Nat → Nat → Int := fun k u v => Z k u v + (if k = k0 ∧ u = u0 ∧ v = v0 then c else 0)
theorem wp_adds {k u v : Nat} {c : Int} {g : Nat → Int32} {Z : Nat → Nat → Nat → Int} {K : (Nat → Int32) → Prop} (hk : k < 5) (hu : u < 25) (hv : v < 9) (h : mL g Z) (hK : ∀ g', mL g' (ad3 Z k u v c) → K g') : wp_X12_adds (nI (225 * k + 9 * u + v)) (mdI c) g K := by
  unfold wp_X12_adds
  refine ⟨vpn (by omega) (by decide), fun y q => hK _ (fun k' u' v' hk' hu' hv' => ?_)⟩
  rw [cln (by omega), h.g k u v hk hu hv, md_add] at q
  rw [cln (by omega), q]
  unfold ad3
  by_cases e : k' = k ∧ u' = u ∧ v' = v
  · rw [if_pos e, e.1, e.2.1, e.2.2, pk_us]
  · rw [if_neg e, pk_un (by omega), Int.add_zero]
    exact h k' u' v' hk' hu' hv'
/-- what one number brings to the next row -/
def ct (f : Nat → Int) (k : Nat) (G : Int) (u v i U V : Nat) : Int := (if U + 1 = u + i ∧ V = v then G * f i * ((u : Int) + (i : Int) * (1 - (k : Int))) else 0) + (if U + 1 = u + i ∧ V = v + 1 then G * f i * (i : Int) else 0)
def rwz (k : Nat) (Z : Nat → Nat → Nat → Int) (Y : Nat → Nat → Int) : Nat → Nat → Nat → Int := fun k' U V => Z k' U V + (if k' = k then Y U V else 0)
theorem at225 (k u v : Nat) : (225 : Int32) * nI k + (9 : Int32) * nI u + nI v = nI (225 * k + 9 * u + v) := by
  rw [show (225 : Int32) = nI 225 from rfl, show (9 : Int32) = nI 9 from rfl, pk_mul, pk_mul, nI_add, nI_add]
theorem wp_derives {k u v : Nat} {F g : Nat → Int32} {f : Nat → Int} {Z : Nat → Nat → Nat → Int} {K : (Nat → Int32) → Prop} (hk : k < 4) (hu : u < 13) (hv : v < 5) (hf : mA 5 F f) (h : mL g Z) (hK : ∀ g', mL g' (rwz (k + 1) Z (fun U V => sm (fun i => ct f k (Z k u v) u v i U V) 5)) → K g') : wp_X12_derives (nI k) (nI u) (nI v) F g K := by
  unfold wp_X12_derives
  rw [at225]
  refine ⟨vpn (by omega) (by decide), fun y q => ?_⟩
  rw [cln (by omega), h.g k u v (by omega) (by omega) (by omega)] at q
  subst q
  by_cases hG : mdI (Z k u v) ≤ 0
  · refine ⟨1, ?_⟩
    unfold lp_X12_derives_22
    refine br_f (by decide) (br_t hG (hK _ (h.cg (fun k' U V _ _ _ => ?_))))
    have hz := mdI_pos.mp hG
    have hs : cg (sm (fun i => ct f k (Z k u v) u v i U V) 5) 0 := by
      have h1 := sm_cg (n := 5) (f := fun i => ct f k (Z k u v) u v i U V) (g := fun _ => 0) (fun i _ => by
        unfold ct
        refine cg.add (b := 0) (d := 0) ?_ ?_
        · by_cases c : U + 1 = u + i ∧ V = v
          · rw [if_pos c]
            exact cg0_mul (cg0_mul hz)
          · rw [if_neg c]
            exact cg.rf
        · by_cases c : U + 1 = u + i ∧ V = v + 1
          · rw [if_pos c]
            exact cg0_mul (cg0_mul hz)
          · rw [if_neg c]
            exact cg.rf)
      rw [sm_z (f := fun _ => 0) (fun _ _ => rfl)] at h1
      exact h1
    unfold rwz
    by_cases c : k' = k + 1
    · rw [if_pos c]
      have := cg.add (cg.rf (a := Z k' U V)) hs.sy
      rw [Int.add_zero] at this
      exact this
    · rw [if_neg c, Int.add_zero]
      exact cg.rf
  · refine V_X12_derives_22 5 (fun i a g2 => mdI (Z k u v) = a ∧ mL g2 (rwz (k + 1) Z (fun U V => sm (fun i => ct f k (Z k u v) u v i U V) i))) (fun q a g2 e => ?_) (fun q i a g2 hi e ih => ?_) (i := 0) (Nat.zero_le _) ⟨rfl, h.ex (fun k' U V _ _ _ => ?_)⟩
    · unfold lp_X12_derives_22
      exact br_t (nle (Nat.le_refl 5) (by decide)) (hK _ e.2)
    · obtain ⟨r1, e⟩ := e
      subst r1
      unfold lp_X12_derives_22
      refine br_f (ngt (b := 5) hi (by decide)) (br_f hG (fun y1 q1 => ?_))
      rw [nI_1, show (225 : Int32) = nI 225 from rfl, pk_mul] at q1
      subst q1
      -- behind the first part
      have fin : ∀ g3 : Nat → Int32, mL g3 (ad3 (rwz (k + 1) Z (fun U V => sm (fun i => ct f k (Z k u v) u v i U V) i)) (k + 1) (u + i - 1) v (if u + i = 0 then 0 else Z k u v * f i * (u : Int))) → jn_X12_derives_84 (nI k) (nI u) (nI v) F (fun x4 x5 A_lefts => lp_X12_derives_22 (nI k) (nI u) (nI v) F K q x4 x5 A_lefts) K (mdI (Z k u v)) (nI i) (nI (225 * (k + 1))) g3 := by
        intro g3 h3
        unfold jn_X12_derives_84 jn_X12_derives_165
        by_cases i0 : i = 0
        · subst i0
          refine br_t (by decide) (ih _ _ ⟨rfl, h3.ex (fun k' U V _ _ _ => ?_)⟩)
          unfold ad3 rwz
          dsimp only
          rw [sm_s]
          unfold ct
          by_cases c : k' = k + 1
          · subst c
            rw [if_pos rfl, if_pos rfl]
            by_cases c2 : u + 0 = 0
            · rw [if_pos c2]
              by_cases c4 : (k + 1 = k + 1 ∧ U = u + 0 - 1 ∧ V = v)
              · rw [if_pos c4, if_neg (by omega), if_neg (by omega)]; omega
              · rw [if_neg c4, if_neg (by omega), if_neg (by omega)]; omega
            · rw [if_neg c2]
              by_cases c3 : U + 1 = u + 0 ∧ V = v
              · rw [if_pos c3, if_pos (by omega), if_neg (by omega)]
                have : Z k u v * f 0 * ((u : Int) + ((0 : Nat) : Int) * (1 - (k : Int))) = Z k u v * f 0 * (u : Int) := by
                  rw [show ((0 : Nat) : Int) = 0 from rfl, Int.zero_mul, Int.add_zero]
                rw [this]
                omega
              · rw [if_neg c3, if_neg (by omega)]
                by_cases c5 : U + 1 = u + 0 ∧ V = v + 1
                · rw [if_pos c5, show ((0 : Nat) : Int) = 0 from rfl, Int.mul_zero]
                  omega
                · rw [if_neg c5]
                  omega
          · rw [if_neg c, if_neg c, if_neg (fun c2 => c c2.1), Int.add_zero]
        · refine br_f (nle0 (by omega) (by omega)) ⟨vpn hi (by decide), fun y2 q2 y3 q3 => wp_modulo ?_⟩
          rw [cln (by omega), hf.g i hi, md_mul] at q2
          subst q2
          rw [← mdI_n (n := i) (by omega), md_mul] at q3
          subst q3
          have e1 : ((1 : Int32) - nI k).toInt = 1 - (k : Int) := is' (x := 1) rfl (nI_t (by omega)) (by omega)
          rw [e1, md_mul, nI_add, sub1 (by omega), show (9 : Int32) = nI 9 from rfl, pk_mul, nI_add, nI_add, nI_1]
          refine wp_adds (k := k + 1) (u := u + i - 1) (v := v) (by omega) (by omega) (by omega) h3 (fun g4 h4 => ?_)
          rw [show 225 * (k + 1) + 9 * (u + i - 1) + v + 1 = 225 * (k + 1) + 9 * (u + i - 1) + (v + 1) by omega]
          refine wp_adds (k := k + 1) (u := u + i - 1) (v := v + 1) (by omega) (by omega) (by omega) h4 (fun g5 h5 => ih _ _ ⟨rfl, h5.ex (fun k' U V _ _ _ => ?_)⟩)
          unfold ad3 rwz
          dsimp only
          rw [sm_s]
          unfold ct
          by_cases c : k' = k + 1
          · subst c
            rw [if_pos rfl, if_pos rfl, if_neg (show ¬ u + i = 0 by omega)]
            by_cases c3 : U + 1 = u + i ∧ V = v
            · rw [if_pos c3, if_pos (by omega), if_pos (by omega), if_neg (by omega), if_neg (by omega), Int.mul_add, Int.mul_assoc (Z k u v * f i) (i : Int)]
              omega
            · rw [if_neg c3, if_neg (by omega), if_neg (by omega)]
              by_cases c5 : U + 1 = u + i ∧ V = v + 1
              · rw [if_pos c5, if_pos (by omega)]
                omega
              · rw [if_neg c5, if_neg (by omega)]
                omega
          · rw [if_neg c, if_neg c, if_neg (fun c2 => c c2.1), if_neg (fun c2 => c c2.1), if_neg (fun c2 => c c2.1)]
            omega
      by_cases u0 : u = 0
      · subst u0
        refine br_t (by decide) (fin _ (e.ex (fun k' U V _ _ _ => ?_)))
        have z0 : (if 0 + i = 0 then 0 else Z k 0 v * f i * ((0 : Nat) : Int)) = 0 := by
          by_cases c : 0 + i = 0
          · rw [if_pos c]
          · rw [if_neg c, show ((0 : Nat) : Int) = 0 from rfl, Int.mul_zero]
        unfold ad3
        rw [z0]
        by_cases c : k' = k + 1 ∧ U = 0 + i - 1 ∧ V = v
        · rw [if_pos c, Int.add_zero]
        · rw [if_neg c, Int.add_zero]
      · refine br_f (nle0 (by omega) (by omega)) ⟨vpn hi (by decide), fun y3 q3 => ?_⟩
        rw [cln (by omega), hf.g i hi, md_mul] at q3
        subst q3
        rw [sub1 (by omega), nI_add, show (9 : Int32) = nI 9 from rfl, pk_mul, nI_add, nI_add, ← mdI_n (n := u) (by omega), md_mul, show u - 1 + i = u + i - 1 by omega]
        refine wp_adds (k := k + 1) (u := u + i - 1) (v := v) (by omega) (by omega) (by omega) e (fun g4 h4 => ?_)
        rw [mdI_n (n := u) (by omega)]
        refine fin _ ?_
        rw [if_neg (show ¬ u + i = 0 by omega)]
        exact h4
    · unfold rwz
      dsimp only
      rw [sm_0]
      by_cases c : k' = k + 1
      · rw [if_pos c, Int.add_zero]
      · rw [if_neg c, Int.add_zero]
/-- all that the numbers of a row bring, is the derivative -/
theorem ct_dv (f : Nat → Int) (k : Nat) (Z : Nat → Nat → Int) (h : ∀ u v, 13 ≤ u ∨ 5 ≤ v → Z u v = 0) (U V : Nat) : sm (fun u => sm (fun v => sm (fun i => ct f k (Z u v) u v i U V) 5) 5) 13 = dv f k Z U V := by
  unfold dv
  have e1 : ∀ u, sm (fun v => sm (fun i => ct f k (Z u v) u v i U V) 5) 5 = sm (fun i => sm (fun v => ct f k (Z u v) u v i U V) 5) 5 := fun u => sm_swap _ 5 5
  rw [sm_ext (fun u _ => e1 u), sm_swap]
  refine sm_ext (fun i _ => ?_)
  -- the two parts of a number
  have e2 : ∀ u, sm (fun v => ct f k (Z u v) u v i U V) 5 = if U + 1 = u + i then f i * (((u : Int) + (i : Int) * (1 - (k : Int))) * Z u V + (i : Int) * (if V = 0 then 0 else Z u (V - 1))) else 0 := by
    intro u
    by_cases c : U + 1 = u + i
    · rw [if_pos c]
      have a1 : sm (fun v => ct f k (Z u v) u v i U V) 5 = sm (fun v => if v = V then Z u v * f i * ((u : Int) + (i : Int) * (1 - (k : Int))) else 0) 5 + sm (fun v => if v = V - 1 then (if V = 0 then 0 else Z u v * f i * (i : Int)) else 0) 5 := by
        rw [← sm_add]
        refine sm_ext (fun v _ => ?_)
        unfold ct
        congr 1
        · by_cases d : V = v
          · rw [if_pos ⟨c, d⟩, if_pos d.symm]
          · rw [if_neg (fun q => d q.2), if_neg (fun q => d q.symm)]
        · by_cases d : V = v + 1
          · rw [if_pos ⟨c, d⟩, if_pos (by omega), if_neg (by omega)]
          · rw [if_neg (fun q => d q.2)]
            by_cases d2 : v = V - 1
            · rw [if_pos d2, if_pos (by omega)]
            · rw [if_neg d2]
      rw [a1, sm_if, sm_if]
      by_cases d : V < 5
      · rw [if_pos d, if_pos (by omega)]
        by_cases d2 : V = 0
        · rw [if_pos d2, if_pos d2]
          grind
        · rw [if_neg d2, if_neg d2]
          grind
      · rw [if_neg d, h u V (by omega)]
        by_cases d3 : V - 1 < 5
        · rw [if_pos d3, if_neg (by omega), if_neg (by omega)]
          grind
        · rw [if_neg d3, if_neg (by omega), h u (V - 1) (by omega)]
          grind
    · rw [if_neg c]
      refine sm_z (fun v _ => ?_)
      unfold ct
      rw [if_neg (fun q => c q.1), if_neg (fun q => c q.1)]
      rfl
  rw [sm_ext (fun u _ => e2 u)]
  by_cases c : i ≤ U + 1
  · rw [if_pos c]
    by_cases d : U + 1 - i < 13
    · rw [sm_one (j := U + 1 - i) d (fun u _ hu => if_neg (by omega)), if_pos (by omega)]
    · rw [sm_z (fun u hu => if_neg (by omega)), h (U + 1 - i) V (by omega)]
      by_cases d2 : V = 0
      · rw [if_pos d2]
        grind
      · rw [if_neg d2, h (U + 1 - i) (V - 1) (by omega)]
        grind
  · rw [if_neg c]
    exact sm_z (fun u hu => if_neg (by omega))
theorem rwz_0 (k : Nat) (Z : Nat → Nat → Nat → Int) (k' U V : Nat) : rwz k Z (fun _ _ => 0) k' U V = Z k' U V := by
  unfold rwz
  by_cases c : k' = k
  · rw [if_pos c, Int.add_zero]
  · rw [if_neg c, Int.add_zero]
theorem rwz_p {k : Nat} {Z : Nat → Nat → Nat → Int} {Y : Nat → Nat → Int} {k' U V : Nat} (h : k' = k) : rwz k Z Y k' U V = Z k' U V + Y U V := by
  unfold rwz
  rw [if_pos h]
theorem rwz_n {k : Nat} {Z : Nat → Nat → Nat → Int} {Y : Nat → Nat → Int} {k' U V : Nat} (h : ¬ k' = k) : rwz k Z Y k' U V = Z k' U V := by
  unfold rwz
  rw [if_neg h, Int.add_zero]
/-- rows told so far -/
def tz (f : Nat → Int) (k : Nat) : Nat → Nat → Nat → Int := fun k' U V => if k' ≤ k then DD f k' U V else 0
theorem tz_p {f : Nat → Int} {k k' U V : Nat} (h : k' ≤ k) : tz f k k' U V = DD f k' U V := if_pos h
theorem tz_n {f : Nat → Int} {k k' U V : Nat} (h : ¬ k' ≤ k) : tz f k k' U V = 0 := if_neg h
theorem wp_tellsLefts {F P g0 : Nat → Int32} {f : Nat → Int} {K : (Nat → Int32) → (Nat → Int32) → Prop} (hf : mA 5 F f) (hK : ∀ P' g, mG 25 5 P' (pwz f) → mL g (DD f) → K P' g) : wp_X12_tellsLefts F P g0 K := by
  unfold wp_X12_tellsLefts
  refine wp_tellsPowers hf (fun P' hP => ?_)
  refine V_X12_tellsLefts_6 1125 (fun i p g => P' = p ∧ mA i g (fun n => if n = 0 then 1 else 0)) (fun k p g e => ?_) (fun k i p g hi e ih => ?_) (i := 0) (Nat.zero_le _) ⟨rfl, fun i hi => absurd hi (Nat.not_lt_zero i)⟩
  · obtain ⟨r1, e⟩ := e
    subst r1
    unfold lp_X12_tellsLefts_6
    refine br_t (nle (Nat.le_refl 1125) (by decide)) ?_
    unfold jn_X12_tellsLefts_34
    refine V_X12_tellsLefts_36 4 (fun i p g => P' = p ∧ mL g (tz f i)) (fun k2 p g2 e2 => ?_) (fun k2 i p g2 hi e2 ih => ?_) (i := 0) (Nat.zero_le _) ⟨rfl, fun k' U V h1 h2 h3 => ?_⟩
    · obtain ⟨r1, e2⟩ := e2
      subst r1
      unfold lp_X12_tellsLefts_36
      exact br_t (nle (Nat.le_refl 4) (by decide)) (hK _ _ hP (e2.ex (fun k' U V h1 _ _ => if_pos (by omega))))
    · obtain ⟨r1, e2⟩ := e2
      subst r1
      unfold lp_X12_tellsLefts_36
      refine br_f (ngt (b := 4) hi (by decide)) ?_
      refine V_X12_tellsLefts_43 13 (fun u a p g3 => nI i = a ∧ P' = p ∧ mL g3 (rwz (i + 1) (tz f i) (fun U V => sm (fun u => sm (fun v => sm (fun j => ct f i (DD f i u v) u v j U V) 5) 5) u))) (fun k3 a p g3 e3 => ?_) (fun k3 u a p g3 hu e3 ih3 => ?_) (i := 0) (Nat.zero_le _) ⟨rfl, rfl, e2.ex (fun k' U V _ _ _ => (rwz_0 (i + 1) (tz f i) k' U V).symm)⟩
      · obtain ⟨r1, r2, e3⟩ := e3
        subst r1 r2
        unfold lp_X12_tellsLefts_43
        refine br_t (nle (Nat.le_refl 13) (by decide)) ?_
        unfold jn_X12_tellsLefts_75
        refine ih _ _ ⟨rfl, e3.ex (fun k' U V _ _ _ => ?_)⟩
        by_cases c : k' = i + 1
        · rw [rwz_p c, tz_n (by omega), tz_p (by omega), Int.zero_add, ct_dv f i (DD f i) (fun u v h => DD_z f i u v (by omega)), c]
          rfl
        · rw [rwz_n c]
          by_cases c2 : k' ≤ i
          · rw [tz_p c2, tz_p (by omega)]
          · rw [tz_n c2, tz_n (by omega)]
      · obtain ⟨r1, r2, e3⟩ := e3
        subst r1 r2
        unfold lp_X12_tellsLefts_43
        refine br_f (ngt (b := 13) hu (by decide)) ?_
        refine V_X12_tellsLefts_51 5 (fun v a b p g4 => nI i = a ∧ nI u = b ∧ P' = p ∧ mL g4 (rwz (i + 1) (tz f i) (fun U V => sm (fun u => sm (fun v => sm (fun j => ct f i (DD f i u v) u v j U V) 5) 5) u + sm (fun v => sm (fun j => ct f i (DD f i u v) u v j U V) 5) v))) (fun k4 a b p g4 e4 => ?_) (fun k4 v a b p g4 hv e4 ih4 => ?_) (i := 0) (Nat.zero_le _) ⟨rfl, rfl, rfl, e3.ex (fun k' U V _ _ _ => ?_)⟩
        · obtain ⟨r1, r2, r3, e4⟩ := e4
          subst r1 r2 r3
          unfold lp_X12_tellsLefts_51
          refine br_t (nle (Nat.le_refl 5) (by decide)) ?_
          unfold jn_X12_tellsLefts_69
          exact ih3 _ _ _ ⟨rfl, rfl, e4⟩
        · obtain ⟨r1, r2, r3, e4⟩ := e4
          subst r1 r2 r3
          unfold lp_X12_tellsLefts_51
          refine br_f (ngt (b := 5) hv (by decide)) (wp_derives (by omega) hu hv hf e4 (fun g5 h5 => ih4 _ _ _ _ ⟨rfl, rfl, rfl, h5.ex (fun k' U V _ _ _ => ?_)⟩))
          rw [rwz_n (k := i + 1) (k' := i) (by omega), tz_p (Nat.le_refl i)]
          by_cases c : k' = i + 1
          · rw [rwz_p c, rwz_p c, rwz_p c, sm_s _ v]
            omega
          · rw [rwz_n c, rwz_n c, rwz_n c]
        · by_cases c : k' = i + 1
          · rw [rwz_p c, rwz_p c, sm_0, Int.add_zero]
          · rw [rwz_n c, rwz_n c]
    · rw [e.g _ (by omega)]
      by_cases c : k' ≤ 0
      · rw [tz_p c, show k' = 0 by omega]
        show mdI _ = mdI (if U = 0 ∧ V = 0 then 1 else 0)
        by_cases c2 : U = 0 ∧ V = 0
        · rw [if_pos c2, if_pos (by omega)]
        · rw [if_neg c2, if_neg (by omega)]
      · rw [tz_n c, if_neg (by omega)]
  · obtain ⟨r1, e⟩ := e
    subst r1
    unfold lp_X12_tellsLefts_6
    refine br_f (ngt (b := 1125) hi (by decide)) ?_
    unfold jn_X12_tellsLefts_27
    rw [cln (by omega)]
    refine ⟨fun q => ⟨vpn hi (by decide), ih _ _ ⟨rfl, fun n hn => ?_⟩⟩, fun q => ⟨vpn hi (by decide), ih _ _ ⟨rfl, fun n hn => ?_⟩⟩⟩
    · by_cases q2 : n = i
      · have q3 : i ≠ 0 := fun q3 => q (by rw [q3]; rfl)
        rw [q2, pk_us]
        dsimp only
        rw [if_neg q3, mdI_z]
      · rw [pk_un q2]
        exact e n (by omega)
    · have q3 : i = 0 := (nI_eq (a := i) (b := 0) (by omega) (by decide)).mp q
      by_cases q2 : n = i
      · rw [q2, pk_us]
        dsimp only
        rw [if_pos q3, mdI_1]
      · rw [pk_un q2]
        exact e n (by omega)
/-- what a number brings to the cells -/
def bt (c : Int) (i j : Nat) (G : Int) (p : Nat → Int) (u v : Nat) (w U V : Nat) : Int := if U = u + i + w ∧ V = v + j then c * G * p w else 0
theorem bt_n {c : Int} {i j : Nat} {G : Int} {p : Nat → Int} {u v w U V : Nat} (h : ¬ (U = u + i + w ∧ V = v + j)) : bt c i j G p u v w U V = 0 := if_neg h
theorem bt_cv (f : Nat → Int) (c : Int) (i j e : Nat) (L : Nat → Nat → Int) (hL : ∀ u v, 13 ≤ u ∨ 5 ≤ v → L u v = 0) (hp : ∀ w, 17 ≤ w → pwz f e w = 0) (U V : Nat) : sm (fun u => sm (fun v => sm (fun w => bt c i j (L u v) (pwz f e) u v w U V) 17) 5) 13 = c * shz i j (mgk f e L) U V := by
  by_cases h : i ≤ U ∧ j ≤ V
  · unfold shz
    rw [if_pos h, mgk_cv]
    -- the row of v
    have e1 : ∀ u, sm (fun v => sm (fun w => bt c i j (L u v) (pwz f e) u v w U V) 17) 5 = sm (fun w => if U = u + i + w then c * L u (V - j) * pwz f e w else 0) 17 := by
      intro u
      by_cases hv : V - j < 5
      · rw [sm_one (j := V - j) hv (fun v _ hv2 => sm_z (fun w _ => bt_n (by omega)))]
        refine sm_ext (fun w _ => ?_)
        unfold bt
        by_cases c2 : U = u + i + w
        · rw [if_pos ⟨c2, by omega⟩, if_pos c2]
        · rw [if_neg (fun q => c2 q.1), if_neg c2]
      · rw [sm_z (fun v hv2 => sm_z (fun w _ => bt_n (by omega))), hL u (V - j) (by omega)]
        refine (sm_z (fun w _ => ?_)).symm
        by_cases c2 : U = u + i + w
        · rw [if_pos c2, Int.mul_zero, Int.zero_mul]
        · rw [if_neg c2]
    rw [sm_ext (fun u _ => e1 u), sm_swap, ← sm_mul]
    -- both sums up to the greater bound
    have e2 : ∀ w, sm (fun u => if U = u + i + w then c * L u (V - j) * pwz f e w else 0) 13 = if w ≤ U - i then c * (pwz f e w * L (U - i - w) (V - j)) else 0 := by
      intro w
      by_cases c2 : w ≤ U - i
      · rw [if_pos c2]
        by_cases c3 : U - i - w < 13
        · rw [sm_one (j := U - i - w) c3 (fun u _ hu => if_neg (by omega)), if_pos (by omega), Int.mul_assoc, Int.mul_comm (L _ _)]
        · rw [sm_z (fun u hu => if_neg (by omega)), hL (U - i - w) (V - j) (by omega), Int.mul_zero, Int.mul_zero]
      · rw [if_neg c2]
        exact sm_z (fun u hu => if_neg (by omega))
    rw [sm_ext (fun w _ => e2 w)]
    by_cases c4 : U - i + 1 ≤ 17
    · rw [sm_cut (m := U - i + 1) c4 (fun w h1 h2 => if_neg (by omega))]
      exact sm_ext (fun w hw => if_pos (by omega))
    · rw [sm_cut (f := fun w => c * (pwz f e w * L (U - i - w) (V - j))) (m := 17) (by omega) (fun w h1 h2 => by rw [hp w h1, Int.zero_mul, Int.mul_zero])]
      exact sm_ext (fun w hw => if_pos (by omega))
  · unfold shz
    rw [if_neg h, Int.mul_zero]
    exact sm_z (fun u hu => sm_z (fun v hv => sm_z (fun w hw => bt_n (by omega))))
def ad2 (Z Y : Nat → Nat → Int) : Nat → Nat → Int := fun u v => Z u v + Y u v
theorem wp_brings {c : Int} {k i j L : Nat} {P g C : Nat → Int32} {f : Nat → Int} {Z : Nat → Nat → Int} {K : (Nat → Int32) → Prop} (hk : k ≤ L) (hL : L ≤ 4) (hi : i ≤ 4) (hj : j ≤ 2) (hP : mG 25 5 P (pwz f)) (hg : mL g (DD f)) (hC : mG 9 25 C Z) (hK : ∀ C', mG 9 25 C' (addG c (shz i j (mgk f (L - k) (DD f k))) Z) → K C') : wp_X12_brings (mdI c) (nI k) (nI i) (nI j) (nI L) P g C K := by
  unfold wp_X12_brings
  refine V_X12_brings_3 13 (fun u g2 => mG 9 25 g2 (ad2 Z (fun U V => sm (fun u => sm (fun v => sm (fun w => bt c i j (DD f k u v) (pwz f (L - k)) u v w U V) 17) 5) u))) (fun q g2 e => ?_) (fun q u g2 hu e ih => ?_) (i := 0) (Nat.zero_le _) (hC.ex (fun U V _ _ => (Int.add_zero _).symm))
  · unfold lp_X12_brings_3
    refine br_t (nle (Nat.le_refl 13) (by decide)) (hK _ (e.ex (fun U V _ _ => ?_)))
    unfold ad2 addG
    dsimp only
    rw [bt_cv f c i j (L - k) (DD f k) (fun u v h => DD_z f k u v (by omega)) (fun w hw => pwz_z f (L - k) w (by omega))]
  · unfold lp_X12_brings_3
    refine br_f (ngt (b := 13) hu (by decide)) ?_
    refine V_X12_brings_13 5 (fun v a g3 => nI u = a ∧ mG 9 25 g3 (ad2 Z (fun U V => sm (fun u => sm (fun v => sm (fun w => bt c i j (DD f k u v) (pwz f (L - k)) u v w U V) 17) 5) u + sm (fun v => sm (fun w => bt c i j (DD f k u v) (pwz f (L - k)) u v w U V) 17) v))) (fun q2 a g3 e2 => ?_) (fun q2 v a g3 hv e2 ih2 => ?_) (i := 0) (Nat.zero_le _) ⟨rfl, e.ex (fun U V _ _ => ?_)⟩
    · obtain ⟨r1, e2⟩ := e2
      subst r1
      unfold lp_X12_brings_13
      refine br_t (nle (Nat.le_refl 5) (by decide)) ?_
      unfold jn_X12_brings_137
      exact ih _ e2
    · obtain ⟨r1, e2⟩ := e2
      subst r1
      unfold lp_X12_brings_13
      refine br_f (ngt (b := 5) hv (by decide)) ?_
      rw [at225]
      refine ⟨vpn (by omega) (by decide), fun y q3 => ?_⟩
      rw [cln (by omega), hg.g k u v (by omega) (by omega) (by omega), md_mul] at q3
      subst q3
      by_cases hz : mdI (DD f k u v * c) ≤ 0
      · refine ⟨1, ?_⟩
        unfold lp_X12_brings_49
        refine br_f (by decide) (br_t hz ?_)
        unfold jn_X12_brings_131
        refine ih2 _ _ ⟨rfl, e2.cg (fun U V _ _ => ?_)⟩
        have h0 := mdI_pos.mp hz
        unfold ad2
        dsimp only
        rw [sm_s _ v]
        have h1 : cg (sm (fun w => bt c i j (DD f k u v) (pwz f (L - k)) u v w U V) 17) 0 := by
          have h2 := sm_cg (n := 17) (f := fun w => bt c i j (DD f k u v) (pwz f (L - k)) u v w U V) (g := fun _ => 0) (fun w _ => by
            unfold bt
            by_cases d : U = u + i + w ∧ V = v + j
            · rw [if_pos d, Int.mul_comm c]
              exact cg0_mul h0
            · rw [if_neg d]
              exact cg.rf)
          rw [sm_z (f := fun _ => 0) (fun _ _ => rfl)] at h2
          exact h2
        refine cg.add cg.rf ?_
        have h3 := cg.add (cg.rf (a := sm (fun u => sm (fun v => sm (fun w => bt c i j (DD f k u v) (pwz f (L - k)) u v w U V) 17) 5) u + sm (fun v => sm (fun w => bt c i j (DD f k u v) (pwz f (L - k)) u v w U V) 17) v)) h1.sy
        rw [Int.add_zero, Int.add_assoc] at h3
        exact h3
      · have hnz : ¬ cg (DD f k u v * c) 0 := fun h => hz (mdI_pos.mpr h)
        have hub : u ≤ 3 * k ∧ v ≤ k := by
          by_cases d : 3 * k < u ∨ k < v
          · rw [DD_z f k u v d, Int.zero_mul] at hnz
            exact absurd cg.rf hnz
          · omega
        refine V_X12_brings_49 17 (fun w a b x8 g4 => nI u = a ∧ nI v = b ∧ mdI (DD f k u v * c) = x8 ∧ mG 9 25 g4 (ad2 Z (fun U V => sm (fun u => sm (fun v => sm (fun w => bt c i j (DD f k u v) (pwz f (L - k)) u v w U V) 17) 5) u + sm (fun v => sm (fun w => bt c i j (DD f k u v) (pwz f (L - k)) u v w U V) 17) v + sm (fun w => bt c i j (DD f k u v) (pwz f (L - k)) u v w U V) w))) (fun q3 a b x8 g4 e4 => ?_) (fun q3 w a b x8 g4 hw e4 ih4 => ?_) (i := 0) (Nat.zero_le _) ⟨rfl, rfl, rfl, e2.ex (fun U V _ _ => ?_)⟩
        · obtain ⟨r1, r2, r3, e4⟩ := e4
          subst r1 r2 r3
          unfold lp_X12_brings_49
          refine br_t (nle (Nat.le_refl 17) (by decide)) ?_
          unfold jn_X12_brings_131
          refine ih2 _ _ ⟨rfl, e4.ex (fun U V _ _ => ?_)⟩
          unfold ad2
          dsimp only
          rw [sm_s _ v]
          omega
        · obtain ⟨r1, r2, r3, e4⟩ := e4
          subst r1 r2 r3
          unfold lp_X12_brings_49
          refine br_f (ngt (b := 17) hw (by decide)) (br_f hz ?_)
          rw [pk_sub hk, at25]
          refine ⟨vpn (by omega) (by decide), fun y2 q4 => ?_⟩
          rw [cln (by omega), hP.g (L - k) w (by omega) (by omega)] at q4
          subst q4
          unfold jn_X12_brings_125
          by_cases hp : mdI (pwz f (L - k) w) ≤ 0
          · refine br_t hp (ih4 _ _ _ _ ⟨rfl, rfl, rfl, e4.cg (fun U V _ _ => ?_)⟩)
            unfold ad2
            dsimp only
            rw [sm_s _ w]
            have h1 : cg (bt c i j (DD f k u v) (pwz f (L - k)) u v w U V) 0 := by
              unfold bt
              by_cases d : U = u + i + w ∧ V = v + j
              · rw [if_pos d, Int.mul_comm]
                exact cg0_mul (mdI_pos.mp hp)
              · rw [if_neg d]
                exact cg.rf
            generalize bt c i j (DD f k u v) (pwz f (L - k)) u v w U V = t at h1
            unfold cg at h1 ⊢
            omega
          · have hwb : w ≤ 4 * (L - k) := by
              by_cases d : 4 * (L - k) < w
              · rw [pwz_z f (L - k) w d] at hp
                exact absurd (by decide) hp
              · omega
            refine br_f hp (fun y3 q5 => ?_)
            rw [nI_add, nI_add, at9', nI_add] at q5
            subst q5
            refine ⟨vpn (by omega) (by decide), fun y5 q6 => ?_⟩
            rw [cln (by omega), show 9 * (u + i + w) + v + j = 9 * (u + i + w) + (v + j) by omega, e4.g (u + i + w) (v + j) (by omega) (by omega), md_addmul] at q6
            subst q6
            rw [cln (by omega), show 9 * (u + i + w) + v + j = 9 * (u + i + w) + (v + j) by omega]
            refine ih4 _ _ _ _ ⟨rfl, rfl, rfl, (e4.up (u0 := v + j) (by omega) _).ex (fun U V _ _ => ?_)⟩
            by_cases d : U = u + i + w ∧ V = v + j
            · rw [zu2_p d, d.1, d.2]
              unfold ad2
              dsimp only
              rw [sm_s _ w]
              have d2 : bt c i j (DD f k u v) (pwz f (L - k)) u v w (u + i + w) (v + j) = DD f k u v * c * pwz f (L - k) w := by
                unfold bt
                rw [if_pos ⟨rfl, rfl⟩, Int.mul_comm c]
              rw [d2]
              omega
            · rw [zu2_n d]
              unfold ad2
              dsimp only
              rw [sm_s _ w]
              have d2 : bt c i j (DD f k u v) (pwz f (L - k)) u v w U V = 0 := if_neg d
              rw [d2, Int.add_zero]
        · unfold ad2
          dsimp only
          rw [sm_0, Int.add_zero]
    · unfold ad2
      dsimp only
      rw [sm_0, Int.add_zero]
theorem wp_clears {C : Nat → Int32} {K : (Nat → Int32) → Prop} (hK : ∀ C', mG 9 25 C' (fun _ _ => 0) → K C') : wp_X12_clears C K := by
  unfold wp_X12_clears
  refine V_X12_clears_2 225 (fun i g => mA i g (fun _ => 0)) (fun k g e => ?_) (fun k i g hi e ih => ?_) (i := 0) (Nat.zero_le _) (fun i hi => absurd hi (Nat.not_lt_zero i))
  · unfold lp_X12_clears_2
    exact br_t (nle (Nat.le_refl 225) (by decide)) (hK _ (fun u v hu hv => e _ (by omega)))
  · unfold lp_X12_clears_2
    refine br_f (ngt (b := 225) hi (by decide)) ⟨vpn hi (by decide), ?_⟩
    rw [cln (by omega)]
    refine ih _ (fun n hn => ?_)
    by_cases q : n = i
    · rw [q, pk_us]
      rfl
    · rw [pk_un q]
      exact e n (by omega)
/-- a number that isn't 0 lies within ORDER -/
theorem or_ge (A : Nat → Int32) : ∀ n m : Nat, m < n → ¬ A m = 0 → m / 15 ≤ orA A n
  | 0, m, h, _ => absurd h (Nat.not_lt_zero m)
  | n + 1, m, h, hz => by
    unfold orA
    by_cases e : A n = 0
    · rw [if_pos e]
      exact or_ge A n m (by
        by_cases e2 : m = n
        · rw [e2] at hz
          exact absurd e hz
        · omega) hz
    · rw [if_neg e]
      omega
theorem div3_5 (n : Nat) (h : n < 75) : nI n / (3 : Int32) - nI n / (3 : Int32) / (5 : Int32) * (5 : Int32) = nI (n / 3 % 5) := by
  rw [show (3 : Int32) = nI 3 from rfl, pk_div (by omega) (by decide) (by decide), show (5 : Int32) = nI 5 from rfl, pk_rem (by omega) (by decide) (by decide)]
theorem div15 (n : Nat) (h : n < 75) : nI n / (15 : Int32) = nI (n / 15) := pk_div (d := 15) (by omega) (by decide) (by decide)
theorem rem3 (n : Nat) (h : n < 75) : nI n - nI n / (3 : Int32) * (3 : Int32) = nI (n % 3) := pk_rem (d := 3) (by omega) (by decide) (by decide)
theorem wp_works {F O P g C : Nat → Int32} {o f : Nat → Int} {K : (Nat → Int32) → (Nat → Int32) → (Nat → Int32) → Prop} (ho : mA 75 O o) (hf : mA 5 F f) (hK : ∀ P' g' C', mG 25 5 P' (pwz f) → mG 9 25 C' (fun u v => sm (fun n => o n * wt f (orA O 75) n u v) 75) → K P' g' C') : wp_X12_works F O P g C K := by
  unfold wp_X12_works
  refine wp_tellsLefts hf (fun P' g' hP hg => wp_clears (fun C0 hC0 => wp_orderOf ?_))
  have hL : orA O 75 ≤ 4 := by
    have := orA_le O 75
    omega
  have hge := or_ge O 75
  generalize orA O 75 = L at hL hK hge ⊢
  refine V_X12_works_15 75 (fun n a p q c => nI L = a ∧ P' = p ∧ g' = q ∧ mG 9 25 c (fun u v => sm (fun n => o n * wt f L n u v) n)) (fun k a p q c e => ?_) (fun k n a p q c hn e ih => ?_) (i := 0) (Nat.zero_le _) ⟨rfl, rfl, rfl, hC0⟩
  · obtain ⟨r1, r2, r3, e⟩ := e
    subst r1 r2 r3
    unfold lp_X12_works_15
    exact br_t (nle (Nat.le_refl 75) (by decide)) (hK _ _ _ hP e)
  · obtain ⟨r1, r2, r3, e⟩ := e
    subst r1 r2 r3
    unfold lp_X12_works_15
    refine br_f (ngt (b := 75) hn (by decide)) ⟨vpn hn (by decide), ?_⟩
    rw [cln (by omega), ho.g n hn]
    unfold jn_X12_works_53
    by_cases hz : mdI (o n) ≤ 0
    · refine br_t hz (ih _ _ _ _ ⟨rfl, rfl, rfl, e.cg (fun u v _ _ => ?_)⟩)
      rw [sm_s]
      have h1 := cg.add (cg.rf (a := sm (fun n => o n * wt f L n u v) n)) (cg0_mul (b := wt f L n u v) (mdI_pos.mp hz)).sy
      rw [Int.add_zero] at h1
      exact h1
    · refine br_f hz (fun y q => ?_)
      rw [div3_5 n hn] at q
      subst q
      rw [div15 n hn, rem3 n hn]
      have hk : n / 15 ≤ L := hge n hn (fun h0 => hz (by rw [← ho.g n hn, h0]; decide))
      refine wp_brings hk hL (by omega) (by omega) hP hg e (fun C' hC' => ih _ _ _ _ ⟨rfl, rfl, rfl, hC'.ex (fun u v _ _ => ?_)⟩)
      rfl
/-- both sums are one -/
theorem wk_eq {O : Nat → Int32} {o f : Nat → Int} (ho : fA 75 O o) (u v : Nat) : cg (wkc o f (orA O 75 + 1) u v) (sm (fun n => o n * wt f (orA O 75) n u v) 75) := by
  have hL : orA O 75 ≤ 4 := by
    have := orA_le O 75
    omega
  have hge := or_ge O 75
  generalize orA O 75 = L at hL hge ⊢
  rw [wkc_eq]
  refine (sm_ccut (by omega) (fun n h1 h2 => ?_)).sy
  refine cg0_mul ?_
  by_cases hz : O n = 0
  · rw [ho n h2] at hz
    exact fdI_0.mp hz
  · have := hge n h2 hz
    omega
theorem pr_work {x1 x2 : Int32} {F O A D N F' O' P' g' C' : Nat → Int32} {f o : Nat → Int} {K : Int32 → (Nat → Int32) → (Nat → Int32) → (Nat → Int32) → Int32 → (Nat → Int32) → (Nat → Int32) → (Nat → Int32) → Prop} (hf : rl 5 F F' f) (ho : rl 75 O O' o) (hK : ∀ r a b c d e g, K r a b c r d e g) : wp_X11_work x1 x2 F O A D N (fun r a b c => wp_X12_work x1 x2 F' O' P' g' C' (fun r2 d e g => K r a b c r2 d e g)) := by
  unfold wp_X11_work
  refine wp_within ⟨fun q => ?_, fun q => wp_within ⟨fun q2 => ?_, fun q2 => ?_⟩⟩
  · unfold wp_X12_work
    exact wp_isIn (br_t q (hK _ _ _ _ _ _ _))
  · obtain ⟨u, hu, rfl⟩ := btw_n (N := 24) (by decide) q
    obtain ⟨v, hv, rfl⟩ := btw_n (N := 8) (by decide) q2
    refine wp_apply (rl_iff.mp ho).1 (rl_iff.mp hf).1 (fun A1 D1 N1 hA => ?_)
    rw [at9]
    refine ⟨vpn (by omega) (by decide), ?_⟩
    unfold wp_X12_work
    refine wp_isIn (br_f q (wp_isIn (rb_f q2 (wp_works (rl_iff.mp ho).2 (rl_iff.mp hf).2 (fun P2 g2 C2 hP2 hC2 => ?_)))))
    rw [at9']
    refine ⟨vpn (by omega) (by decide), ?_⟩
    rw [cln (by omega), hC2.g u v (by omega) (by omega), hA.g u v (by omega) (by omega), fdI_eq (wk_eq (rl_iff.mp ho).1 u v), ho.or 75 (Nat.le_refl 75)]
    exact wp_told (hK _ _ _ _ _ _ _)
  · unfold wp_X12_work
    exact wp_isIn (br_f q (wp_isIn (rb_t q2 (hK _ _ _ _ _ _ _))))
