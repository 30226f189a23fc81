/-! WORK: the class's sum, the model's sum -/
def addG (c : Int) (Y Z : Nat → Nat → Int) : Nat → Nat → Int := fun u v => Z u v + c * Y u v
theorem wp_addTimes {c : Int} {i j : Nat} {A D : Nat → Int32} {Z Y : Nat → Nat → Int} {K : (Nat → Int32) → Prop} (hi : i ≤ 4) (hj : j ≤ 2) (hA : fG 9 25 A Z) (hD : fG 9 25 D Y) (hK : ∀ A', fG 9 25 A' (addG c (shz i j Y) Z) → K A') : wp_X2_addTimes (fdI c) (nI i) (nI j) A D K := by
  unfold wp_X2_addTimes
  refine V_X2_addTimes_3 25 (fun u g => i ≤ u ∧ fG 9 25 g (fun u' v' => if u' < u then addG c (shz i j Y) Z u' v' else Z u' v')) (fun k g e => ?_) (fun k u g hu e ih => ?_) (i := i) (by omega) ⟨Nat.le_refl i, hA.ex (fun u' v' _ _ => ?_)⟩
  · unfold lp_X2_addTimes_3
    exact br_t (nle (Nat.le_refl 25) (by decide)) (hK _ (e.2.ex (fun u' v' hu' hv' => if_pos hu')))
  · obtain ⟨h1, e⟩ := e
    unfold lp_X2_addTimes_3
    refine br_f (ngt (b := 25) hu (by decide)) ?_
    refine V_X2_addTimes_13 9 (fun v a g2 => nI u = a ∧ j ≤ v ∧ fG 9 25 g2 (fun u' v' => if u' < u ∨ (u' = u ∧ v' < v) then addG c (shz i j Y) Z u' v' else Z u' v')) (fun k2 a g2 e2 => ?_) (fun k2 v a g2 hv e2 ih2 => ?_) (i := j) (by omega) ⟨rfl, Nat.le_refl j, e.ex (fun u' v' _ _ => ?_)⟩
    · obtain ⟨r1, -, e2⟩ := e2
      subst r1
      unfold lp_X2_addTimes_13
      refine br_t (nle (Nat.le_refl 9) (by decide)) ?_
      unfold jn_X2_addTimes_76
      refine ih _ ⟨by omega, e2.ex (fun u' v' _ _ => ?_)⟩
      by_cases q : u' < u ∨ (u' = u ∧ v' < 9)
      · rw [if_pos q, if_pos (by omega)]
      · rw [if_neg q, if_neg (by omega)]
    · obtain ⟨r1, h2, e2⟩ := e2
      subst r1
      unfold lp_X2_addTimes_13
      refine br_f (ngt (b := 9) hv (by decide)) (fun y1 q1 => ?_)
      rw [at9] at q1
      subst q1
      refine ⟨vpn (by omega) (by decide), ?_⟩
      rw [pk_sub h1, at9, pk_sub (by omega)]
      refine ⟨vpn (by omega) (by decide), ?_⟩
      rw [cln (by omega), cln (by omega), e2.g u v hu hv, if_neg (by omega), show 9 * (u - i) + v - j = 9 * (u - i) + (v - j) by omega, hD.g (u - i) (v - j) (by omega) (by omega)]
      refine wp_foldaddmul (ih2 _ _ ⟨rfl, by omega, (e2.up hv _).ex (fun u' v' _ _ => ?_)⟩)
      by_cases q : u' = u ∧ v' = v
      · rw [zu2_p q, if_pos (by omega), q.1, q.2]
        unfold addG shz
        rw [if_pos ⟨h1, h2⟩]
      · rw [zu2_n q]
        by_cases q2 : u' < u ∨ (u' = u ∧ v' < v)
        · rw [if_pos q2, if_pos (by omega)]
        · rw [if_neg q2, if_neg (by omega)]
    · by_cases q : u' < u
      · rw [if_pos q, if_pos (Or.inl q)]
      · rw [if_neg q]
        by_cases q2 : u' < u ∨ (u' = u ∧ v' < j)
        · rw [if_pos q2]
          unfold addG shz
          rw [if_neg (by omega), Int.mul_zero, Int.add_zero]
        · rw [if_neg q2]
  · by_cases q : u' < i
    · rw [if_pos q]
      unfold addG shz
      rw [if_neg (by omega), Int.mul_zero, Int.add_zero]
    · rw [if_neg q]
/-- the numbers of one k: by i and j -/
def adk (o : Nat → Int) (k : Nat) (Y : Nat → Nat → Int) (i j : Nat) (Z : Nat → Nat → Int) : Nat → Nat → Int := addG (o (15 * k + 3 * i + j)) (shz i j Y) Z
def adj (o : Nat → Int) (k : Nat) (Y : Nat → Nat → Int) (i : Nat) (Z : Nat → Nat → Int) : Nat → Nat → Nat → Int
  | 0 => Z
  | j + 1 => adk o k Y i j (adj o k Y i Z j)
def adi (o : Nat → Int) (k : Nat) (Y : Nat → Nat → Int) (Z : Nat → Nat → Int) : Nat → Nat → Nat → Int
  | 0 => Z
  | i + 1 => adj o k Y i (adi o k Y Z i) 3
theorem addG_z {c : Int} (h : cg c 0) (Y Z : Nat → Nat → Int) (u v : Nat) : cg (Z u v) (addG c Y Z u v) := by
  have h1 := cg.add (cg.rf (a := Z u v)) (cg0_mul (b := Y u v) h)
  rw [Int.add_zero] at h1
  exact h1.sy
theorem wp_addShifted {k : Nat} {A D O : Nat → Int32} {Z Y : Nat → Nat → Int} {o : Nat → Int} {K : (Nat → Int32) → Prop} (hk : k ≤ 4) (hA : fG 9 25 A Z) (hD : fG 9 25 D Y) (ho : fA 75 O o) (hK : ∀ A', fG 9 25 A' (adi o k Y Z 5) → K A') : wp_X2_addShifted (nI k) A D O K := by
  unfold wp_X2_addShifted
  refine V_X2_addShifted_2 5 (fun i g => fG 9 25 g (adi o k Y Z i)) (fun q g e => ?_) (fun q i g hi e ih => ?_) (i := 0) (Nat.zero_le _) hA
  · unfold lp_X2_addShifted_2
    exact br_t (nI_lt (a := 4) (by decide) (by decide)) (hK _ e)
  · unfold lp_X2_addShifted_2
    refine br_f (nI_nlt (a := 4) (by omega) (by decide)) ?_
    refine V_X2_addShifted_10 3 (fun j a g2 => nI i = a ∧ fG 9 25 g2 (adj o k Y i (adi o k Y Z i) j)) (fun q2 a g2 e2 => ?_) (fun q2 j a g2 hj e2 ih2 => ?_) (i := 0) (Nat.zero_le _) ⟨rfl, e⟩
    · obtain ⟨r1, e2⟩ := e2
      subst r1
      unfold lp_X2_addShifted_10
      refine br_t (nI_lt (a := 2) (by decide) (by decide)) ?_
      unfold jn_X2_addShifted_50
      exact ih _ e2
    · obtain ⟨r1, e2⟩ := e2
      subst r1
      unfold lp_X2_addShifted_10
      refine br_f (nI_nlt (a := 2) (by omega) (by decide)) (wp_index ⟨vpn (by omega) (by decide), fun y q3 => ?_⟩)
      rw [cln (by omega), ho.g _ (by omega)] at q3
      subst q3
      unfold jn_X2_addShifted_44
      refine ⟨fun q4 => ih2 _ _ ⟨rfl, e2.cg (fun u v _ _ => addG_z (fdI_0.mp q4) _ _ _ _)⟩, fun q4 => wp_addTimes (by omega) (by omega) e2 hD (fun A' hA' => ih2 _ _ ⟨rfl, hA'⟩)⟩
/-- the class's WORK, k after k -/
def wkc (o f : Nat → Int) : Nat → Nat → Nat → Int
  | 0 => fun _ _ => 0
  | k + 1 => adi o k (DD f k) (mg f (wkc o f k)) 5
theorem mg_zero (f : Nat → Int) (u v : Nat) : mg f (fun _ _ => 0) u v = 0 := by
  unfold mg
  refine sm_z (fun i _ => ?_)
  by_cases h : i ≤ u
  · rw [if_pos h, Int.mul_zero]
  · rw [if_neg h]
theorem orA_le (A : Nat → Int32) : ∀ n : Nat, orA A n ≤ (n - 1) / 15
  | 0 => Nat.zero_le _
  | n + 1 => by
    unfold orA
    by_cases h : A n = 0
    · rw [if_pos h]
      have := orA_le A n
      omega
    · rw [if_neg h]
      omega
theorem wp_apply {A D N O F : Nat → Int32} {o f : Nat → Int} {K : (Nat → Int32) → (Nat → Int32) → (Nat → Int32) → Prop} (ho : fA 75 O o) (hf : fA 5 F f) (hK : ∀ A' D' N', fG 9 25 A' (wkc o f (orA O 75 + 1)) → K A' D' N') : wp_X2_apply A D N O F K := by
  unfold wp_X2_apply
  refine wp_fill_spec (by decide) (wp_startDeriving (f := f) (fun D0 hD0 => wp_topDer ?_))
  have hL : orA O 75 ≤ 4 := by
    have := orA_le O 75
    omega
  generalize orA O 75 = L at hL hK ⊢
  refine V_X2_apply_20 (L + 1) (fun k a g g2 g3 => nI L = a ∧ fG 9 25 g (wkc o f k) ∧ fG 9 25 g2 (DD f (k - 1))) (fun q a g g2 g3 e => ?_) (fun q k a g g2 g3 hk e ih => ?_) (i := 0) (Nat.zero_le _) ⟨rfl, fun u v hu hv => ?_, hD0⟩
  · obtain ⟨r1, e1, e2⟩ := e
    subst r1
    unfold lp_X2_apply_20
    exact br_t (nI_lt (by omega) (by omega)) (hK _ _ _ e1)
  · obtain ⟨r1, e1, e2⟩ := e
    subst r1
    unfold lp_X2_apply_20
    refine br_f (nI_nlt (by omega) (by omega)) ?_
    unfold jn_X2_apply_48
    by_cases k0 : k = 0
    · subst k0
      refine br_t (by decide) (wp_addShifted (Y := DD f 0) (Z := mg f (wkc o f 0)) (by omega) (e1.ex (fun u v _ _ => ?_)) e2 ho (fun A' hA => ih _ _ _ _ ⟨rfl, hA, e2⟩))
      exact (mg_zero f u v).symm
    · refine br_f (nle0 (by omega) (by omega)) (wp_multiplyGrid e1 hf (fun A1 hA1 => ?_))
      rw [sub1 (by omega)]
      refine wp_deriveMore (by omega) e2 hf (fun D1 N1 hD1 => ?_)
      rw [show k - 1 + 1 = k by omega] at hD1
      exact wp_addShifted (by omega) hA1 hD1 ho (fun A' hA => ih _ _ _ _ ⟨rfl, hA, hD1⟩)
  · show (if 9 * u + v < 225 then (0 : Int32) else A _) = fdI 0
    rw [if_pos (by omega), fdI_z]
/-! laws of mg, shz, sums -/
theorem mg_add (f : Nat → Int) (c : Int) (Y Z : Nat → Nat → Int) (u v : Nat) : mg f (addG c Y Z) u v = mg f Z u v + c * mg f Y u v := by
  unfold mg addG
  rw [← sm_mul, ← sm_add]
  refine sm_ext (fun i _ => ?_)
  by_cases h : i ≤ u
  · rw [if_pos h, if_pos h, if_pos h, Int.mul_add, Int.mul_left_comm]
  · rw [if_neg h, if_neg h, if_neg h, Int.mul_zero, Int.add_zero]
theorem mg_sh (f : Nat → Int) (i j : Nat) (Z : Nat → Nat → Int) (u v : Nat) : mg f (shz i j Z) u v = shz i j (mg f Z) u v := by
  unfold mg shz
  by_cases h : i ≤ u ∧ j ≤ v
  · rw [if_pos h]
    refine sm_ext (fun t _ => ?_)
    by_cases h2 : t ≤ u - i
    · rw [if_pos h2, if_pos (by omega), if_pos (by omega), show u - t - i = u - i - t by omega]
    · rw [if_neg h2]
      by_cases h3 : t ≤ u
      · rw [if_pos h3, if_neg (by omega), Int.mul_zero]
      · rw [if_neg h3]
  · rw [if_neg h]
    refine sm_z (fun t _ => ?_)
    by_cases h3 : t ≤ u
    · rw [if_pos h3, if_neg (by omega), Int.mul_zero]
    · rw [if_neg h3]
theorem mg_ext {f : Nat → Int} {Y Z : Nat → Nat → Int} (h : ∀ u v, Y u v = Z u v) (u v : Nat) : mg f Y u v = mg f Z u v := by
  unfold mg
  exact sm_ext (fun i _ => by rw [h])
/-- a sum over numbers n of an operator -/
def smG (Y : Nat → Nat → Nat → Int) (n : Nat) : Nat → Nat → Int := fun u v => sm (fun m => Y m u v) n
theorem mg_sm (f : Nat → Int) (o : Nat → Int) (Y : Nat → Nat → Nat → Int) : ∀ (n u v : Nat), mg f (smG (fun m u v => o m * Y m u v) n) u v = sm (fun m => o m * mg f (Y m) u v) n
  | 0, u, v => mg_zero f u v
  | n + 1, u, v => by
    have e := mg_add f (o n) (Y n) (smG (fun m u v => o m * Y m u v) n) u v
    rw [mg_sm f o Y n u v] at e
    exact e
/-- one term of WORK over the power of L -/
def wt (f : Nat → Int) (L n : Nat) : Nat → Nat → Int := shz (n / 3 % 5) (n % 3) (mgk f (L - n / 15) (DD f (n / 15)))
theorem sm_15 (g : Nat → Int) (a : Nat) : sm g (a + 15) = sm g a + g (a + 0) + g (a + 1) + g (a + 2) + g (a + 3) + g (a + 4) + g (a + 5) + g (a + 6) + g (a + 7) + g (a + 8) + g (a + 9) + g (a + 10) + g (a + 11) + g (a + 12) + g (a + 13) + g (a + 14) := rfl
theorem adi_5 (o : Nat → Int) (k : Nat) (Y Z : Nat → Nat → Int) (u v : Nat) : adi o k Y Z 5 u v = Z u v + o (15 * k + 0) * shz 0 0 Y u v + o (15 * k + 1) * shz 0 1 Y u v + o (15 * k + 2) * shz 0 2 Y u v + o (15 * k + 3) * shz 1 0 Y u v + o (15 * k + 4) * shz 1 1 Y u v + o (15 * k + 5) * shz 1 2 Y u v + o (15 * k + 6) * shz 2 0 Y u v + o (15 * k + 7) * shz 2 1 Y u v + o (15 * k + 8) * shz 2 2 Y u v + o (15 * k + 9) * shz 3 0 Y u v + o (15 * k + 10) * shz 3 1 Y u v + o (15 * k + 11) * shz 3 2 Y u v + o (15 * k + 12) * shz 4 0 Y u v + o (15 * k + 13) * shz 4 1 Y u v + o (15 * k + 14) * shz 4 2 Y u v := rfl
theorem wt_at (f : Nat → Int) {L k m : Nat} (hm : m < 15) (hL : L = k) : wt f L (15 * k + m) = shz (m / 3) (m % 3) (DD f k) := by
  unfold wt
  rw [show (15 * k + m) / 15 = k by omega, show (15 * k + m) / 3 % 5 = m / 3 by omega, show (15 * k + m) % 3 = m % 3 by omega, hL, Nat.sub_self]
  rfl
theorem wkc_eq (o f : Nat → Int) : ∀ (L u v : Nat), wkc o f (L + 1) u v = sm (fun n => o n * wt f L n u v) (15 * (L + 1))
  | L, u, v => by
    have main : mg f (wkc o f L) u v = sm (fun n => o n * wt f L n u v) (15 * L) := by
      cases L with
      | zero => exact mg_zero f u v
      | succ M =>
        rw [mg_ext (Z := smG (fun m u v => o m * wt f M m u v) (15 * (M + 1))) (fun u v => wkc_eq o f M u v), mg_sm]
        refine sm_ext (fun n hn => ?_)
        unfold wt
        rw [mg_sh, show M + 1 - n / 15 = M - n / 15 + 1 by omega]
        rfl
    show adi o L (DD f L) (mg f (wkc o f L)) 5 u v = _
    rw [adi_5, main, show 15 * (L + 1) = 15 * L + 15 by omega, sm_15]
    rw [wt_at f (m := 0) (by decide) rfl, wt_at f (m := 1) (by decide) rfl, wt_at f (m := 2) (by decide) rfl, wt_at f (m := 3) (by decide) rfl, wt_at f (m := 4) (by decide) rfl, wt_at f (m := 5) (by decide) rfl, wt_at f (m := 6) (by decide) rfl, wt_at f (m := 7) (by decide) rfl, wt_at f (m := 8) (by decide) rfl, wt_at f (m := 9) (by decide) rfl, wt_at f (m := 10) (by decide) rfl, wt_at f (m := 11) (by decide) rfl, wt_at f (m := 12) (by decide) rfl, wt_at f (m := 13) (by decide) rfl, wt_at f (m := 14) (by decide) rfl]
theorem sm_shift (g : Nat → Int) (i : Nat) : ∀ n : Nat, sm (fun t => if i ≤ t then g (t - i) else 0) (i + n) = sm g n
  | 0 => sm_z (fun t ht => if_neg (by omega))
  | n + 1 => by
    rw [← Nat.add_assoc, sm_s, sm_shift g i n, if_pos (by omega), Nat.add_sub_cancel_left, sm_s]
/-- times a power of F, as a convolution -/
theorem mgk_cv (f : Nat → Int) (L : Nat → Nat → Int) : ∀ (e u v : Nat), mgk f e L u v = sm (fun w => pwz f e w * L (u - w) v) (u + 1)
  | 0, u, v => by
    rw [sm_one (j := 0) (by omega) (fun w _ hw => by rw [show pwz f 0 w = 0 from if_neg hw, Int.zero_mul])]
    show L u v = pwz f 0 0 * L (u - 0) v
    rw [show pwz f 0 0 = 1 from rfl, Int.one_mul, Nat.sub_zero]
  | e + 1, u, v => by
    show mg f (mgk f e L) u v = _
    unfold mg
    have e1 : ∀ w, pwz f (e + 1) w * L (u - w) v = sm (fun i => if i ≤ w then f i * (pwz f e (w - i) * L (u - w) v) else 0) 5 := by
      intro w
      show mlz f (pwz f e) w * L (u - w) v = _
      unfold mlz
      rw [← sm_mulr]
      refine sm_ext (fun i _ => ?_)
      by_cases h : i ≤ w
      · rw [if_pos h, if_pos h, Int.mul_assoc]
      · rw [if_neg h, if_neg h, Int.zero_mul]
    rw [sm_ext (fun w _ => e1 w), sm_swap]
    refine sm_ext (fun i _ => ?_)
    by_cases h : i ≤ u
    · rw [if_pos h, mgk_cv f L e (u - i) v, ← sm_mul]
      have e2 := sm_shift (fun w => f i * (pwz f e w * L (u - i - w) v)) i (u - i + 1)
      rw [show i + (u - i + 1) = u + 1 by omega] at e2
      rw [← e2]
      refine sm_ext (fun t _ => ?_)
      by_cases h2 : i ≤ t
      · rw [if_pos h2, if_pos h2, show u - i - (t - i) = u - t by omega]
      · rw [if_neg h2, if_neg h2]
    · rw [if_neg h]
      exact (sm_z (fun t ht => if_neg (by omega))).symm
