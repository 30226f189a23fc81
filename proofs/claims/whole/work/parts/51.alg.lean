/-! copies, sums, arithmetic modulo 10007 -/
def cpy (n : Nat) (S A : Nat → Int32) : Nat → Int32 := fun j => if j < n then S j else A j
theorem cpy_0 (S A : Nat → Int32) : cpy 0 S A = A := by
  funext j
  exact if_neg (Nat.not_lt_zero j)
theorem cpy_s (n : Nat) (S A : Nat → Int32) : upd (cpy n S A) n (S n) = cpy (n + 1) S A := by
  funext j
  unfold upd cpy
  by_cases e1 : j = n
  · subst e1
    rw [if_pos rfl, if_pos (Nat.lt_succ_self j)]
  · rw [if_neg e1]
    by_cases e2 : j < n
    · rw [if_pos e2, if_pos (by omega)]
    · rw [if_neg e2, if_neg (by omega)]
theorem cpy_at {n i : Nat} {S A : Nat → Int32} (h : i < n) : cpy n S A i = S i := if_pos h
theorem cpy_ge {n i : Nat} {S A : Nat → Int32} (h : ¬ i < n) : cpy n S A i = A i := if_neg h
theorem va_cpy_0 (S A : Nat → Int32) (n : Nat) : va_cpy S A 0 0 n = cpy n S A := by
  funext j
  unfold va_cpy cpy
  by_cases h : j < n
  · rw [if_pos h, if_pos (by omega), Nat.zero_add, Nat.sub_zero]
  · rw [if_neg h, if_neg (by omega)]
theorem rl.cpy {n : Nat} {A B A2 B2 : Nat → Int32} {z : Nat → Int} (h : rl n A B z) : rl n (cpy n A A2) (cpy n B B2) z := by
  intro i hi
  rw [cpy_at hi, cpy_at hi]
  exact h i hi
theorem rb_t {c A B : Prop} (h : c) (a : A) : (¬ c → B) ∧ (c → A) := ⟨fun z => absurd h z, fun _ => a⟩
theorem rb_f {c A B : Prop} (h : ¬ c) (b : B) : (¬ c → B) ∧ (c → A) := ⟨fun _ => b, fun z => absurd z h⟩
/-- sums -/
def sm (f : Nat → Int) : Nat → Int
  | 0 => 0
  | n + 1 => sm f n + f n
theorem sm_0 (f : Nat → Int) : sm f 0 = 0 := rfl
theorem sm_s (f : Nat → Int) (n : Nat) : sm f (n + 1) = sm f n + f n := rfl
theorem sm_ext {f g : Nat → Int} : ∀ {n : Nat}, (∀ i, i < n → f i = g i) → sm f n = sm g n
  | 0, _ => rfl
  | n + 1, h => by rw [sm_s, sm_s, sm_ext (fun i hi => h i (by omega)), h n (Nat.lt_succ_self n)]
theorem sm_z {f : Nat → Int} : ∀ {n : Nat}, (∀ i, i < n → f i = 0) → sm f n = 0
  | 0, _ => rfl
  | n + 1, h => by rw [sm_s, sm_z (fun i hi => h i (by omega)), h n (Nat.lt_succ_self n)]; rfl
theorem sm_add (f g : Nat → Int) : ∀ n : Nat, sm (fun i => f i + g i) n = sm f n + sm g n
  | 0 => rfl
  | n + 1 => by rw [sm_s, sm_s, sm_s, sm_add f g n]; omega
theorem sm_sub (f g : Nat → Int) : ∀ n : Nat, sm (fun i => f i - g i) n = sm f n - sm g n
  | 0 => rfl
  | n + 1 => by rw [sm_s, sm_s, sm_s, sm_sub f g n]; omega
theorem sm_neg (f : Nat → Int) : ∀ n : Nat, sm (fun i => - f i) n = - sm f n
  | 0 => rfl
  | n + 1 => by rw [sm_s, sm_s, sm_neg f n]; omega
theorem sm_mul (c : Int) (f : Nat → Int) : ∀ n : Nat, sm (fun i => c * f i) n = c * sm f n
  | 0 => (Int.mul_zero c).symm
  | n + 1 => by rw [sm_s, sm_s, sm_mul c f n, Int.mul_add]
theorem sm_mulr (c : Int) (f : Nat → Int) (n : Nat) : sm (fun i => f i * c) n = sm f n * c := by
  rw [Int.mul_comm, ← sm_mul]
  exact sm_ext (fun i _ => Int.mul_comm _ _)
theorem sm_swap (f : Nat → Nat → Int) (m : Nat) : ∀ n : Nat, sm (fun i => sm (fun j => f i j) m) n = sm (fun j => sm (fun i => f i j) n) m
  | 0 => (sm_z (fun _ _ => rfl)).symm
  | n + 1 => by
    rw [sm_s, sm_swap f m n, ← sm_add]
    rfl
theorem sm_cut {f : Nat → Int} {m : Nat} : ∀ {n : Nat}, m ≤ n → (∀ i, m ≤ i → i < n → f i = 0) → sm f n = sm f m
  | 0, h, _ => by rw [Nat.le_zero.mp h]
  | n + 1, h, hz => by
    by_cases e : m = n + 1
    · rw [e]
    · rw [sm_s, sm_cut (n := n) (by omega) (fun i h1 h2 => hz i h1 (by omega)), hz n (by omega) (Nat.lt_succ_self n), Int.add_zero]
theorem sm_one {f : Nat → Int} {j : Nat} : ∀ {n : Nat}, j < n → (∀ i, i < n → i ≠ j → f i = 0) → sm f n = f j
  | 0, h, _ => absurd h (Nat.not_lt_zero j)
  | n + 1, h, hz => by
    by_cases e : j = n
    · subst e
      rw [sm_s, sm_z (fun i hi => hz i (by omega) (by omega)), Int.zero_add]
    · rw [sm_s, sm_one (n := n) (by omega) (fun i h1 h2 => hz i (by omega) h2), hz n (by omega) (fun x => e x.symm), Int.add_zero]
theorem sm_if {f : Nat → Int} (j n : Nat) : sm (fun i => if i = j then f i else 0) n = if j < n then f j else 0 := by
  by_cases h : j < n
  · rw [if_pos h, sm_one h (fun i _ hi => if_neg hi), if_pos rfl]
  · rw [if_neg h]
    exact sm_z (fun i hi => if_neg (by omega))
theorem sm_first (f : Nat → Int) : ∀ n : Nat, sm f (n + 1) = f 0 + sm (fun i => f (i + 1)) n
  | 0 => by rw [sm_s, sm_0, sm_0]; omega
  | n + 1 => by rw [sm_s, sm_first f n, sm_s]; omega
theorem sm_cg {f g : Nat → Int} : ∀ {n : Nat}, (∀ i, i < n → cg (f i) (g i)) → cg (sm f n) (sm g n)
  | 0, _ => cg.rf
  | n + 1, h => cg.add (sm_cg (fun i hi => h i (by omega))) (h n (Nat.lt_succ_self n))
/-- numbers of the model: the remainder -/
theorem tmod_nn {w : Int} (h : 0 ≤ w) : w.tmod 10007 = w % 10007 := Int.tmod_eq_emod_of_nonneg h
theorem md_rem {x : Int32} {w : Int} (h : x.toInt = w) (hw : 0 ≤ w) : x - x / (10007 : Int32) * (10007 : Int32) = mdI w := ieq (by
  rw [irem_t h (y := 10007) rfl (by decide), mdI_t, tmod_nn hw])
theorem em_mul (a b : Int) : cg (a % 10007 * (b % 10007)) (a * b) := cg.mul (cg_em a) (cg_em b)
theorem em_bd (a b : Int) : 0 ≤ a % 10007 * (b % 10007) ∧ a % 10007 * (b % 10007) ≤ 100120036 := by
  have h1 := mdI_b a
  have h2 := mdI_b b
  refine ⟨Int.mul_nonneg h1.1 h2.1, ?_⟩
  have := Int.mul_le_mul h1.2 h2.2 h2.1 (by decide : (0 : Int) ≤ 10006)
  omega
theorem md_mul (a b : Int) : mdI a * mdI b - mdI a * mdI b / (10007 : Int32) * (10007 : Int32) = mdI (a * b) := by
  have h := em_bd a b
  rw [md_rem (im (mdI_t a) (mdI_t b) (by omega)) h.1]
  exact mdI_eq (em_mul a b)
theorem md_add (a b : Int) : (mdI a + mdI b) - (mdI a + mdI b) / (10007 : Int32) * (10007 : Int32) = mdI (a + b) := by
  have h1 := mdI_b a
  have h2 := mdI_b b
  rw [md_rem (ia (mdI_t a) (mdI_t b) (by omega)) (by omega)]
  exact mdI_eq (cg.add (cg_em a) (cg_em b))
theorem md_addmul (c a b : Int) : (mdI c + mdI a * mdI b) - (mdI c + mdI a * mdI b) / (10007 : Int32) * (10007 : Int32) = mdI (c + a * b) := by
  have h := em_bd a b
  have h1 := mdI_b c
  rw [md_rem (ia (mdI_t c) (im (mdI_t a) (mdI_t b) (by omega)) (by omega)) (by omega)]
  exact mdI_eq (cg.add (cg_em c) (em_mul a b))
theorem md_muladd (c a b : Int) : (mdI a * mdI b + mdI c) - (mdI a * mdI b + mdI c) / (10007 : Int32) * (10007 : Int32) = mdI (a * b + c) := by
  have h := em_bd a b
  have h1 := mdI_b c
  rw [md_rem (ia (im (mdI_t a) (mdI_t b) (by omega)) (mdI_t c) (by omega)) (by omega)]
  exact mdI_eq (cg.add (em_mul a b) (cg_em c))
theorem mdI_1 : mdI 1 = 1 := by decide
theorem fdI_1 : fdI 1 = 1 := by decide
theorem mdI_z : mdI 0 = 0 := by decide
theorem fdI_z : fdI 0 = 0 := by decide
theorem mdI_n {n : Nat} (h : n < 10007) : mdI n = nI n := ieq (by rw [mdI_t, nI_t (by omega)]; omega)
theorem fdI_n {n : Nat} (h : n ≤ 5003) : fdI n = nI n := ieq (by rw [fdI_t, nI_t (by omega)]; rcases bmod_t (n : Int) with g | g <;> omega)
theorem mdI_pos {a : Int} : mdI a ≤ 0 ↔ cg a 0 := by
  rw [Int32.le_iff_toInt_le, mdI_t]
  have h := mdI_b a
  have k : (0 : Int32).toInt = 0 := rfl
  unfold cg
  omega
/-- a fold of longs -/
theorem fd_long {x : Int64} {w : Int} (h : x.toInt = w) {z : Int} (hz : cg w z) {K : Int32 → Prop} (hK : K (fdI z)) : wp_X3_fold x K := by
  refine wp_fold ?_
  rw [h, fdI_eq hz]
  exact hK
theorem bb (a b : Int) : -25030009 ≤ a.bmod 10007 * b.bmod 10007 ∧ a.bmod 10007 * b.bmod 10007 ≤ 25030009 := by
  have h1 := fdI_b a
  have h2 := fdI_b b
  generalize a.bmod 10007 = x at h1 ⊢
  generalize b.bmod 10007 = y at h2 ⊢
  have e : (x * y).natAbs ≤ 5003 * 5003 := by
    rw [Int.natAbs_mul]
    exact Nat.mul_le_mul (by omega) (by omega)
  omega
theorem mb {x y X Y : Int} (hx : -X ≤ x ∧ x ≤ X) (hy : -Y ≤ y ∧ y ≤ Y) : -(X * Y) ≤ x * y ∧ x * y ≤ X * Y := by
  have hX : 0 ≤ X := by omega
  have hY : 0 ≤ Y := by omega
  have e : (x * y).natAbs ≤ X.natAbs * Y.natAbs := by
    rw [Int.natAbs_mul]
    exact Nat.mul_le_mul (by omega) (by omega)
  have e2 : ((X.natAbs * Y.natAbs : Nat) : Int) = X * Y := by
    rw [Int.natCast_mul, Int.natAbs_of_nonneg hX, Int.natAbs_of_nonneg hY]
  omega
/-- the class's fold of  a * b ,  c + a * b -/
theorem wp_foldmul {a b : Int} {K : Int32 → Prop} (h : K (fdI (a * b))) : wp_X3_fold ((fdI a).toInt64 * (fdI b).toInt64) K := by
  have hb := bb a b
  refine fd_long (lm (i2l_t (fdI_t a)) (i2l_t (fdI_t b)) (by omega)) ?_ h
  exact cg.mul (cg_bm a) (cg_bm b)
theorem wp_foldaddmul {c a b : Int} {K : Int32 → Prop} (h : K (fdI (c + a * b))) : wp_X3_fold ((fdI c).toInt64 + (fdI a).toInt64 * (fdI b).toInt64) K := by
  have hb := bb a b
  have hc := fdI_b c
  refine fd_long (la (i2l_t (fdI_t c)) (lm (i2l_t (fdI_t a)) (i2l_t (fdI_t b)) (by omega)) (by omega)) ?_ h
  exact cg.add (cg_bm c) (cg.mul (cg_bm a) (cg_bm b))
theorem cg_iff {a b : Int} : cg a b ↔ cg (a - b) 0 := by unfold cg; omega
theorem cg0_mul {a b : Int} (h : cg a 0) : cg (a * b) 0 := by
  have := cg.mul h (cg.rf (a := b))
  rw [Int.zero_mul] at this
  exact this
