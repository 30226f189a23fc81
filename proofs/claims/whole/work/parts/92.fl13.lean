/-! floats: values and slopes, as the class makes them -/
theorem Fk32 : Fk FP.Core.b32 := ⟨FP.Core.good_b32, by decide, by decide, by decide⟩
theorem Fk64 : Fk FP.Core.b64 := ⟨FP.Core.good_b64, by decide, by decide, by decide⟩
theorem Pn_of {f : FP.Core.Fmt} (hf : Fk f) {n : Nat} (h : n < 2 * 2 ^ sb f) : Pn f (lN n) (FP.Core.decode f n) := by
  have hP := Nat.two_pow_pos (sb f)
  by_cases c : n < 2 ^ sb f
  · have e : sg false (sb f) + n = n := by
      unfold sg
      rw [show Bool.toNat false = 0 from rfl, Nat.zero_mul, Nat.zero_add]
    have := dec_cl (s := false) hf c
    rw [e] at this
    exact ⟨false, n, c, by rw [e], this⟩
  · have e : sg true (sb f) + (n - 2 ^ sb f) = n := by
      unfold sg
      rw [show Bool.toNat true = 1 from rfl, Nat.one_mul]
      omega
    have := dec_cl (s := true) (m := n - 2 ^ sb f) hf (by omega)
    rw [e] at this
    exact ⟨true, n - 2 ^ sb f, by omega, by rw [e], this⟩
theorem Pn_enc {f : FP.Core.Fmt} (hf : Fk f) {d : FP.Core.Datum} (h : FP.Core.fits f d) : Pn f (lN (FP.Core.encode f d)) d := by
  have h1 := FP.Core.encode_lt hf.1 d h
  have := Pn_of hf (n := FP.Core.encode f d) (by rw [sb_e, ← Nat.mul_assoc]; exact h1)
  rw [FP.Core.decode_encode hf.1 d h] at this
  exact this
def stp (f : FP.Core.Fmt) (dx D : FP.Core.Datum) (n : Int) : FP.Core.Datum := FP.Core.round f (FP.Core.exactSum (FP.Core.round f (FP.Core.exactProduct D dx)) (FP.Core.round f (FP.Core.ofInt n)))
def vlD (f : FP.Core.Fmt) (dx : FP.Core.Datum) (g : Nat → Int) : Nat → FP.Core.Datum → FP.Core.Datum
  | 0, D => D
  | i + 1, D => vlD f dx g i (stp f dx D (g i))
theorem vlD_fits {f : FP.Core.Fmt} (hf : Fk f) {dx : FP.Core.Datum} {g : Nat → Int} : ∀ (i : Nat) (D : FP.Core.Datum), FP.Core.fits f D → FP.Core.fits f (vlD f dx g i D)
  | 0, _, h => h
  | i + 1, D, _ => vlD_fits hf i _ (FP.Core.round_fits hf.1 _)
def zeroD (f : FP.Core.Fmt) : FP.Core.Datum := .fin false 0 f.qmin
theorem zeroD_e (f : FP.Core.Fmt) : lN (FP.Core.encode f (zeroD f)) = 0 := by
  unfold zeroD
  rw [enc_z, sg_F]
/-- one step of the class -/
theorem wp_stp {f : FP.Core.Fmt} {x : Int64} {dx D : FP.Core.Datum} {n : Int32} {K : Int64 → Prop} {P : Prop} (hf : Fk f) (hx : Pn f x dx) (hD : FP.Core.fits f D) (hP : P) (hK : K (lN (FP.Core.encode f (stp f dx D n.toInt)))) : wp_X7_times (lN (FP.Core.encode f D)) x (nI (f.p - 1)) (nI f.emax) (nI (f.exps - 1)) (lN (2 ^ sb f)) (lN ((f.exps - 1) * f.tails)) (lN (FP.Core.encode f .nan)) (fun y1 => P ∧ wp_X7_ofWhole n (nI (f.p - 1)) (nI f.emax) (nI (f.exps - 1)) (lN (2 ^ sb f)) (lN ((f.exps - 1) * f.tails)) (fun y3 => wp_X7_plus y1 y3 (nI (f.p - 1)) (nI f.emax) (nI (f.exps - 1)) (lN (2 ^ sb f)) (lN ((f.exps - 1) * f.tails)) (lN (FP.Core.encode f .nan)) K)) :=
  wp_times hf (Pn_enc hf hD) hx ⟨hP, wp_ofWhole hf (wp_plus hf (Pn_enc hf (FP.Core.round_fits hf.1 _)) (Pn_enc hf (FP.Core.round_fits hf.1 _)) hK)⟩
theorem wp_atPoint {f : FP.Core.Fmt} {x : Int64} {dx : FP.Core.Datum} {A : Nat → Int32} {K : Int64 → Prop} (hf : Fk f) (hx : Pn f x dx) (hK : K (lN (FP.Core.encode f (vlD f dx (fun i => (A i).toInt) 5 (zeroD f))))) : wp_X7_atPoint x (nI (f.p - 1)) (nI f.emax) (nI (f.exps - 1)) (lN (2 ^ sb f)) (lN ((f.exps - 1) * f.tails)) (lN (FP.Core.encode f .nan)) A K := by
  unfold wp_X7_atPoint
  refine V_X7_atPoint_6 (fun i g => i ≤ 5 ∧ ∃ D, FP.Core.fits f D ∧ lN (FP.Core.encode f D) = g ∧ vlD f dx (fun i => (A i).toInt) i D = vlD f dx (fun i => (A i).toInt) 5 (zeroD f)) (fun k g e => ?_) (fun k i g e ih => ?_) (n := 4) ⟨Nat.le_refl 5, zeroD f, FP.Core.zero_fits hf.1 false, zeroD_e f, rfl⟩
  · obtain ⟨_, D, h1, h2, h3⟩ := e
    subst h2
    unfold lp_X7_atPoint_6
    refine br_t (by decide) ?_
    rw [← h3] at hK
    exact hK
  · obtain ⟨hi, D, h1, h2, h3⟩ := e
    subst h2
    unfold lp_X7_atPoint_6
    refine br_f (nlt0 (by omega)) ?_
    rw [cln (by omega)]
    refine wp_stp hf hx h1 (vpn (by omega) (by decide)) ?_
    exact ih _ ⟨by omega, _, FP.Core.round_fits hf.1 _, rfl, h3⟩
