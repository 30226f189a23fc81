/-! the law's invariant at its start -/
theorem rl_zero {n : Nat} {A B : Nat → Int32} (hA : ∀ i, A i = 0) (hB : ∀ i, B i = 0) : rl n A B (fun _ => 0) := fun i _ => ⟨(hA i).trans (fdI_0.mpr cg.rf).symm, (hB i).trans (mdI_0.mpr cg.rf).symm⟩
theorem lz_f : rl 5 (FA0 2) (FA0 65) (fun i => if i = 2 then 1 else 0) := by
  intro i hi
  rcases (show i = 0 ∨ i = 1 ∨ i = 2 ∨ i = 3 ∨ i = 4 by omega) with rfl | rfl | rfl | rfl | rfl <;> exact ⟨by decide +kernel, by decide +kernel⟩
theorem lz_pl : pl (FA0 14) (FA0 15) (FA0 79) (FA0 80) := fun i _ => ⟨rfl, rfl, ⟨0, by omega, rfl⟩, show -99 ≤ (0 : Int32).toInt by decide, show (0 : Int32).toInt ≤ 99 by decide⟩
theorem lz_rk : rkR (FA0 51) (FA0 52) (FA0 53) (FA0 54) (FA0 83) (FA0 84) (FA0 85) (FA0 86) := by
  refine ⟨fun i hi => ?_, fun i _ => rfl⟩
  rcases (show i = 0 ∨ i = 1 ∨ i = 2 by omega) with rfl | rfl | rfl <;> exact ⟨by decide +kernel, rfl, Or.inl ⟨by decide +kernel, rfl⟩⟩
theorem lz_ls : lsR (FA0 60) (FA0 89) (FL0 61) (FL0 90) := by
  refine ⟨fun i hi => ?_, fun i _ => rfl⟩
  rcases (show i = 0 ∨ i = 1 ∨ i = 2 by omega) with rfl | rfl | rfl <;> exact ⟨by decide +kernel, by decide +kernel, by decide +kernel⟩
theorem LI_start : LI FI0 FA0 FL0 := ⟨⟨⟨_, lz_f⟩, ⟨_, rl_zero (fun _ => rfl) (fun _ => rfl)⟩, Or.inl ⟨rfl, rfl⟩, fun h => absurd rfl h, ⟨0, by omega, rfl, rfl⟩, lz_pl⟩, ⟨rfl, fun h => absurd rfl h⟩, lz_rk, ⟨0, by omega, rfl, rfl⟩, fun i _ => ⟨rfl, show 0 ≤ (0 : Int32).toInt by decide, show (0 : Int32).toInt ≤ 126 by decide⟩, lz_ls⟩
