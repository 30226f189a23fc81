set_option maxRecDepth 20000 in
theorem wp_mimage {isFound foundB changes isKept keptFound keptB keptChanges : Int32} {f operator foundNumbers b changeWhats changeVs keptF keptOperator keptNumbers keptBs keptWhats keptVs : Nat → Int32} {K : Int32 → Int32 → Int32 → Int32 → Int32 → (Nat → Int32) → (Nat → Int32) → (Nat → Int32) → (Nat → Int32) → (Nat → Int32) → (Nat → Int32) → Prop} (hz : narrow .boolean (.int isFound) = .int isFound) (hK : K (hiA f 5) 1 isFound foundB changes (cpy 5 f keptF) (cpy 75 operator keptOperator) (cpy 75 foundNumbers keptNumbers) (cpy 9 b keptBs) (cpy 8 changeWhats keptWhats) (cpy 8 changeVs keptVs)) : wp_X12_image isFound foundB changes isKept keptFound keptB keptChanges f operator foundNumbers b changeWhats changeVs keptF keptOperator keptNumbers keptBs keptWhats keptVs K := by
  unfold wp_X12_image
  refine V_X12_image_7 5 (fun i g_isKept g_keptFound g_keptB g_keptChanges g_keptF g_keptOperator g_keptNumbers g_keptBs g_keptWhats g_keptVs => (1 : Int32) = g_isKept ∧ keptFound = g_keptFound ∧ keptB = g_keptB ∧ keptChanges = g_keptChanges ∧ cpy i f keptF = g_keptF ∧ keptOperator = g_keptOperator ∧ keptNumbers = g_keptNumbers ∧ keptBs = g_keptBs ∧ keptWhats = g_keptWhats ∧ keptVs = g_keptVs) (fun k g_isKept g_keptFound g_keptB g_keptChanges g_keptF g_keptOperator g_keptNumbers g_keptBs g_keptWhats g_keptVs h => ?_) (fun k i g_isKept g_keptFound g_keptB g_keptChanges g_keptF g_keptOperator g_keptNumbers g_keptBs g_keptWhats g_keptVs hi h ih => ?_) (i := 0) (Nat.zero_le _) ⟨rfl, rfl, rfl, rfl, cpy_0 _ _, rfl, rfl, rfl, rfl, rfl⟩
  rotate_left
  · obtain ⟨e0, e1, e2, e3, e4, e5, e6, e7, e8, e9⟩ := h
    subst e0 e1 e2 e3 e4 e5 e6 e7 e8 e9
    unfold lp_X12_image_7
    refine br_f (ngt (b := 5) hi (by decide)) ⟨vpn hi (by decide), fun y0 qy0 => ?_⟩
    subst qy0
    rw [cln (by omega)]
    exact ih _ _ _ _ _ _ _ _ _ _ ⟨rfl, rfl, rfl, rfl, (cpy_s _ _ _).symm, rfl, rfl, rfl, rfl, rfl⟩
  obtain ⟨e0, e1, e2, e3, e4, e5, e6, e7, e8, e9⟩ := h
  subst e0 e1 e2 e3 e4 e5 e6 e7 e8 e9
  unfold lp_X12_image_7
  refine br_t (nle (Nat.le_refl 5) (by decide)) ?_
  unfold jn_X12_image_30
  refine V_X12_image_32 75 (fun i g_isKept g_keptFound g_keptB g_keptChanges g_keptF g_keptOperator g_keptNumbers g_keptBs g_keptWhats g_keptVs => (1 : Int32) = g_isKept ∧ keptFound = g_keptFound ∧ keptB = g_keptB ∧ keptChanges = g_keptChanges ∧ (cpy 5 f keptF) = g_keptF ∧ cpy i operator keptOperator = g_keptOperator ∧ cpy i foundNumbers keptNumbers = g_keptNumbers ∧ keptBs = g_keptBs ∧ keptWhats = g_keptWhats ∧ keptVs = g_keptVs) (fun k g_isKept g_keptFound g_keptB g_keptChanges g_keptF g_keptOperator g_keptNumbers g_keptBs g_keptWhats g_keptVs h => ?_) (fun k i g_isKept g_keptFound g_keptB g_keptChanges g_keptF g_keptOperator g_keptNumbers g_keptBs g_keptWhats g_keptVs hi h ih => ?_) (i := 0) (Nat.zero_le _) ⟨rfl, rfl, rfl, rfl, rfl, cpy_0 _ _, cpy_0 _ _, rfl, rfl, rfl⟩
  rotate_left
  · obtain ⟨e0, e1, e2, e3, e4, e5, e6, e7, e8, e9⟩ := h
    subst e0 e1 e2 e3 e4 e5 e6 e7 e8 e9
    unfold lp_X12_image_32
    refine br_f (ngt (b := 75) hi (by decide)) ⟨vpn hi (by decide), fun y0 qy0 => fun y1 qy1 => ?_⟩
    subst qy0 qy1
    rw [cln (by omega)]
    exact ih _ _ _ _ _ _ _ _ _ _ ⟨rfl, rfl, rfl, rfl, rfl, (cpy_s _ _ _).symm, (cpy_s _ _ _).symm, rfl, rfl, rfl⟩
  obtain ⟨e0, e1, e2, e3, e4, e5, e6, e7, e8, e9⟩ := h
  subst e0 e1 e2 e3 e4 e5 e6 e7 e8 e9
  unfold lp_X12_image_32
  refine br_t (nle (Nat.le_refl 75) (by decide)) ?_
  unfold jn_X12_image_68
  refine ⟨hz, ?_⟩
  refine V_X12_image_86 9 (fun i g_isKept g_keptFound g_keptB g_keptChanges g_keptF g_keptOperator g_keptNumbers g_keptBs g_keptWhats g_keptVs => (1 : Int32) = g_isKept ∧ isFound = g_keptFound ∧ foundB = g_keptB ∧ keptChanges = g_keptChanges ∧ (cpy 5 f keptF) = g_keptF ∧ (cpy 75 operator keptOperator) = g_keptOperator ∧ (cpy 75 foundNumbers keptNumbers) = g_keptNumbers ∧ cpy i b keptBs = g_keptBs ∧ keptWhats = g_keptWhats ∧ keptVs = g_keptVs) (fun k g_isKept g_keptFound g_keptB g_keptChanges g_keptF g_keptOperator g_keptNumbers g_keptBs g_keptWhats g_keptVs h => ?_) (fun k i g_isKept g_keptFound g_keptB g_keptChanges g_keptF g_keptOperator g_keptNumbers g_keptBs g_keptWhats g_keptVs hi h ih => ?_) (i := 0) (Nat.zero_le _) ⟨rfl, rfl, rfl, rfl, rfl, rfl, rfl, cpy_0 _ _, rfl, rfl⟩
  rotate_left
  · obtain ⟨e0, e1, e2, e3, e4, e5, e6, e7, e8, e9⟩ := h
    subst e0 e1 e2 e3 e4 e5 e6 e7 e8 e9
    unfold lp_X12_image_86
    refine br_f (ngt (b := 9) hi (by decide)) ⟨vpn hi (by decide), fun y0 qy0 => ?_⟩
    subst qy0
    rw [cln (by omega)]
    exact ih _ _ _ _ _ _ _ _ _ _ ⟨rfl, rfl, rfl, rfl, rfl, rfl, rfl, (cpy_s _ _ _).symm, rfl, rfl⟩
  obtain ⟨e0, e1, e2, e3, e4, e5, e6, e7, e8, e9⟩ := h
  subst e0 e1 e2 e3 e4 e5 e6 e7 e8 e9
  unfold lp_X12_image_86
  refine br_t (nle (Nat.le_refl 9) (by decide)) ?_
  unfold jn_X12_image_110
  refine V_X12_image_120 8 (fun i g_isKept g_keptFound g_keptB g_keptChanges g_keptF g_keptOperator g_keptNumbers g_keptBs g_keptWhats g_keptVs => (1 : Int32) = g_isKept ∧ isFound = g_keptFound ∧ foundB = g_keptB ∧ changes = g_keptChanges ∧ (cpy 5 f keptF) = g_keptF ∧ (cpy 75 operator keptOperator) = g_keptOperator ∧ (cpy 75 foundNumbers keptNumbers) = g_keptNumbers ∧ (cpy 9 b keptBs) = g_keptBs ∧ cpy i changeWhats keptWhats = g_keptWhats ∧ cpy i changeVs keptVs = g_keptVs) (fun k g_isKept g_keptFound g_keptB g_keptChanges g_keptF g_keptOperator g_keptNumbers g_keptBs g_keptWhats g_keptVs h => ?_) (fun k i g_isKept g_keptFound g_keptB g_keptChanges g_keptF g_keptOperator g_keptNumbers g_keptBs g_keptWhats g_keptVs hi h ih => ?_) (i := 0) (Nat.zero_le _) ⟨rfl, rfl, rfl, rfl, rfl, rfl, rfl, rfl, cpy_0 _ _, cpy_0 _ _⟩
  rotate_left
  · obtain ⟨e0, e1, e2, e3, e4, e5, e6, e7, e8, e9⟩ := h
    subst e0 e1 e2 e3 e4 e5 e6 e7 e8 e9
    unfold lp_X12_image_120
    refine br_f (ngt (b := 8) hi (by decide)) ⟨vpn hi (by decide), fun y0 qy0 => fun y1 qy1 => ?_⟩
    subst qy0 qy1
    rw [cln (by omega)]
    exact ih _ _ _ _ _ _ _ _ _ _ ⟨rfl, rfl, rfl, rfl, rfl, rfl, rfl, rfl, (cpy_s _ _ _).symm, (cpy_s _ _ _).symm⟩
  obtain ⟨e0, e1, e2, e3, e4, e5, e6, e7, e8, e9⟩ := h
  subst e0 e1 e2 e3 e4 e5 e6 e7 e8 e9
  unfold lp_X12_image_120
  refine br_t (nle (Nat.le_refl 8) (by decide)) ?_
  unfold jn_X12_image_156
  exact wp_degreeOf hK
set_option maxRecDepth 20000 in
theorem wp_mundo {isFound foundB changes isKept keptFound keptB keptChanges : Int32} {f operator foundNumbers b changeWhats changeVs keptF keptOperator keptNumbers keptBs keptWhats keptVs : Nat → Int32} {K : Int32 → Int32 → Int32 → Int32 → (Nat → Int32) → (Nat → Int32) → (Nat → Int32) → (Nat → Int32) → (Nat → Int32) → (Nat → Int32) → Prop} (hz : narrow .boolean (.int keptFound) = .int keptFound) (hk : ¬ isKept = 0) (hK : K (hiA (cpy 5 keptF f) 5) keptFound keptB keptChanges (cpy 5 keptF f) (cpy 75 keptOperator operator) (cpy 75 keptNumbers foundNumbers) (cpy 9 keptBs b) (cpy 8 keptWhats changeWhats) (cpy 8 keptVs changeVs)) : wp_X12_undo isFound foundB changes isKept keptFound keptB keptChanges f operator foundNumbers b changeWhats changeVs keptF keptOperator keptNumbers keptBs keptWhats keptVs K := by
  unfold wp_X12_undo
  refine rb_f hk ?_
  refine V_X12_undo_12 5 (fun i g_isFound g_foundB g_changes g_f g_operator g_foundNumbers g_b g_changeWhats g_changeVs => isFound = g_isFound ∧ foundB = g_foundB ∧ changes = g_changes ∧ cpy i keptF f = g_f ∧ operator = g_operator ∧ foundNumbers = g_foundNumbers ∧ b = g_b ∧ changeWhats = g_changeWhats ∧ changeVs = g_changeVs) (fun k g_isFound g_foundB g_changes g_f g_operator g_foundNumbers g_b g_changeWhats g_changeVs h => ?_) (fun k i g_isFound g_foundB g_changes g_f g_operator g_foundNumbers g_b g_changeWhats g_changeVs hi h ih => ?_) (i := 0) (Nat.zero_le _) ⟨rfl, rfl, rfl, cpy_0 _ _, rfl, rfl, rfl, rfl, rfl⟩
  rotate_left
  · obtain ⟨e0, e1, e2, e3, e4, e5, e6, e7, e8⟩ := h
    subst e0 e1 e2 e3 e4 e5 e6 e7 e8
    unfold lp_X12_undo_12
    refine br_f (ngt (b := 5) hi (by decide)) ⟨vpn hi (by decide), fun y0 qy0 => ?_⟩
    subst qy0
    rw [cln (by omega)]
    exact ih _ _ _ _ _ _ _ _ _ ⟨rfl, rfl, rfl, (cpy_s _ _ _).symm, rfl, rfl, rfl, rfl, rfl⟩
  obtain ⟨e0, e1, e2, e3, e4, e5, e6, e7, e8⟩ := h
  subst e0 e1 e2 e3 e4 e5 e6 e7 e8
  unfold lp_X12_undo_12
  refine br_t (nle (Nat.le_refl 5) (by decide)) ?_
  unfold jn_X12_undo_35
  refine V_X12_undo_37 75 (fun i g_isFound g_foundB g_changes g_f g_operator g_foundNumbers g_b g_changeWhats g_changeVs => isFound = g_isFound ∧ foundB = g_foundB ∧ changes = g_changes ∧ (cpy 5 keptF f) = g_f ∧ cpy i keptOperator operator = g_operator ∧ cpy i keptNumbers foundNumbers = g_foundNumbers ∧ b = g_b ∧ changeWhats = g_changeWhats ∧ changeVs = g_changeVs) (fun k g_isFound g_foundB g_changes g_f g_operator g_foundNumbers g_b g_changeWhats g_changeVs h => ?_) (fun k i g_isFound g_foundB g_changes g_f g_operator g_foundNumbers g_b g_changeWhats g_changeVs hi h ih => ?_) (i := 0) (Nat.zero_le _) ⟨rfl, rfl, rfl, rfl, cpy_0 _ _, cpy_0 _ _, rfl, rfl, rfl⟩
  rotate_left
  · obtain ⟨e0, e1, e2, e3, e4, e5, e6, e7, e8⟩ := h
    subst e0 e1 e2 e3 e4 e5 e6 e7 e8
    unfold lp_X12_undo_37
    refine br_f (ngt (b := 75) hi (by decide)) ⟨vpn hi (by decide), fun y0 qy0 => fun y1 qy1 => ?_⟩
    subst qy0 qy1
    rw [cln (by omega)]
    exact ih _ _ _ _ _ _ _ _ _ ⟨rfl, rfl, rfl, rfl, (cpy_s _ _ _).symm, (cpy_s _ _ _).symm, rfl, rfl, rfl⟩
  obtain ⟨e0, e1, e2, e3, e4, e5, e6, e7, e8⟩ := h
  subst e0 e1 e2 e3 e4 e5 e6 e7 e8
  unfold lp_X12_undo_37
  refine br_t (nle (Nat.le_refl 75) (by decide)) ?_
  unfold jn_X12_undo_73
  refine ⟨hz, ?_⟩
  refine V_X12_undo_91 9 (fun i g_isFound g_foundB g_changes g_f g_operator g_foundNumbers g_b g_changeWhats g_changeVs => keptFound = g_isFound ∧ keptB = g_foundB ∧ changes = g_changes ∧ (cpy 5 keptF f) = g_f ∧ (cpy 75 keptOperator operator) = g_operator ∧ (cpy 75 keptNumbers foundNumbers) = g_foundNumbers ∧ cpy i keptBs b = g_b ∧ changeWhats = g_changeWhats ∧ changeVs = g_changeVs) (fun k g_isFound g_foundB g_changes g_f g_operator g_foundNumbers g_b g_changeWhats g_changeVs h => ?_) (fun k i g_isFound g_foundB g_changes g_f g_operator g_foundNumbers g_b g_changeWhats g_changeVs hi h ih => ?_) (i := 0) (Nat.zero_le _) ⟨rfl, rfl, rfl, rfl, rfl, rfl, cpy_0 _ _, rfl, rfl⟩
  rotate_left
  · obtain ⟨e0, e1, e2, e3, e4, e5, e6, e7, e8⟩ := h
    subst e0 e1 e2 e3 e4 e5 e6 e7 e8
    unfold lp_X12_undo_91
    refine br_f (ngt (b := 9) hi (by decide)) ⟨vpn hi (by decide), fun y0 qy0 => ?_⟩
    subst qy0
    rw [cln (by omega)]
    exact ih _ _ _ _ _ _ _ _ _ ⟨rfl, rfl, rfl, rfl, rfl, rfl, (cpy_s _ _ _).symm, rfl, rfl⟩
  obtain ⟨e0, e1, e2, e3, e4, e5, e6, e7, e8⟩ := h
  subst e0 e1 e2 e3 e4 e5 e6 e7 e8
  unfold lp_X12_undo_91
  refine br_t (nle (Nat.le_refl 9) (by decide)) ?_
  unfold jn_X12_undo_115
  refine V_X12_undo_125 8 (fun i g_isFound g_foundB g_changes g_f g_operator g_foundNumbers g_b g_changeWhats g_changeVs => keptFound = g_isFound ∧ keptB = g_foundB ∧ keptChanges = g_changes ∧ (cpy 5 keptF f) = g_f ∧ (cpy 75 keptOperator operator) = g_operator ∧ (cpy 75 keptNumbers foundNumbers) = g_foundNumbers ∧ (cpy 9 keptBs b) = g_b ∧ cpy i keptWhats changeWhats = g_changeWhats ∧ cpy i keptVs changeVs = g_changeVs) (fun k g_isFound g_foundB g_changes g_f g_operator g_foundNumbers g_b g_changeWhats g_changeVs h => ?_) (fun k i g_isFound g_foundB g_changes g_f g_operator g_foundNumbers g_b g_changeWhats g_changeVs hi h ih => ?_) (i := 0) (Nat.zero_le _) ⟨rfl, rfl, rfl, rfl, rfl, rfl, rfl, cpy_0 _ _, cpy_0 _ _⟩
  rotate_left
  · obtain ⟨e0, e1, e2, e3, e4, e5, e6, e7, e8⟩ := h
    subst e0 e1 e2 e3 e4 e5 e6 e7 e8
    unfold lp_X12_undo_125
    refine br_f (ngt (b := 8) hi (by decide)) ⟨vpn hi (by decide), fun y0 qy0 => fun y1 qy1 => ?_⟩
    subst qy0 qy1
    rw [cln (by omega)]
    exact ih _ _ _ _ _ _ _ _ _ ⟨rfl, rfl, rfl, rfl, rfl, rfl, rfl, (cpy_s _ _ _).symm, (cpy_s _ _ _).symm⟩
  obtain ⟨e0, e1, e2, e3, e4, e5, e6, e7, e8⟩ := h
  subst e0 e1 e2 e3 e4 e5 e6 e7 e8
  unfold lp_X12_undo_125
  refine br_t (nle (Nat.le_refl 8) (by decide)) ?_
  unfold jn_X12_undo_161
  exact wp_degreeOf hK
