theorem hd_X12_pivotRow : yX12_pivotRow.cls = RX12 ∧ yX12_pivotRow.cls ≠ "java/lang/invoke/MethodHandle" ∧ yX12_pivotRow.cls ≠ "java/lang/invoke/VarHandle" ∧ (parseMethodDescriptor yX12_pivotRow.desc).map (fun d => d.parameters.length) = some 2 := by decide +kernel
theorem hd_X12_laysColumns : yX12_laysColumns.cls = RX12 ∧ yX12_laysColumns.cls ≠ "java/lang/invoke/MethodHandle" ∧ yX12_laysColumns.cls ≠ "java/lang/invoke/VarHandle" ∧ (parseMethodDescriptor yX12_laysColumns.desc).map (fun d => d.parameters.length) = some 3 := by decide +kernel
theorem hd_X12_finds : yX12_finds.cls = RX12 ∧ yX12_finds.cls ≠ "java/lang/invoke/MethodHandle" ∧ yX12_finds.cls ≠ "java/lang/invoke/VarHandle" ∧ (parseMethodDescriptor yX12_finds.desc).map (fun d => d.parameters.length) = some 3 := by decide +kernel
theorem hd_X12_search : yX12_search.cls = RX12 ∧ yX12_search.cls ≠ "java/lang/invoke/MethodHandle" ∧ yX12_search.cls ≠ "java/lang/invoke/VarHandle" ∧ (parseMethodDescriptor yX12_search.desc).map (fun d => d.parameters.length) = some 3 := by decide +kernel
theorem hd_X12_found : yX12_found.cls = RX12 ∧ yX12_found.cls ≠ "java/lang/invoke/MethodHandle" ∧ yX12_found.cls ≠ "java/lang/invoke/VarHandle" ∧ (parseMethodDescriptor yX12_found.desc).map (fun d => d.parameters.length) = some 1 := by decide +kernel
theorem hd_X12_foundOf : yX12_foundOf.cls = RX12 ∧ yX12_foundOf.cls ≠ "java/lang/invoke/MethodHandle" ∧ yX12_foundOf.cls ≠ "java/lang/invoke/VarHandle" ∧ (parseMethodDescriptor yX12_foundOf.desc).map (fun d => d.parameters.length) = some 3 := by decide +kernel
theorem hd_X12_take : yX12_take.cls = RX12 ∧ yX12_take.cls ≠ "java/lang/invoke/MethodHandle" ∧ yX12_take.cls ≠ "java/lang/invoke/VarHandle" ∧ (parseMethodDescriptor yX12_take.desc).map (fun d => d.parameters.length) = some 0 := by decide +kernel
theorem hd_X12_howOften : yX12_howOften.cls = RX12 ∧ yX12_howOften.cls ≠ "java/lang/invoke/MethodHandle" ∧ yX12_howOften.cls ≠ "java/lang/invoke/VarHandle" ∧ (parseMethodDescriptor yX12_howOften.desc).map (fun d => d.parameters.length) = some 1 := by decide +kernel
theorem hd_X12_divisor : yX12_divisor.cls ≠ "java/lang/invoke/MethodHandle" ∧ yX12_divisor.cls ≠ "java/lang/invoke/VarHandle" ∧ (parseMethodDescriptor yX12_divisor.desc).map (fun d => d.parameters.length) = some 2 := by decide +kernel
theorem kt_X12_finds_X12 : ∀ w ∈ u_ws RX12 TX12 45, w ∈ wsX12_finds := fun _ h => List.mem_cons_of_mem _ (List.mem_append_right _ (h))
theorem kt_X12_found_X12 : ∀ w ∈ u_ws RX12 TX12 45, w ∈ wsX12_found := fun _ h => List.mem_cons_of_mem _ (List.mem_append_right _ (h))
theorem kt_X12_foundOf_X12 : ∀ w ∈ u_ws RX12 TX12 45, w ∈ wsX12_foundOf := fun _ h => List.mem_cons_of_mem _ (List.mem_append_right _ (h))
theorem kt_X12_howOften_X12 : ∀ w ∈ u_ws RX12 TX12 45, w ∈ wsX12_howOften := fun _ h => List.mem_cons_of_mem _ (List.mem_append_right _ (h))
theorem kt_X12_laysColumns_X12 : ∀ w ∈ u_ws RX12 TX12 45, w ∈ wsX12_laysColumns := fun _ h => List.mem_cons_of_mem _ (List.mem_append_right _ (h))
theorem kt_X12_pivotRow_X12 : ∀ w ∈ u_ws RX12 TX12 45, w ∈ wsX12_pivotRow := fun _ h => List.mem_cons_of_mem _ (List.mem_append_right _ (h))
theorem kt_X12_search_X12 : ∀ w ∈ u_ws RX12 TX12 45, w ∈ wsX12_search := fun _ h => List.mem_cons_of_mem _ (List.mem_append_right _ (h))
theorem kt_X12_take_X12 : ∀ w ∈ u_ws RX12 TX12 45, w ∈ wsX12_take := fun _ h => List.mem_cons_of_mem _ (List.mem_append_right _ (h))
theorem kw_X12_pivotRow_1 : Cond.fieldLink RX12 36 "LoweredPowersModel" "table" "[I" ∈ wsX12_pivotRow := List.mem_of_getElem? (i := 1) rfl
theorem kw_X12_laysColumns_2 : Cond.fieldLink RX12 30 "LoweredPowersModel" "cells" "[I" ∈ wsX12_laysColumns := List.mem_of_getElem? (i := 2) rfl
theorem kw_X12_laysColumns_3 : Cond.fieldLink RX12 24 "LoweredPowersModel" "powers" "[I" ∈ wsX12_laysColumns := List.mem_of_getElem? (i := 3) rfl
theorem kw_X12_laysColumns_1 : Cond.fieldLink RX12 39 "LoweredPowersModel" "owners" "[I" ∈ wsX12_laysColumns := List.mem_of_getElem? (i := 1) rfl
theorem kw_X12_finds_5 : Cond.fieldLink RX12 36 "LoweredPowersModel" "table" "[I" ∈ wsX12_finds := List.mem_of_getElem? (i := 5) rfl
theorem kw_X12_finds_6 : Cond.fieldLink RX12 42 "LoweredPowersModel" "pivots" "[I" ∈ wsX12_finds := List.mem_of_getElem? (i := 6) rfl
theorem kw_X12_finds_4 : Cond.fieldLink RX12 21 "LoweredPowersModel" "b" "[I" ∈ wsX12_finds := List.mem_of_getElem? (i := 4) rfl
theorem kw_X12_finds_3 : Cond.fieldLink RX12 18 "LoweredPowersModel" "foundNumbers" "[I" ∈ wsX12_finds := List.mem_of_getElem? (i := 3) rfl
theorem kw_X12_finds_7 : Cond.fieldLink RX12 39 "LoweredPowersModel" "owners" "[I" ∈ wsX12_finds := List.mem_of_getElem? (i := 7) rfl
theorem kw_X12_finds_2 : Cond.fieldLink RX12 187 "LoweredPowersModel" "foundB" "I" ∈ wsX12_finds := List.mem_of_getElem? (i := 2) rfl
theorem kw_X12_finds_1 : Cond.fieldLink RX12 183 "LoweredPowersModel" "isFound" "Z" ∈ wsX12_finds := List.mem_of_getElem? (i := 1) rfl
theorem kw_X12_search_1 : Cond.fieldLink RX12 183 "LoweredPowersModel" "isFound" "Z" ∈ wsX12_search := List.mem_of_getElem? (i := 1) rfl
theorem kw_X12_search_3 : Cond.fieldLink RX12 187 "LoweredPowersModel" "foundB" "I" ∈ wsX12_search := List.mem_of_getElem? (i := 3) rfl
theorem kw_X12_search_2 : Cond.fieldLink RX12 42 "LoweredPowersModel" "pivots" "[I" ∈ wsX12_search := List.mem_of_getElem? (i := 2) rfl
theorem kw_X12_found_1 : Cond.fieldLink RX12 183 "LoweredPowersModel" "isFound" "Z" ∈ wsX12_found := List.mem_of_getElem? (i := 1) rfl
theorem kw_X12_found_2 : Cond.fieldLink RX12 187 "LoweredPowersModel" "foundB" "I" ∈ wsX12_found := List.mem_of_getElem? (i := 2) rfl
theorem kw_X12_found_3 : Cond.fieldLink RX12 21 "LoweredPowersModel" "b" "[I" ∈ wsX12_found := List.mem_of_getElem? (i := 3) rfl
theorem kw_X12_foundOf_1 : Cond.fieldLink RX12 183 "LoweredPowersModel" "isFound" "Z" ∈ wsX12_foundOf := List.mem_of_getElem? (i := 1) rfl
theorem kw_X12_foundOf_2 : Cond.fieldLink RX12 18 "LoweredPowersModel" "foundNumbers" "[I" ∈ wsX12_foundOf := List.mem_of_getElem? (i := 2) rfl
theorem kw_X12_take_2 : Cond.fieldLink RX12 15 "LoweredPowersModel" "operator" "[I" ∈ wsX12_take := List.mem_of_getElem? (i := 2) rfl
theorem kw_X12_take_3 : Cond.fieldLink RX12 18 "LoweredPowersModel" "foundNumbers" "[I" ∈ wsX12_take := List.mem_of_getElem? (i := 3) rfl
theorem kw_X12_take_1 : Cond.fieldLink RX12 183 "LoweredPowersModel" "isFound" "Z" ∈ wsX12_take := List.mem_of_getElem? (i := 1) rfl
theorem kw_X12_howOften_1 : Cond.fieldLink RX12 45 "LoweredPowersModel" "rests" "[I" ∈ wsX12_howOften := List.mem_of_getElem? (i := 1) rfl
theorem kw_X12_howOften_2 : Cond.fieldLink RX12 187 "LoweredPowersModel" "foundB" "I" ∈ wsX12_howOften := List.mem_of_getElem? (i := 2) rfl
theorem kw_X12_howOften_3 : Cond.fieldLink RX12 21 "LoweredPowersModel" "b" "[I" ∈ wsX12_howOften := List.mem_of_getElem? (i := 3) rfl
abbrev rm_X12_pivotRow : Room := { frames := 0, cells := 0, slots := 0, locals := 0 }
set_option maxRecDepth 100000 in
set_option maxHeartbeats 4000000 in
theorem ct_X12_pivotRow (l : Launch) (D : va_G) (cI cJ cZ : ClassId) (h0 : Nat) (r0 : Nat → Nat) (I_0_isFound : Int32) (I_0_foundB : Int32) (I_0_changes : Int32) (I_0_taped : Int32) (I_0_size : Int32) (I_0_at : Int32) (I_0_signs : Int32) (I_0_wanted : Int32) (I_0_sign : Int32) (I_0_isKept : Int32) (I_0_keptFound : Int32) (I_0_keptB : Int32) (I_0_keptChanges : Int32) (A_0_10_table : (Nat → Int32)) (x1 : Int32) (x2 : Int32) (sz : Nat) (K : Int32 → Prop) (h : wp_X12_pivotRow x1 x2 A_0_10_table K) : Met l yX12_pivotRow wsX12_pivotRow rm_X12_pivotRow (va_Pc [.ref h0, .int x1, .int x2] (WX D cI cJ cZ [(h0, .inr (11, oX12 r0 I_0_isFound I_0_foundB I_0_changes I_0_taped I_0_size I_0_at I_0_signs I_0_wanted I_0_sign I_0_isKept I_0_keptFound I_0_keptB I_0_keptChanges)), ((r0 10), .inl (cI, 18900, .inl A_0_10_table))] sz)) (va_Qi (fun (r : Int32) (_ : Unit) => K r ) (fun (_ : Unit) t => WY D (va_A [(h0, .inr (11, oX12 r0 I_0_isFound I_0_foundB I_0_changes I_0_taped I_0_size I_0_at I_0_signs I_0_wanted I_0_sign I_0_isKept I_0_keptFound I_0_keptB I_0_keptChanges)), ((r0 10), .inl (cI, 18900, .inl A_0_10_table))] sz) [(h0, .inr (11, oX12 r0 I_0_isFound I_0_foundB I_0_changes I_0_taped I_0_size I_0_at I_0_signs I_0_wanted I_0_sign I_0_isKept I_0_keptFound I_0_keptB I_0_keptChanges)), ((r0 10), .inl (cI, 18900, .inl A_0_10_table))] t) (va_A [(h0, .inr (11, oX12 r0 I_0_isFound I_0_foundB I_0_changes I_0_taped I_0_size I_0_at I_0_signs I_0_wanted I_0_sign I_0_isKept I_0_keptFound I_0_keptB I_0_keptChanges)), ((r0 10), .inl (cI, 18900, .inl A_0_10_table))] sz)) 0 0 (va_A [(h0, .inr (11, oX12 r0 I_0_isFound I_0_foundB I_0_changes I_0_taped I_0_size I_0_at I_0_signs I_0_wanted I_0_sign I_0_isKept I_0_keptFound I_0_keptB I_0_keptChanges)), ((r0 10), .inl (cI, 18900, .inl A_0_10_table))] sz) := by
  refine m_met (own := RX12) (cc := cX12_pivotRow) (maxL := 4) (ret := some .int) [.ref h0, .int x1, .int x2] [(0, .ref h0), (1, .int x1), (2, .int x2)] (by decide) rfl rfl (Nat.le_of_ble_eq_true rfl) rfl ?_
  intro p e s m args below meth c Q A hQ hA C0 hr hnm hsz hM ls hl
  have hx := C0.1
  have hb := C0.2.1
  have hown := C0.2.2.2.1
  have lq2 : ∀ (k2 : Nat) (x3 : Int32) (H : Heap) (locs : List Loc) (ls : Array Slot) , lp_X12_pivotRow_2 x1 x2 A_0_10_table K k2 x3 → MW D A s.heap [(h0, .inr (11, oX12 r0 I_0_isFound I_0_foundB I_0_changes I_0_taped I_0_size I_0_at I_0_signs I_0_wanted I_0_sign I_0_isKept I_0_keptFound I_0_keptB I_0_keptChanges)), ((r0 10), .inl (cI, 18900, .inl A_0_10_table))] H locs → lv_has ls 4 [(0, .ref h0), (2, .int x2), (3, .int x3)] → W p l e rm_X12_pivotRow s m args below meth c H locs 0 0 Q (F0 m 2 ls []) := by
    intro k2
    induction k2 with
    | zero =>
      intro x3 H locs ls h
      unfold lp_X12_pivotRow_2 at h
      exact h.elim
    | succ k2 ih2 =>
      intro x3 H locs ls h hM hl
      unfold lp_X12_pivotRow_2 at h
      refine lv_iload_n hx hb dX12_pivotRow_2 rfl (lv_at hl 2 rfl) ?_
      refine lv_sipush (v := (225 : Int32)) hx hb dX12_pivotRow_3 (by decide) ?_
      refine lv_icmp_ge (tgt := 29) hx hb dX12_pivotRow_6 (by decide) (fun hq => ?_) (fun hq => ?_)
      · have h := h.1 hq
        refine lv_iload_n hx hb dX12_pivotRow_29 rfl (lv_at hl 2 rfl) ?_
        subst hsz; subst hA; subst hQ
        exact m_iret C0 hr hM () h rfl dX12_pivotRow_30
      · have h := h.2 hq
        refine lv_aload_n hx hb dX12_pivotRow_9 rfl (lv_at hl 0 rfl) ?_
        refine m_get (C := RX12) (T := TX12) (N := 45) (ci := 11) (ref := "LoweredPowersModel") (v := .ref (r0 10)) C0 hM 0 rfl rfl kt_X12_pivotRow_X12 10 (by decide) kw_X12_pivotRow_1 rfl rfl dX12_pivotRow_10 ?_
        refine lv_bipush (v := (84 : Int32)) hx hb dX12_pivotRow_13 (by decide) ?_
        refine lv_iload_n hx hb dX12_pivotRow_15 rfl (lv_at hl 2 rfl) ?_
        refine lv_imul hx hb dX12_pivotRow_16 ?_
        refine lv_iload_n hx hb dX12_pivotRow_17 rfl (lv_at hl 1 rfl) ?_
        refine lv_iadd hx hb dX12_pivotRow_18 ?_
        obtain ⟨hc1, h⟩ := h
        refine m_iald C0 hM 1 rfl hc1 dX12_pivotRow_19 ?_
        refine lv_if_ne (tgt := 29) hx hb dX12_pivotRow_20 (by decide) (fun hq => ?_) (fun hq => ?_)
        · have h := h.1 hq
          refine lv_iload_n hx hb dX12_pivotRow_29 rfl (lv_at hl 2 rfl) ?_
          subst hsz; subst hA; subst hQ
          exact m_iret C0 hr hM () h rfl dX12_pivotRow_30
        · have h := h.2 hq
          refine lv_iinc (v := (x3 + (1 : Int32))) (lv' := [(3, .int (x3 + (1 : Int32))), (0, .ref h0), (2, .int x2)]) hx hb dX12_pivotRow_23 hl (k := 2) rfl rfl (by decide) rfl (fun ls hl => ?_)
          refine lv_goto (tgt := 2) hx hb dX12_pivotRow_26 (by decide) ?_
          exact ih2 _ _ _ _ h hM (lv_sub hl [1, 2, 0] rfl)
  unfold wp_X12_pivotRow at h
  refine lv_iload_n hx hb dX12_pivotRow_0 rfl (lv_at hl 1 rfl) ?_
  refine lv_istore_n (lv' := [(3, .int x1), (0, .ref h0), (1, .int x1), (2, .int x2)]) hx hb dX12_pivotRow_1 rfl hl (by decide) rfl (fun ls hl => ?_)
  obtain ⟨k0, h⟩ := h
  exact lq2 k0 _ _ _ _ h hM (lv_sub hl [1, 3, 0] rfl)
abbrev rm_X12_laysColumns : Room := { frames := 4, cells := 0, slots := 0, locals := 92 }
set_option maxRecDepth 100000 in
set_option maxHeartbeats 4000000 in
theorem ct_X12_laysColumns (l : Launch) (D : va_G) (cI cJ cZ : ClassId) (h0 : Nat) (r0 : Nat → Nat) (I_0_isFound : Int32) (I_0_foundB : Int32) (I_0_changes : Int32) (I_0_taped : Int32) (I_0_size : Int32) (I_0_at : Int32) (I_0_signs : Int32) (I_0_wanted : Int32) (I_0_sign : Int32) (I_0_isKept : Int32) (I_0_keptFound : Int32) (I_0_keptB : Int32) (I_0_keptChanges : Int32) (A_0_0_f : (Nat → Int32)) (A_0_6_powers : (Nat → Int32)) (A_0_7_lefts : (Nat → Int32)) (A_0_8_cells : (Nat → Int32)) (A_0_10_table : (Nat → Int32)) (A_0_11_owners : (Nat → Int32)) (x1 : Int32) (x2 : Int32) (x3 : Int32) (sz : Nat) (K : Int32 → (Nat → Int32) → (Nat → Int32) → (Nat → Int32) → (Nat → Int32) → (Nat → Int32) → Prop) (h : wp_X12_laysColumns x1 x2 x3 A_0_0_f A_0_6_powers A_0_7_lefts A_0_8_cells A_0_10_table A_0_11_owners K) : Met l yX12_laysColumns wsX12_laysColumns rm_X12_laysColumns (va_Pc [.ref h0, .int x1, .int x2, .int x3] (WX D cI cJ cZ [(h0, .inr (11, oX12 r0 I_0_isFound I_0_foundB I_0_changes I_0_taped I_0_size I_0_at I_0_signs I_0_wanted I_0_sign I_0_isKept I_0_keptFound I_0_keptB I_0_keptChanges)), ((r0 0), .inl (cI, 5, .inl A_0_0_f)), ((r0 6), .inl (cI, 125, .inl A_0_6_powers)), ((r0 7), .inl (cI, 1125, .inl A_0_7_lefts)), ((r0 8), .inl (cI, 225, .inl A_0_8_cells)), ((r0 10), .inl (cI, 18900, .inl A_0_10_table)), ((r0 11), .inl (cI, 84, .inl A_0_11_owners))] sz)) (va_Qi (fun (r : Int32) (u : (Nat → Int32) × (Nat → Int32) × (Nat → Int32) × (Nat → Int32) × (Nat → Int32)) => K r u.1 u.2.1 u.2.2.1 u.2.2.2.1 u.2.2.2.2) (fun (u : (Nat → Int32) × (Nat → Int32) × (Nat → Int32) × (Nat → Int32) × (Nat → Int32)) t => WY D (va_A [(h0, .inr (11, oX12 r0 I_0_isFound I_0_foundB I_0_changes I_0_taped I_0_size I_0_at I_0_signs I_0_wanted I_0_sign I_0_isKept I_0_keptFound I_0_keptB I_0_keptChanges)), ((r0 0), .inl (cI, 5, .inl A_0_0_f)), ((r0 6), .inl (cI, 125, .inl A_0_6_powers)), ((r0 7), .inl (cI, 1125, .inl A_0_7_lefts)), ((r0 8), .inl (cI, 225, .inl A_0_8_cells)), ((r0 10), .inl (cI, 18900, .inl A_0_10_table)), ((r0 11), .inl (cI, 84, .inl A_0_11_owners))] sz) [(h0, .inr (11, oX12 r0 I_0_isFound I_0_foundB I_0_changes I_0_taped I_0_size I_0_at I_0_signs I_0_wanted I_0_sign I_0_isKept I_0_keptFound I_0_keptB I_0_keptChanges)), ((r0 0), .inl (cI, 5, .inl A_0_0_f)), ((r0 6), .inl (cI, 125, .inl u.1)), ((r0 7), .inl (cI, 1125, .inl u.2.1)), ((r0 8), .inl (cI, 225, .inl u.2.2.1)), ((r0 10), .inl (cI, 18900, .inl u.2.2.2.1)), ((r0 11), .inl (cI, 84, .inl u.2.2.2.2))] t) (va_A [(h0, .inr (11, oX12 r0 I_0_isFound I_0_foundB I_0_changes I_0_taped I_0_size I_0_at I_0_signs I_0_wanted I_0_sign I_0_isKept I_0_keptFound I_0_keptB I_0_keptChanges)), ((r0 0), .inl (cI, 5, .inl A_0_0_f)), ((r0 6), .inl (cI, 125, .inl A_0_6_powers)), ((r0 7), .inl (cI, 1125, .inl A_0_7_lefts)), ((r0 8), .inl (cI, 225, .inl A_0_8_cells)), ((r0 10), .inl (cI, 18900, .inl A_0_10_table)), ((r0 11), .inl (cI, 84, .inl A_0_11_owners))] sz)) 0 0 (va_A [(h0, .inr (11, oX12 r0 I_0_isFound I_0_foundB I_0_changes I_0_taped I_0_size I_0_at I_0_signs I_0_wanted I_0_sign I_0_isKept I_0_keptFound I_0_keptB I_0_keptChanges)), ((r0 0), .inl (cI, 5, .inl A_0_0_f)), ((r0 6), .inl (cI, 125, .inl A_0_6_powers)), ((r0 7), .inl (cI, 1125, .inl A_0_7_lefts)), ((r0 8), .inl (cI, 225, .inl A_0_8_cells)), ((r0 10), .inl (cI, 18900, .inl A_0_10_table)), ((r0 11), .inl (cI, 84, .inl A_0_11_owners))] sz) := by
  refine m_met (own := RX12) (cc := cX12_laysColumns) (maxL := 8) (ret := some .int) [.ref h0, .int x1, .int x2, .int x3] [(0, .ref h0), (1, .int x1), (2, .int x2), (3, .int x3)] (by decide) rfl rfl (Nat.le_of_ble_eq_true rfl) rfl ?_
  intro p e s m args below meth c Q A hQ hA C0 hr hnm hsz hM ls hl
  have hx := C0.1
  have hb := C0.2.1
  have hown := C0.2.2.2.1
  have lq96 : ∀ (k96 : Nat) (x4 : Int32) (x5 : Int32) (A_0_6_powers : (Nat → Int32)) (A_0_7_lefts : (Nat → Int32)) (A_0_8_cells : (Nat → Int32)) (A_0_10_table : (Nat → Int32)) (A_0_11_owners : (Nat → Int32)) (H : Heap) (locs : List Loc) (ls : Array Slot) , lp_X12_laysColumns_96 x1 x2 x3 A_0_0_f K k96 x4 x5 A_0_6_powers A_0_7_lefts A_0_8_cells A_0_10_table A_0_11_owners → MW D A s.heap [(h0, .inr (11, oX12 r0 I_0_isFound I_0_foundB I_0_changes I_0_taped I_0_size I_0_at I_0_signs I_0_wanted I_0_sign I_0_isKept I_0_keptFound I_0_keptB I_0_keptChanges)), ((r0 0), .inl (cI, 5, .inl A_0_0_f)), ((r0 6), .inl (cI, 125, .inl A_0_6_powers)), ((r0 7), .inl (cI, 1125, .inl A_0_7_lefts)), ((r0 8), .inl (cI, 225, .inl A_0_8_cells)), ((r0 10), .inl (cI, 18900, .inl A_0_10_table)), ((r0 11), .inl (cI, 84, .inl A_0_11_owners))] H locs → lv_has ls 8 [(0, .ref h0), (1, .int x1), (4, .int x4), (5, .int x5)] → W p l e rm_X12_laysColumns s m args below meth c H locs 0 0 Q (F0 m 96 ls []) := by
    intro k96
    induction k96 with
    | zero =>
      intro x4 x5 A_0_6_powers A_0_7_lefts A_0_8_cells A_0_10_table A_0_11_owners H locs ls h
      unfold lp_X12_laysColumns_96 at h
      exact h.elim
    | succ k96 ih96 =>
      have jq150 : ∀ (x4 : Int32) (x5 : Int32) (A_0_6_powers : (Nat → Int32)) (A_0_7_lefts : (Nat → Int32)) (A_0_8_cells : (Nat → Int32)) (A_0_10_table : (Nat → Int32)) (A_0_11_owners : (Nat → Int32)) (H : Heap) (locs : List Loc) (ls : Array Slot) , jn_X12_laysColumns_150 x1 x2 x3 A_0_0_f (fun x4 x5 A_0_6_powers A_0_7_lefts A_0_8_cells A_0_10_table A_0_11_owners => lp_X12_laysColumns_96 x1 x2 x3 A_0_0_f K k96 x4 x5 A_0_6_powers A_0_7_lefts A_0_8_cells A_0_10_table A_0_11_owners) K x4 x5 A_0_6_powers A_0_7_lefts A_0_8_cells A_0_10_table A_0_11_owners → MW D A s.heap [(h0, .inr (11, oX12 r0 I_0_isFound I_0_foundB I_0_changes I_0_taped I_0_size I_0_at I_0_signs I_0_wanted I_0_sign I_0_isKept I_0_keptFound I_0_keptB I_0_keptChanges)), ((r0 0), .inl (cI, 5, .inl A_0_0_f)), ((r0 6), .inl (cI, 125, .inl A_0_6_powers)), ((r0 7), .inl (cI, 1125, .inl A_0_7_lefts)), ((r0 8), .inl (cI, 225, .inl A_0_8_cells)), ((r0 10), .inl (cI, 18900, .inl A_0_10_table)), ((r0 11), .inl (cI, 84, .inl A_0_11_owners))] H locs → lv_has ls 8 [(0, .ref h0), (1, .int x1), (4, .int x4), (5, .int x5)] → W p l e rm_X12_laysColumns s m args below meth c H locs 0 0 Q (F0 m 150 ls []) := by
        intro x4 x5 A_0_6_powers A_0_7_lefts A_0_8_cells A_0_10_table A_0_11_owners H locs ls h hM hl
        unfold jn_X12_laysColumns_150 at h
        refine lv_aload_n hx hb dX12_laysColumns_150 rfl (lv_at hl 0 rfl) ?_
        refine lv_iload hx hb dX12_laysColumns_151 (lv_at hl 2 rfl) ?_
        refine lv_iload hx hb dX12_laysColumns_153 (lv_at hl 3 rfl) ?_
        refine lv_iadd hx hb dX12_laysColumns_155 ?_
        refine m_callv (wc := [(h0, .inr (11, oX12 r0 I_0_isFound I_0_foundB I_0_changes I_0_taped I_0_size I_0_at I_0_signs I_0_wanted I_0_sign I_0_isKept I_0_keptFound I_0_keptB I_0_keptChanges)), ((r0 8), .inl (cI, 225, .inl A_0_8_cells)), ((r0 10), .inl (cI, 18900, .inl A_0_10_table))]) C0 hM [0, 4, 5] rfl (m_runV (wc := [(h0, .inr (11, oX12 r0 I_0_isFound I_0_foundB I_0_changes I_0_taped I_0_size I_0_at I_0_signs I_0_wanted I_0_sign I_0_isKept I_0_keptFound I_0_keptB I_0_keptChanges)), ((r0 8), .inl (cI, 225, .inl A_0_8_cells)), ((r0 10), .inl (cI, 18900, .inl A_0_10_table))]) (As := [.int (x4 + x5)]) (rest := []) (ci := 11) C0 hM (ct_X12_lays l D cI cJ cZ h0 r0 I_0_isFound I_0_foundB I_0_changes I_0_taped I_0_size I_0_at I_0_signs I_0_wanted I_0_sign I_0_isKept I_0_keptFound I_0_keptB I_0_keptChanges A_0_8_cells A_0_10_table (x4 + x5) _ _ h) [0, 4, 5] rfl (by decide) gX12_laysColumns_X12_lays rfl rfl rfl rfl rfl hd_X12_lays ⟨Nat.le_of_ble_eq_true rfl, Nat.le_of_ble_eq_true rfl⟩ rfl hl.1 rfl (Nat.le_of_ble_eq_true rfl) dX12_laysColumns_156 ⟨Nat.le_of_ble_eq_true rfl, Nat.le_of_ble_eq_true rfl⟩) (fun u => [(h0, .inr (11, oX12 r0 I_0_isFound I_0_foundB I_0_changes I_0_taped I_0_size I_0_at I_0_signs I_0_wanted I_0_sign I_0_isKept I_0_keptFound I_0_keptB I_0_keptChanges)), ((r0 0), .inl (cI, 5, .inl A_0_0_f)), ((r0 6), .inl (cI, 125, .inl A_0_6_powers)), ((r0 7), .inl (cI, 1125, .inl A_0_7_lefts)), ((r0 8), .inl (cI, 225, .inl A_0_8_cells)), ((r0 10), .inl (cI, 18900, .inl u)), ((r0 11), .inl (cI, 84, .inl A_0_11_owners))]) (fun _ => rfl) (fun _ => rfl) (fun b1 H locs h hM => ?_)
        refine lv_iinc (v := (x5 + (1 : Int32))) (lv' := [(5, .int (x5 + (1 : Int32))), (0, .ref h0), (1, .int x1), (4, .int x4)]) hx hb dX12_laysColumns_159 hl (k := 3) rfl rfl (by decide) rfl (fun ls hl => ?_)
        refine lv_goto (tgt := 96) hx hb dX12_laysColumns_162 (by decide) ?_
        exact ih96 _ _ _ _ _ _ _ _ _ _ h hM (lv_sub hl [1, 2, 3, 0] rfl)
      have lq110 : ∀ (k110 : Nat) (x4 : Int32) (x5 : Int32) (x6 : Int32) (A_0_6_powers : (Nat → Int32)) (A_0_7_lefts : (Nat → Int32)) (A_0_8_cells : (Nat → Int32)) (A_0_10_table : (Nat → Int32)) (A_0_11_owners : (Nat → Int32)) (H : Heap) (locs : List Loc) (ls : Array Slot) , lp_X12_laysColumns_110 x1 x2 x3 A_0_0_f (jn_X12_laysColumns_150 x1 x2 x3 A_0_0_f (fun x4 x5 A_0_6_powers A_0_7_lefts A_0_8_cells A_0_10_table A_0_11_owners => lp_X12_laysColumns_96 x1 x2 x3 A_0_0_f K k96 x4 x5 A_0_6_powers A_0_7_lefts A_0_8_cells A_0_10_table A_0_11_owners) K) K k110 x4 x5 x6 A_0_6_powers A_0_7_lefts A_0_8_cells A_0_10_table A_0_11_owners → MW D A s.heap [(h0, .inr (11, oX12 r0 I_0_isFound I_0_foundB I_0_changes I_0_taped I_0_size I_0_at I_0_signs I_0_wanted I_0_sign I_0_isKept I_0_keptFound I_0_keptB I_0_keptChanges)), ((r0 0), .inl (cI, 5, .inl A_0_0_f)), ((r0 6), .inl (cI, 125, .inl A_0_6_powers)), ((r0 7), .inl (cI, 1125, .inl A_0_7_lefts)), ((r0 8), .inl (cI, 225, .inl A_0_8_cells)), ((r0 10), .inl (cI, 18900, .inl A_0_10_table)), ((r0 11), .inl (cI, 84, .inl A_0_11_owners))] H locs → lv_has ls 8 [(0, .ref h0), (1, .int x1), (4, .int x4), (5, .int x5), (6, .int x6)] → W p l e rm_X12_laysColumns s m args below meth c H locs 0 0 Q (F0 m 110 ls []) := by
        intro k110
        induction k110 with
        | zero =>
          intro x4 x5 x6 A_0_6_powers A_0_7_lefts A_0_8_cells A_0_10_table A_0_11_owners H locs ls h
          unfold lp_X12_laysColumns_110 at h
          exact h.elim
        | succ k110 ih110 =>
          intro x4 x5 x6 A_0_6_powers A_0_7_lefts A_0_8_cells A_0_10_table A_0_11_owners H locs ls h hM hl
          unfold lp_X12_laysColumns_110 at h
          refine lv_iload hx hb dX12_laysColumns_110 (lv_at hl 4 rfl) ?_
          refine lv_bipush (v := (17 : Int32)) hx hb dX12_laysColumns_112 (by decide) ?_
          refine lv_icmp_ge (tgt := 150) hx hb dX12_laysColumns_114 (by decide) (fun hq => ?_) (fun hq => ?_)
          · have h := h.1 hq
            exact jq150 _ _ _ _ _ _ _ _ _ _ h hM (lv_sub hl [0, 1, 2, 3] rfl)
          · have h := h.2 hq
            refine lv_aload_n hx hb dX12_laysColumns_117 rfl (lv_at hl 0 rfl) ?_
            refine m_get (C := RX12) (T := TX12) (N := 45) (ci := 11) (ref := "LoweredPowersModel") (v := .ref (r0 8)) C0 hM 0 rfl rfl kt_X12_laysColumns_X12 8 (by decide) kw_X12_laysColumns_2 rfl rfl dX12_laysColumns_118 ?_
            refine lv_bipush (v := (9 : Int32)) hx hb dX12_laysColumns_121 (by decide) ?_
            refine lv_iload hx hb dX12_laysColumns_123 (lv_at hl 4 rfl) ?_
            refine lv_imul hx hb dX12_laysColumns_125 ?_
            refine lv_iload hx hb dX12_laysColumns_126 (lv_at hl 3 rfl) ?_
            refine lv_iadd hx hb dX12_laysColumns_128 ?_
            refine lv_aload_n hx hb dX12_laysColumns_129 rfl (lv_at hl 0 rfl) ?_
            refine m_get (C := RX12) (T := TX12) (N := 45) (ci := 11) (ref := "LoweredPowersModel") (v := .ref (r0 6)) C0 hM 0 rfl rfl kt_X12_laysColumns_X12 6 (by decide) kw_X12_laysColumns_3 rfl rfl dX12_laysColumns_130 ?_
            refine lv_bipush (v := (25 : Int32)) hx hb dX12_laysColumns_133 (by decide) ?_
            refine lv_iload_n hx hb dX12_laysColumns_135 rfl (lv_at hl 1 rfl) ?_
            refine lv_iconst (v := (1 : Int32)) hx hb dX12_laysColumns_136 (by decide) ?_
            refine lv_isub hx hb dX12_laysColumns_137 ?_
            refine lv_imul hx hb dX12_laysColumns_138 ?_
            refine lv_iload hx hb dX12_laysColumns_139 (lv_at hl 4 rfl) ?_
            refine lv_iadd hx hb dX12_laysColumns_141 ?_
            obtain ⟨hc2, h⟩ := h
            refine m_iald C0 hM 2 rfl hc2 dX12_laysColumns_142 ?_
            refine lv_topi (fun y3 ey3 => ?_)
            have h := h y3 ey3
            obtain ⟨hc4, h⟩ := h
            refine m_iast (ws' := [(h0, .inr (11, oX12 r0 I_0_isFound I_0_foundB I_0_changes I_0_taped I_0_size I_0_at I_0_signs I_0_wanted I_0_sign I_0_isKept I_0_keptFound I_0_keptB I_0_keptChanges)), ((r0 0), .inl (cI, 5, .inl A_0_0_f)), ((r0 6), .inl (cI, 125, .inl A_0_6_powers)), ((r0 7), .inl (cI, 1125, .inl A_0_7_lefts)), ((r0 8), .inl (cI, 225, .inl (upd A_0_8_cells ((((9 : Int32) * x6) + x5)).toNatClampNeg y3))), ((r0 10), .inl (cI, 18900, .inl A_0_10_table)), ((r0 11), .inl (cI, 84, .inl A_0_11_owners))]) C0 hM 4 rfl hc4 rfl dX12_laysColumns_143 (fun H locs hM => ?_)
            refine lv_iinc (v := (x6 + (1 : Int32))) (lv' := [(6, .int (x6 + (1 : Int32))), (0, .ref h0), (1, .int x1), (4, .int x4), (5, .int x5)]) hx hb dX12_laysColumns_144 hl (k := 4) rfl rfl (by decide) rfl (fun ls hl => ?_)
            refine lv_goto (tgt := 110) hx hb dX12_laysColumns_147 (by decide) ?_
            exact ih110 _ _ _ _ _ _ _ _ _ _ _ h hM (lv_sub hl [1, 2, 3, 4, 0] rfl)
      intro x4 x5 A_0_6_powers A_0_7_lefts A_0_8_cells A_0_10_table A_0_11_owners H locs ls h hM hl
      unfold lp_X12_laysColumns_96 at h
      refine lv_iload hx hb dX12_laysColumns_96 (lv_at hl 3 rfl) ?_
      refine lv_bipush (v := (9 : Int32)) hx hb dX12_laysColumns_98 (by decide) ?_
      refine lv_icmp_ge (tgt := 165) hx hb dX12_laysColumns_100 (by decide) (fun hq => ?_) (fun hq => ?_)
      · have h := h.1 hq
        refine lv_iload hx hb dX12_laysColumns_165 (lv_at hl 2 rfl) ?_
        subst hsz; subst hA; subst hQ
        exact m_iret C0 hr hM (A_0_6_powers, A_0_7_lefts, A_0_8_cells, A_0_10_table, A_0_11_owners) h rfl dX12_laysColumns_167
      · have h := h.2 hq
        refine lv_aload_n hx hb dX12_laysColumns_103 rfl (lv_at hl 0 rfl) ?_
        refine m_callv (wc := [(h0, .inr (11, oX12 r0 I_0_isFound I_0_foundB I_0_changes I_0_taped I_0_size I_0_at I_0_signs I_0_wanted I_0_sign I_0_isKept I_0_keptFound I_0_keptB I_0_keptChanges)), ((r0 8), .inl (cI, 225, .inl A_0_8_cells))]) C0 hM [0, 4] rfl (m_runV (wc := [(h0, .inr (11, oX12 r0 I_0_isFound I_0_foundB I_0_changes I_0_taped I_0_size I_0_at I_0_signs I_0_wanted I_0_sign I_0_isKept I_0_keptFound I_0_keptB I_0_keptChanges)), ((r0 8), .inl (cI, 225, .inl A_0_8_cells))]) (As := []) (rest := []) (ci := 11) C0 hM (ct_X12_clears l D cI cJ cZ h0 r0 I_0_isFound I_0_foundB I_0_changes I_0_taped I_0_size I_0_at I_0_signs I_0_wanted I_0_sign I_0_isKept I_0_keptFound I_0_keptB I_0_keptChanges A_0_8_cells _ _ h) [0, 4] rfl (by decide) gX12_laysColumns_X12_clears rfl rfl rfl rfl rfl hd_X12_clears ⟨Nat.le_of_ble_eq_true rfl, Nat.le_of_ble_eq_true rfl⟩ rfl hl.1 rfl (Nat.le_of_ble_eq_true rfl) dX12_laysColumns_104 ⟨Nat.le_of_ble_eq_true rfl, Nat.le_of_ble_eq_true rfl⟩) (fun u => [(h0, .inr (11, oX12 r0 I_0_isFound I_0_foundB I_0_changes I_0_taped I_0_size I_0_at I_0_signs I_0_wanted I_0_sign I_0_isKept I_0_keptFound I_0_keptB I_0_keptChanges)), ((r0 0), .inl (cI, 5, .inl A_0_0_f)), ((r0 6), .inl (cI, 125, .inl A_0_6_powers)), ((r0 7), .inl (cI, 1125, .inl A_0_7_lefts)), ((r0 8), .inl (cI, 225, .inl u)), ((r0 10), .inl (cI, 18900, .inl A_0_10_table)), ((r0 11), .inl (cI, 84, .inl A_0_11_owners))]) (fun _ => rfl) (fun _ => rfl) (fun b5 H locs h hM => ?_)
        refine lv_iconst (v := (0 : Int32)) hx hb dX12_laysColumns_107 (by decide) ?_
        refine lv_istore (lv' := [(6, .int (0 : Int32)), (0, .ref h0), (1, .int x1), (4, .int x4), (5, .int x5)]) hx hb dX12_laysColumns_108 hl (by decide) rfl (fun ls hl => ?_)
        obtain ⟨k0, h⟩ := h
        exact lq110 k0 _ _ _ _ _ _ _ _ _ _ _ h hM (lv_sub hl [1, 2, 3, 4, 0] rfl)
  have jq93 : ∀ (x4 : Int32) (A_0_6_powers : (Nat → Int32)) (A_0_7_lefts : (Nat → Int32)) (A_0_8_cells : (Nat → Int32)) (A_0_10_table : (Nat → Int32)) (A_0_11_owners : (Nat → Int32)) (H : Heap) (locs : List Loc) (ls : Array Slot) , jn_X12_laysColumns_93 x1 x2 x3 A_0_0_f K x4 A_0_6_powers A_0_7_lefts A_0_8_cells A_0_10_table A_0_11_owners → MW D A s.heap [(h0, .inr (11, oX12 r0 I_0_isFound I_0_foundB I_0_changes I_0_taped I_0_size I_0_at I_0_signs I_0_wanted I_0_sign I_0_isKept I_0_keptFound I_0_keptB I_0_keptChanges)), ((r0 0), .inl (cI, 5, .inl A_0_0_f)), ((r0 6), .inl (cI, 125, .inl A_0_6_powers)), ((r0 7), .inl (cI, 1125, .inl A_0_7_lefts)), ((r0 8), .inl (cI, 225, .inl A_0_8_cells)), ((r0 10), .inl (cI, 18900, .inl A_0_10_table)), ((r0 11), .inl (cI, 84, .inl A_0_11_owners))] H locs → lv_has ls 8 [(0, .ref h0), (1, .int x1), (4, .int x4)] → W p l e rm_X12_laysColumns s m args below meth c H locs 0 0 Q (F0 m 93 ls []) := by
    intro x4 A_0_6_powers A_0_7_lefts A_0_8_cells A_0_10_table A_0_11_owners H locs ls h hM hl
    unfold jn_X12_laysColumns_93 at h
    refine lv_iconst (v := (0 : Int32)) hx hb dX12_laysColumns_93 (by decide) ?_
    refine lv_istore (lv' := [(5, .int (0 : Int32)), (0, .ref h0), (1, .int x1), (4, .int x4)]) hx hb dX12_laysColumns_94 hl (by decide) rfl (fun ls hl => ?_)
    obtain ⟨k0, h⟩ := h
    exact lq96 k0 _ _ _ _ _ _ _ _ _ _ h hM (lv_sub hl [1, 2, 3, 0] rfl)
  have lq10 : ∀ (k10 : Nat) (x4 : Int32) (x5 : Int32) (A_0_6_powers : (Nat → Int32)) (A_0_7_lefts : (Nat → Int32)) (A_0_8_cells : (Nat → Int32)) (A_0_10_table : (Nat → Int32)) (A_0_11_owners : (Nat → Int32)) (H : Heap) (locs : List Loc) (ls : Array Slot) , lp_X12_laysColumns_10 x1 x2 x3 A_0_0_f (jn_X12_laysColumns_93 x1 x2 x3 A_0_0_f K) K k10 x4 x5 A_0_6_powers A_0_7_lefts A_0_8_cells A_0_10_table A_0_11_owners → MW D A s.heap [(h0, .inr (11, oX12 r0 I_0_isFound I_0_foundB I_0_changes I_0_taped I_0_size I_0_at I_0_signs I_0_wanted I_0_sign I_0_isKept I_0_keptFound I_0_keptB I_0_keptChanges)), ((r0 0), .inl (cI, 5, .inl A_0_0_f)), ((r0 6), .inl (cI, 125, .inl A_0_6_powers)), ((r0 7), .inl (cI, 1125, .inl A_0_7_lefts)), ((r0 8), .inl (cI, 225, .inl A_0_8_cells)), ((r0 10), .inl (cI, 18900, .inl A_0_10_table)), ((r0 11), .inl (cI, 84, .inl A_0_11_owners))] H locs → lv_has ls 8 [(0, .ref h0), (1, .int x1), (2, .int x2), (3, .int x3), (4, .int x4), (5, .int x5)] → W p l e rm_X12_laysColumns s m args below meth c H locs 0 0 Q (F0 m 10 ls []) := by
    intro k10
    induction k10 with
    | zero =>
      intro x4 x5 A_0_6_powers A_0_7_lefts A_0_8_cells A_0_10_table A_0_11_owners H locs ls h
      unfold lp_X12_laysColumns_10 at h
      exact h.elim
    | succ k10 ih10 =>
      have jq87 : ∀ (x4 : Int32) (x5 : Int32) (A_0_6_powers : (Nat → Int32)) (A_0_7_lefts : (Nat → Int32)) (A_0_8_cells : (Nat → Int32)) (A_0_10_table : (Nat → Int32)) (A_0_11_owners : (Nat → Int32)) (H : Heap) (locs : List Loc) (ls : Array Slot) , jn_X12_laysColumns_87 x1 x2 x3 A_0_0_f (fun x4 x5 A_0_6_powers A_0_7_lefts A_0_8_cells A_0_10_table A_0_11_owners => lp_X12_laysColumns_10 x1 x2 x3 A_0_0_f (jn_X12_laysColumns_93 x1 x2 x3 A_0_0_f K) K k10 x4 x5 A_0_6_powers A_0_7_lefts A_0_8_cells A_0_10_table A_0_11_owners) (jn_X12_laysColumns_93 x1 x2 x3 A_0_0_f K) K x4 x5 A_0_6_powers A_0_7_lefts A_0_8_cells A_0_10_table A_0_11_owners → MW D A s.heap [(h0, .inr (11, oX12 r0 I_0_isFound I_0_foundB I_0_changes I_0_taped I_0_size I_0_at I_0_signs I_0_wanted I_0_sign I_0_isKept I_0_keptFound I_0_keptB I_0_keptChanges)), ((r0 0), .inl (cI, 5, .inl A_0_0_f)), ((r0 6), .inl (cI, 125, .inl A_0_6_powers)), ((r0 7), .inl (cI, 1125, .inl A_0_7_lefts)), ((r0 8), .inl (cI, 225, .inl A_0_8_cells)), ((r0 10), .inl (cI, 18900, .inl A_0_10_table)), ((r0 11), .inl (cI, 84, .inl A_0_11_owners))] H locs → lv_has ls 8 [(0, .ref h0), (1, .int x1), (2, .int x2), (3, .int x3), (4, .int x4), (5, .int x5)] → W p l e rm_X12_laysColumns s m args below meth c H locs 0 0 Q (F0 m 87 ls []) := by
        intro x4 x5 A_0_6_powers A_0_7_lefts A_0_8_cells A_0_10_table A_0_11_owners H locs ls h hM hl
        unfold jn_X12_laysColumns_87 at h
        refine lv_iinc (v := (x5 + (1 : Int32))) (lv' := [(5, .int (x5 + (1 : Int32))), (0, .ref h0), (1, .int x1), (2, .int x2), (3, .int x3), (4, .int x4)]) hx hb dX12_laysColumns_87 hl (k := 5) rfl rfl (by decide) rfl (fun ls hl => ?_)
        refine lv_goto (tgt := 10) hx hb dX12_laysColumns_90 (by decide) ?_
        exact ih10 _ _ _ _ _ _ _ _ _ _ h hM (lv_sub hl [1, 2, 3, 4, 5, 0] rfl)
      have lq19 : ∀ (k19 : Nat) (x4 : Int32) (x5 : Int32) (x6 : Int32) (A_0_6_powers : (Nat → Int32)) (A_0_7_lefts : (Nat → Int32)) (A_0_8_cells : (Nat → Int32)) (A_0_10_table : (Nat → Int32)) (A_0_11_owners : (Nat → Int32)) (H : Heap) (locs : List Loc) (ls : Array Slot) , lp_X12_laysColumns_19 x1 x2 x3 A_0_0_f (jn_X12_laysColumns_87 x1 x2 x3 A_0_0_f (fun x4 x5 A_0_6_powers A_0_7_lefts A_0_8_cells A_0_10_table A_0_11_owners => lp_X12_laysColumns_10 x1 x2 x3 A_0_0_f (jn_X12_laysColumns_93 x1 x2 x3 A_0_0_f K) K k10 x4 x5 A_0_6_powers A_0_7_lefts A_0_8_cells A_0_10_table A_0_11_owners) (jn_X12_laysColumns_93 x1 x2 x3 A_0_0_f K) K) K k19 x4 x5 x6 A_0_6_powers A_0_7_lefts A_0_8_cells A_0_10_table A_0_11_owners → MW D A s.heap [(h0, .inr (11, oX12 r0 I_0_isFound I_0_foundB I_0_changes I_0_taped I_0_size I_0_at I_0_signs I_0_wanted I_0_sign I_0_isKept I_0_keptFound I_0_keptB I_0_keptChanges)), ((r0 0), .inl (cI, 5, .inl A_0_0_f)), ((r0 6), .inl (cI, 125, .inl A_0_6_powers)), ((r0 7), .inl (cI, 1125, .inl A_0_7_lefts)), ((r0 8), .inl (cI, 225, .inl A_0_8_cells)), ((r0 10), .inl (cI, 18900, .inl A_0_10_table)), ((r0 11), .inl (cI, 84, .inl A_0_11_owners))] H locs → lv_has ls 8 [(0, .ref h0), (1, .int x1), (2, .int x2), (3, .int x3), (4, .int x4), (5, .int x5), (6, .int x6)] → W p l e rm_X12_laysColumns s m args below meth c H locs 0 0 Q (F0 m 19 ls []) := by
        intro k19
        induction k19 with
        | zero =>
          intro x4 x5 x6 A_0_6_powers A_0_7_lefts A_0_8_cells A_0_10_table A_0_11_owners H locs ls h
          unfold lp_X12_laysColumns_19 at h
          exact h.elim
        | succ k19 ih19 =>
          have jq81 : ∀ (x4 : Int32) (x5 : Int32) (x6 : Int32) (A_0_6_powers : (Nat → Int32)) (A_0_7_lefts : (Nat → Int32)) (A_0_8_cells : (Nat → Int32)) (A_0_10_table : (Nat → Int32)) (A_0_11_owners : (Nat → Int32)) (H : Heap) (locs : List Loc) (ls : Array Slot) , jn_X12_laysColumns_81 x1 x2 x3 A_0_0_f (fun x4 x5 x6 A_0_6_powers A_0_7_lefts A_0_8_cells A_0_10_table A_0_11_owners => lp_X12_laysColumns_19 x1 x2 x3 A_0_0_f (jn_X12_laysColumns_87 x1 x2 x3 A_0_0_f (fun x4 x5 A_0_6_powers A_0_7_lefts A_0_8_cells A_0_10_table A_0_11_owners => lp_X12_laysColumns_10 x1 x2 x3 A_0_0_f (jn_X12_laysColumns_93 x1 x2 x3 A_0_0_f K) K k10 x4 x5 A_0_6_powers A_0_7_lefts A_0_8_cells A_0_10_table A_0_11_owners) (jn_X12_laysColumns_93 x1 x2 x3 A_0_0_f K) K) K k19 x4 x5 x6 A_0_6_powers A_0_7_lefts A_0_8_cells A_0_10_table A_0_11_owners) (jn_X12_laysColumns_87 x1 x2 x3 A_0_0_f (fun x4 x5 A_0_6_powers A_0_7_lefts A_0_8_cells A_0_10_table A_0_11_owners => lp_X12_laysColumns_10 x1 x2 x3 A_0_0_f (jn_X12_laysColumns_93 x1 x2 x3 A_0_0_f K) K k10 x4 x5 A_0_6_powers A_0_7_lefts A_0_8_cells A_0_10_table A_0_11_owners) (jn_X12_laysColumns_93 x1 x2 x3 A_0_0_f K) K) K x4 x5 x6 A_0_6_powers A_0_7_lefts A_0_8_cells A_0_10_table A_0_11_owners → MW D A s.heap [(h0, .inr (11, oX12 r0 I_0_isFound I_0_foundB I_0_changes I_0_taped I_0_size I_0_at I_0_signs I_0_wanted I_0_sign I_0_isKept I_0_keptFound I_0_keptB I_0_keptChanges)), ((r0 0), .inl (cI, 5, .inl A_0_0_f)), ((r0 6), .inl (cI, 125, .inl A_0_6_powers)), ((r0 7), .inl (cI, 1125, .inl A_0_7_lefts)), ((r0 8), .inl (cI, 225, .inl A_0_8_cells)), ((r0 10), .inl (cI, 18900, .inl A_0_10_table)), ((r0 11), .inl (cI, 84, .inl A_0_11_owners))] H locs → lv_has ls 8 [(0, .ref h0), (1, .int x1), (2, .int x2), (3, .int x3), (4, .int x4), (5, .int x5), (6, .int x6)] → W p l e rm_X12_laysColumns s m args below meth c H locs 0 0 Q (F0 m 81 ls []) := by
            intro x4 x5 x6 A_0_6_powers A_0_7_lefts A_0_8_cells A_0_10_table A_0_11_owners H locs ls h hM hl
            unfold jn_X12_laysColumns_81 at h
            refine lv_iinc (v := (x6 + (1 : Int32))) (lv' := [(6, .int (x6 + (1 : Int32))), (0, .ref h0), (1, .int x1), (2, .int x2), (3, .int x3), (4, .int x4), (5, .int x5)]) hx hb dX12_laysColumns_81 hl (k := 6) rfl rfl (by decide) rfl (fun ls hl => ?_)
            refine lv_goto (tgt := 19) hx hb dX12_laysColumns_84 (by decide) ?_
            exact ih19 _ _ _ _ _ _ _ _ _ _ _ h hM (lv_sub hl [1, 2, 3, 4, 5, 6, 0] rfl)
          have lq28 : ∀ (k28 : Nat) (x4 : Int32) (x5 : Int32) (x6 : Int32) (x7 : Int32) (A_0_6_powers : (Nat → Int32)) (A_0_7_lefts : (Nat → Int32)) (A_0_8_cells : (Nat → Int32)) (A_0_10_table : (Nat → Int32)) (A_0_11_owners : (Nat → Int32)) (H : Heap) (locs : List Loc) (ls : Array Slot) , lp_X12_laysColumns_28 x1 x2 x3 A_0_0_f (jn_X12_laysColumns_81 x1 x2 x3 A_0_0_f (fun x4 x5 x6 A_0_6_powers A_0_7_lefts A_0_8_cells A_0_10_table A_0_11_owners => lp_X12_laysColumns_19 x1 x2 x3 A_0_0_f (jn_X12_laysColumns_87 x1 x2 x3 A_0_0_f (fun x4 x5 A_0_6_powers A_0_7_lefts A_0_8_cells A_0_10_table A_0_11_owners => lp_X12_laysColumns_10 x1 x2 x3 A_0_0_f (jn_X12_laysColumns_93 x1 x2 x3 A_0_0_f K) K k10 x4 x5 A_0_6_powers A_0_7_lefts A_0_8_cells A_0_10_table A_0_11_owners) (jn_X12_laysColumns_93 x1 x2 x3 A_0_0_f K) K) K k19 x4 x5 x6 A_0_6_powers A_0_7_lefts A_0_8_cells A_0_10_table A_0_11_owners) (jn_X12_laysColumns_87 x1 x2 x3 A_0_0_f (fun x4 x5 A_0_6_powers A_0_7_lefts A_0_8_cells A_0_10_table A_0_11_owners => lp_X12_laysColumns_10 x1 x2 x3 A_0_0_f (jn_X12_laysColumns_93 x1 x2 x3 A_0_0_f K) K k10 x4 x5 A_0_6_powers A_0_7_lefts A_0_8_cells A_0_10_table A_0_11_owners) (jn_X12_laysColumns_93 x1 x2 x3 A_0_0_f K) K) K) K k28 x4 x5 x6 x7 A_0_6_powers A_0_7_lefts A_0_8_cells A_0_10_table A_0_11_owners → MW D A s.heap [(h0, .inr (11, oX12 r0 I_0_isFound I_0_foundB I_0_changes I_0_taped I_0_size I_0_at I_0_signs I_0_wanted I_0_sign I_0_isKept I_0_keptFound I_0_keptB I_0_keptChanges)), ((r0 0), .inl (cI, 5, .inl A_0_0_f)), ((r0 6), .inl (cI, 125, .inl A_0_6_powers)), ((r0 7), .inl (cI, 1125, .inl A_0_7_lefts)), ((r0 8), .inl (cI, 225, .inl A_0_8_cells)), ((r0 10), .inl (cI, 18900, .inl A_0_10_table)), ((r0 11), .inl (cI, 84, .inl A_0_11_owners))] H locs → lv_has ls 8 [(0, .ref h0), (1, .int x1), (2, .int x2), (3, .int x3), (4, .int x4), (5, .int x5), (6, .int x6), (7, .int x7)] → W p l e rm_X12_laysColumns s m args below meth c H locs 0 0 Q (F0 m 28 ls []) := by
            intro k28
            induction k28 with
            | zero =>
              intro x4 x5 x6 x7 A_0_6_powers A_0_7_lefts A_0_8_cells A_0_10_table A_0_11_owners H locs ls h
              unfold lp_X12_laysColumns_28 at h
              exact h.elim
            | succ k28 ih28 =>
              intro x4 x5 x6 x7 A_0_6_powers A_0_7_lefts A_0_8_cells A_0_10_table A_0_11_owners H locs ls h hM hl
              unfold lp_X12_laysColumns_28 at h
              refine lv_iload hx hb dX12_laysColumns_28 (lv_at hl 7 rfl) ?_
              refine lv_iload_n hx hb dX12_laysColumns_30 rfl (lv_at hl 3 rfl) ?_
              refine lv_icmp_gt (tgt := 81) hx hb dX12_laysColumns_31 (by decide) (fun hq => ?_) (fun hq => ?_)
              · have h := h.1 hq
                exact jq81 _ _ _ _ _ _ _ _ _ _ _ h hM (lv_sub hl [0, 1, 2, 3, 4, 5, 6] rfl)
              · have h := h.2 hq
                refine lv_aload_n hx hb dX12_laysColumns_34 rfl (lv_at hl 0 rfl) ?_
                refine m_callv (wc := [(h0, .inr (11, oX12 r0 I_0_isFound I_0_foundB I_0_changes I_0_taped I_0_size I_0_at I_0_signs I_0_wanted I_0_sign I_0_isKept I_0_keptFound I_0_keptB I_0_keptChanges)), ((r0 8), .inl (cI, 225, .inl A_0_8_cells))]) C0 hM [0, 4] rfl (m_runV (wc := [(h0, .inr (11, oX12 r0 I_0_isFound I_0_foundB I_0_changes I_0_taped I_0_size I_0_at I_0_signs I_0_wanted I_0_sign I_0_isKept I_0_keptFound I_0_keptB I_0_keptChanges)), ((r0 8), .inl (cI, 225, .inl A_0_8_cells))]) (As := []) (rest := []) (ci := 11) C0 hM (ct_X12_clears l D cI cJ cZ h0 r0 I_0_isFound I_0_foundB I_0_changes I_0_taped I_0_size I_0_at I_0_signs I_0_wanted I_0_sign I_0_isKept I_0_keptFound I_0_keptB I_0_keptChanges A_0_8_cells _ _ h) [0, 4] rfl (by decide) gX12_laysColumns_X12_clears rfl rfl rfl rfl rfl hd_X12_clears ⟨Nat.le_of_ble_eq_true rfl, Nat.le_of_ble_eq_true rfl⟩ rfl hl.1 rfl (Nat.le_of_ble_eq_true rfl) dX12_laysColumns_35 ⟨Nat.le_of_ble_eq_true rfl, Nat.le_of_ble_eq_true rfl⟩) (fun u => [(h0, .inr (11, oX12 r0 I_0_isFound I_0_foundB I_0_changes I_0_taped I_0_size I_0_at I_0_signs I_0_wanted I_0_sign I_0_isKept I_0_keptFound I_0_keptB I_0_keptChanges)), ((r0 0), .inl (cI, 5, .inl A_0_0_f)), ((r0 6), .inl (cI, 125, .inl A_0_6_powers)), ((r0 7), .inl (cI, 1125, .inl A_0_7_lefts)), ((r0 8), .inl (cI, 225, .inl u)), ((r0 10), .inl (cI, 18900, .inl A_0_10_table)), ((r0 11), .inl (cI, 84, .inl A_0_11_owners))]) (fun _ => rfl) (fun _ => rfl) (fun b6 H locs h hM => ?_)
                refine lv_aload_n hx hb dX12_laysColumns_38 rfl (lv_at hl 0 rfl) ?_
                refine lv_iconst (v := (1 : Int32)) hx hb dX12_laysColumns_39 (by decide) ?_
                refine lv_iload hx hb dX12_laysColumns_40 (lv_at hl 5 rfl) ?_
                refine lv_iload hx hb dX12_laysColumns_42 (lv_at hl 6 rfl) ?_
                refine lv_iload hx hb dX12_laysColumns_44 (lv_at hl 7 rfl) ?_
                refine lv_iload_n hx hb dX12_laysColumns_46 rfl (lv_at hl 1 rfl) ?_
                refine m_callv (wc := [(h0, .inr (11, oX12 r0 I_0_isFound I_0_foundB I_0_changes I_0_taped I_0_size I_0_at I_0_signs I_0_wanted I_0_sign I_0_isKept I_0_keptFound I_0_keptB I_0_keptChanges)), ((r0 6), .inl (cI, 125, .inl A_0_6_powers)), ((r0 7), .inl (cI, 1125, .inl A_0_7_lefts)), ((r0 8), .inl (cI, 225, .inl b6))]) C0 hM [0, 2, 3, 4] rfl (m_runV (wc := [(h0, .inr (11, oX12 r0 I_0_isFound I_0_foundB I_0_changes I_0_taped I_0_size I_0_at I_0_signs I_0_wanted I_0_sign I_0_isKept I_0_keptFound I_0_keptB I_0_keptChanges)), ((r0 6), .inl (cI, 125, .inl A_0_6_powers)), ((r0 7), .inl (cI, 1125, .inl A_0_7_lefts)), ((r0 8), .inl (cI, 225, .inl b6))]) (As := [.int (1 : Int32), .int x5, .int x6, .int x7, .int x1]) (rest := []) (ci := 11) C0 hM (ct_X12_brings l D cI cJ cZ h0 r0 I_0_isFound I_0_foundB I_0_changes I_0_taped I_0_size I_0_at I_0_signs I_0_wanted I_0_sign I_0_isKept I_0_keptFound I_0_keptB I_0_keptChanges A_0_6_powers A_0_7_lefts b6 (1 : Int32) x5 x6 x7 x1 _ _ h) [0, 2, 3, 4] rfl (by decide) gX12_laysColumns_X12_brings rfl rfl rfl rfl rfl hd_X12_brings ⟨Nat.le_of_ble_eq_true rfl, Nat.le_of_ble_eq_true rfl⟩ rfl hl.1 rfl (Nat.le_of_ble_eq_true rfl) dX12_laysColumns_47 ⟨Nat.le_of_ble_eq_true rfl, Nat.le_of_ble_eq_true rfl⟩) (fun u => [(h0, .inr (11, oX12 r0 I_0_isFound I_0_foundB I_0_changes I_0_taped I_0_size I_0_at I_0_signs I_0_wanted I_0_sign I_0_isKept I_0_keptFound I_0_keptB I_0_keptChanges)), ((r0 0), .inl (cI, 5, .inl A_0_0_f)), ((r0 6), .inl (cI, 125, .inl A_0_6_powers)), ((r0 7), .inl (cI, 1125, .inl A_0_7_lefts)), ((r0 8), .inl (cI, 225, .inl u)), ((r0 10), .inl (cI, 18900, .inl A_0_10_table)), ((r0 11), .inl (cI, 84, .inl A_0_11_owners))]) (fun _ => rfl) (fun _ => rfl) (fun b7 H locs h hM => ?_)
                refine lv_aload_n hx hb dX12_laysColumns_50 rfl (lv_at hl 0 rfl) ?_
                refine lv_iload hx hb dX12_laysColumns_51 (lv_at hl 4 rfl) ?_
                refine m_callv (wc := [(h0, .inr (11, oX12 r0 I_0_isFound I_0_foundB I_0_changes I_0_taped I_0_size I_0_at I_0_signs I_0_wanted I_0_sign I_0_isKept I_0_keptFound I_0_keptB I_0_keptChanges)), ((r0 8), .inl (cI, 225, .inl b7)), ((r0 10), .inl (cI, 18900, .inl A_0_10_table))]) C0 hM [0, 4, 5] rfl (m_runV (wc := [(h0, .inr (11, oX12 r0 I_0_isFound I_0_foundB I_0_changes I_0_taped I_0_size I_0_at I_0_signs I_0_wanted I_0_sign I_0_isKept I_0_keptFound I_0_keptB I_0_keptChanges)), ((r0 8), .inl (cI, 225, .inl b7)), ((r0 10), .inl (cI, 18900, .inl A_0_10_table))]) (As := [.int x4]) (rest := []) (ci := 11) C0 hM (ct_X12_lays l D cI cJ cZ h0 r0 I_0_isFound I_0_foundB I_0_changes I_0_taped I_0_size I_0_at I_0_signs I_0_wanted I_0_sign I_0_isKept I_0_keptFound I_0_keptB I_0_keptChanges b7 A_0_10_table x4 _ _ h) [0, 4, 5] rfl (by decide) gX12_laysColumns_X12_lays rfl rfl rfl rfl rfl hd_X12_lays ⟨Nat.le_of_ble_eq_true rfl, Nat.le_of_ble_eq_true rfl⟩ rfl hl.1 rfl (Nat.le_of_ble_eq_true rfl) dX12_laysColumns_53 ⟨Nat.le_of_ble_eq_true rfl, Nat.le_of_ble_eq_true rfl⟩) (fun u => [(h0, .inr (11, oX12 r0 I_0_isFound I_0_foundB I_0_changes I_0_taped I_0_size I_0_at I_0_signs I_0_wanted I_0_sign I_0_isKept I_0_keptFound I_0_keptB I_0_keptChanges)), ((r0 0), .inl (cI, 5, .inl A_0_0_f)), ((r0 6), .inl (cI, 125, .inl A_0_6_powers)), ((r0 7), .inl (cI, 1125, .inl A_0_7_lefts)), ((r0 8), .inl (cI, 225, .inl b7)), ((r0 10), .inl (cI, 18900, .inl u)), ((r0 11), .inl (cI, 84, .inl A_0_11_owners))]) (fun _ => rfl) (fun _ => rfl) (fun b8 H locs h hM => ?_)
                refine lv_aload_n hx hb dX12_laysColumns_56 rfl (lv_at hl 0 rfl) ?_
                refine m_get (C := RX12) (T := TX12) (N := 45) (ci := 11) (ref := "LoweredPowersModel") (v := .ref (r0 11)) C0 hM 0 rfl rfl kt_X12_laysColumns_X12 11 (by decide) kw_X12_laysColumns_1 rfl rfl dX12_laysColumns_57 ?_
                refine lv_iload hx hb dX12_laysColumns_60 (lv_at hl 4 rfl) ?_
                refine lv_iload hx hb dX12_laysColumns_62 (lv_at hl 5 rfl) ?_
                refine lv_iload hx hb dX12_laysColumns_64 (lv_at hl 6 rfl) ?_
                refine lv_iload hx hb dX12_laysColumns_66 (lv_at hl 7 rfl) ?_
                refine m_calli (wc := []) C0 hM [] rfl (m_runS (wc := []) (As := [.int x5, .int x6, .int x7]) (rest := [.int x4, .ref (r0 11)]) C0 hM (ct_X12_placeOf l D cI cJ cZ x5 x6 x7 _ _ h) [] rfl (by decide) gX12_laysColumns_X12_placeOf rfl rfl rfl hd_X12_placeOf ⟨Nat.le_of_ble_eq_true rfl, Nat.le_of_ble_eq_true rfl⟩ rfl hl.1 rfl (Nat.le_of_ble_eq_true rfl) dX12_laysColumns_68 ⟨Nat.le_of_ble_eq_true rfl, Nat.le_of_ble_eq_true rfl⟩) (fun _ => [(h0, .inr (11, oX12 r0 I_0_isFound I_0_foundB I_0_changes I_0_taped I_0_size I_0_at I_0_signs I_0_wanted I_0_sign I_0_isKept I_0_keptFound I_0_keptB I_0_keptChanges)), ((r0 0), .inl (cI, 5, .inl A_0_0_f)), ((r0 6), .inl (cI, 125, .inl A_0_6_powers)), ((r0 7), .inl (cI, 1125, .inl A_0_7_lefts)), ((r0 8), .inl (cI, 225, .inl b7)), ((r0 10), .inl (cI, 18900, .inl b8)), ((r0 11), .inl (cI, 84, .inl A_0_11_owners))]) (fun _ => rfl) (fun _ => rfl) (fun y9 _ H locs h hM => ?_)
                obtain ⟨hc10, h⟩ := h
                refine m_iast (ws' := [(h0, .inr (11, oX12 r0 I_0_isFound I_0_foundB I_0_changes I_0_taped I_0_size I_0_at I_0_signs I_0_wanted I_0_sign I_0_isKept I_0_keptFound I_0_keptB I_0_keptChanges)), ((r0 0), .inl (cI, 5, .inl A_0_0_f)), ((r0 6), .inl (cI, 125, .inl A_0_6_powers)), ((r0 7), .inl (cI, 1125, .inl A_0_7_lefts)), ((r0 8), .inl (cI, 225, .inl b7)), ((r0 10), .inl (cI, 18900, .inl b8)), ((r0 11), .inl (cI, 84, .inl (upd A_0_11_owners (x4).toNatClampNeg y9)))]) C0 hM 6 rfl hc10 rfl dX12_laysColumns_71 (fun H locs hM => ?_)
                refine lv_iinc (v := (x4 + (1 : Int32))) (lv' := [(4, .int (x4 + (1 : Int32))), (0, .ref h0), (1, .int x1), (2, .int x2), (3, .int x3), (5, .int x5), (6, .int x6), (7, .int x7)]) hx hb dX12_laysColumns_72 hl (k := 4) rfl rfl (by decide) rfl (fun ls hl => ?_)
                refine lv_iinc (v := (x7 + (1 : Int32))) (lv' := [(7, .int (x7 + (1 : Int32))), (4, .int (x4 + (1 : Int32))), (0, .ref h0), (1, .int x1), (2, .int x2), (3, .int x3), (5, .int x5), (6, .int x6)]) hx hb dX12_laysColumns_75 hl (k := 7) rfl rfl (by decide) rfl (fun ls hl => ?_)
                refine lv_goto (tgt := 28) hx hb dX12_laysColumns_78 (by decide) ?_
                exact ih28 _ _ _ _ _ _ _ _ _ _ _ _ h hM (lv_sub hl [2, 3, 4, 5, 1, 6, 7, 0] rfl)
          intro x4 x5 x6 A_0_6_powers A_0_7_lefts A_0_8_cells A_0_10_table A_0_11_owners H locs ls h hM hl
          unfold lp_X12_laysColumns_19 at h
          refine lv_iload hx hb dX12_laysColumns_19 (lv_at hl 6 rfl) ?_
          refine lv_iload_n hx hb dX12_laysColumns_21 rfl (lv_at hl 2 rfl) ?_
          refine lv_icmp_gt (tgt := 87) hx hb dX12_laysColumns_22 (by decide) (fun hq => ?_) (fun hq => ?_)
          · have h := h.1 hq
            exact jq87 _ _ _ _ _ _ _ _ _ _ h hM (lv_sub hl [0, 1, 2, 3, 4, 5] rfl)
          · have h := h.2 hq
            refine lv_iconst (v := (0 : Int32)) hx hb dX12_laysColumns_25 (by decide) ?_
            refine lv_istore (lv' := [(7, .int (0 : Int32)), (0, .ref h0), (1, .int x1), (2, .int x2), (3, .int x3), (4, .int x4), (5, .int x5), (6, .int x6)]) hx hb dX12_laysColumns_26 hl (by decide) rfl (fun ls hl => ?_)
            obtain ⟨k0, h⟩ := h
            exact lq28 k0 _ _ _ _ _ _ _ _ _ _ _ _ h hM (lv_sub hl [1, 2, 3, 4, 5, 6, 7, 0] rfl)
      intro x4 x5 A_0_6_powers A_0_7_lefts A_0_8_cells A_0_10_table A_0_11_owners H locs ls h hM hl
      unfold lp_X12_laysColumns_10 at h
      refine lv_iload hx hb dX12_laysColumns_10 (lv_at hl 5 rfl) ?_
      refine lv_iload_n hx hb dX12_laysColumns_12 rfl (lv_at hl 1 rfl) ?_
      refine lv_icmp_gt (tgt := 93) hx hb dX12_laysColumns_13 (by decide) (fun hq => ?_) (fun hq => ?_)
      · have h := h.1 hq
        exact jq93 _ _ _ _ _ _ _ _ _ h hM (lv_sub hl [0, 1, 4] rfl)
      · have h := h.2 hq
        refine lv_iconst (v := (0 : Int32)) hx hb dX12_laysColumns_16 (by decide) ?_
        refine lv_istore (lv' := [(6, .int (0 : Int32)), (0, .ref h0), (1, .int x1), (2, .int x2), (3, .int x3), (4, .int x4), (5, .int x5)]) hx hb dX12_laysColumns_17 hl (by decide) rfl (fun ls hl => ?_)
        obtain ⟨k0, h⟩ := h
        exact lq19 k0 _ _ _ _ _ _ _ _ _ _ _ h hM (lv_sub hl [1, 2, 3, 4, 5, 6, 0] rfl)
  unfold wp_X12_laysColumns at h
  refine lv_aload_n hx hb dX12_laysColumns_0 rfl (lv_at hl 0 rfl) ?_
  refine m_callv (wc := [(h0, .inr (11, oX12 r0 I_0_isFound I_0_foundB I_0_changes I_0_taped I_0_size I_0_at I_0_signs I_0_wanted I_0_sign I_0_isKept I_0_keptFound I_0_keptB I_0_keptChanges)), ((r0 0), .inl (cI, 5, .inl A_0_0_f)), ((r0 6), .inl (cI, 125, .inl A_0_6_powers)), ((r0 7), .inl (cI, 1125, .inl A_0_7_lefts))]) C0 hM [0, 1, 2, 3] rfl (m_runV (wc := [(h0, .inr (11, oX12 r0 I_0_isFound I_0_foundB I_0_changes I_0_taped I_0_size I_0_at I_0_signs I_0_wanted I_0_sign I_0_isKept I_0_keptFound I_0_keptB I_0_keptChanges)), ((r0 0), .inl (cI, 5, .inl A_0_0_f)), ((r0 6), .inl (cI, 125, .inl A_0_6_powers)), ((r0 7), .inl (cI, 1125, .inl A_0_7_lefts))]) (As := []) (rest := []) (ci := 11) C0 hM (ct_X12_tellsLefts l D cI cJ cZ h0 r0 I_0_isFound I_0_foundB I_0_changes I_0_taped I_0_size I_0_at I_0_signs I_0_wanted I_0_sign I_0_isKept I_0_keptFound I_0_keptB I_0_keptChanges A_0_0_f A_0_6_powers A_0_7_lefts _ _ h) [0, 1, 2, 3] rfl (by decide) gX12_laysColumns_X12_tellsLefts rfl rfl rfl rfl rfl hd_X12_tellsLefts ⟨Nat.le_of_ble_eq_true rfl, Nat.le_of_ble_eq_true rfl⟩ rfl hl.1 rfl (Nat.le_of_ble_eq_true rfl) dX12_laysColumns_1 ⟨Nat.le_of_ble_eq_true rfl, Nat.le_of_ble_eq_true rfl⟩) (fun u => [(h0, .inr (11, oX12 r0 I_0_isFound I_0_foundB I_0_changes I_0_taped I_0_size I_0_at I_0_signs I_0_wanted I_0_sign I_0_isKept I_0_keptFound I_0_keptB I_0_keptChanges)), ((r0 0), .inl (cI, 5, .inl A_0_0_f)), ((r0 6), .inl (cI, 125, .inl u.1)), ((r0 7), .inl (cI, 1125, .inl u.2)), ((r0 8), .inl (cI, 225, .inl A_0_8_cells)), ((r0 10), .inl (cI, 18900, .inl A_0_10_table)), ((r0 11), .inl (cI, 84, .inl A_0_11_owners))]) (fun _ => rfl) (fun _ => rfl) (fun u H locs h hM => ?_)
  obtain ⟨b11, b12⟩ := u
  dsimp only at h
  have hM : MW D A s.heap [(h0, .inr (11, oX12 r0 I_0_isFound I_0_foundB I_0_changes I_0_taped I_0_size I_0_at I_0_signs I_0_wanted I_0_sign I_0_isKept I_0_keptFound I_0_keptB I_0_keptChanges)), ((r0 0), .inl (cI, 5, .inl A_0_0_f)), ((r0 6), .inl (cI, 125, .inl b11)), ((r0 7), .inl (cI, 1125, .inl b12)), ((r0 8), .inl (cI, 225, .inl A_0_8_cells)), ((r0 10), .inl (cI, 18900, .inl A_0_10_table)), ((r0 11), .inl (cI, 84, .inl A_0_11_owners))] H locs := hM
  refine lv_iconst (v := (0 : Int32)) hx hb dX12_laysColumns_4 (by decide) ?_
  refine lv_istore (lv' := [(4, .int (0 : Int32)), (0, .ref h0), (1, .int x1), (2, .int x2), (3, .int x3)]) hx hb dX12_laysColumns_5 hl (by decide) rfl (fun ls hl => ?_)
  refine lv_iconst (v := (0 : Int32)) hx hb dX12_laysColumns_7 (by decide) ?_
  refine lv_istore (lv' := [(5, .int (0 : Int32)), (4, .int (0 : Int32)), (0, .ref h0), (1, .int x1), (2, .int x2), (3, .int x3)]) hx hb dX12_laysColumns_8 hl (by decide) rfl (fun ls hl => ?_)
  obtain ⟨k0, h⟩ := h
  exact lq10 k0 _ _ _ _ _ _ _ _ _ _ h hM (lv_sub hl [2, 3, 4, 5, 1, 0] rfl)
abbrev rm_X12_finds : Room := { frames := 2, cells := 0, slots := 0, locals := 42 }
set_option maxRecDepth 100000 in
set_option maxHeartbeats 4000000 in
theorem ct_X12_finds (l : Launch) (D : va_G) (cI cJ cZ : ClassId) (h0 : Nat) (r0 : Nat → Nat) (I_0_isFound : Int32) (I_0_foundB : Int32) (I_0_changes : Int32) (I_0_taped : Int32) (I_0_size : Int32) (I_0_at : Int32) (I_0_signs : Int32) (I_0_wanted : Int32) (I_0_sign : Int32) (I_0_isKept : Int32) (I_0_keptFound : Int32) (I_0_keptB : Int32) (I_0_keptChanges : Int32) (A_0_4_foundNumbers : (Nat → Int32)) (A_0_5_b : (Nat → Int32)) (A_0_10_table : (Nat → Int32)) (A_0_11_owners : (Nat → Int32)) (A_0_12_pivots : (Nat → Int32)) (x1 : Int32) (x2 : Int32) (x3 : Int32) (sz : Nat) (K : Int32 → Int32 → (Nat → Int32) → (Nat → Int32) → Prop) (h : wp_X12_finds x1 x2 x3 I_0_isFound I_0_foundB A_0_4_foundNumbers A_0_5_b A_0_10_table A_0_11_owners A_0_12_pivots K) : Met l yX12_finds wsX12_finds rm_X12_finds (va_Pc [.ref h0, .int x1, .int x2, .int x3] (WX D cI cJ cZ [(h0, .inr (11, oX12 r0 I_0_isFound I_0_foundB I_0_changes I_0_taped I_0_size I_0_at I_0_signs I_0_wanted I_0_sign I_0_isKept I_0_keptFound I_0_keptB I_0_keptChanges)), ((r0 4), .inl (cI, 75, .inl A_0_4_foundNumbers)), ((r0 5), .inl (cI, 9, .inl A_0_5_b)), ((r0 10), .inl (cI, 18900, .inl A_0_10_table)), ((r0 11), .inl (cI, 84, .inl A_0_11_owners)), ((r0 12), .inl (cI, 84, .inl A_0_12_pivots))] sz)) (va_Qv (fun (u : Int32 × Int32 × (Nat → Int32) × (Nat → Int32)) => K u.1 u.2.1 u.2.2.1 u.2.2.2) (fun (u : Int32 × Int32 × (Nat → Int32) × (Nat → Int32)) t => WY D (va_A [(h0, .inr (11, oX12 r0 I_0_isFound I_0_foundB I_0_changes I_0_taped I_0_size I_0_at I_0_signs I_0_wanted I_0_sign I_0_isKept I_0_keptFound I_0_keptB I_0_keptChanges)), ((r0 4), .inl (cI, 75, .inl A_0_4_foundNumbers)), ((r0 5), .inl (cI, 9, .inl A_0_5_b)), ((r0 10), .inl (cI, 18900, .inl A_0_10_table)), ((r0 11), .inl (cI, 84, .inl A_0_11_owners)), ((r0 12), .inl (cI, 84, .inl A_0_12_pivots))] sz) [(h0, .inr (11, oX12 r0 u.1 u.2.1 I_0_changes I_0_taped I_0_size I_0_at I_0_signs I_0_wanted I_0_sign I_0_isKept I_0_keptFound I_0_keptB I_0_keptChanges)), ((r0 4), .inl (cI, 75, .inl u.2.2.1)), ((r0 5), .inl (cI, 9, .inl u.2.2.2)), ((r0 10), .inl (cI, 18900, .inl A_0_10_table)), ((r0 11), .inl (cI, 84, .inl A_0_11_owners)), ((r0 12), .inl (cI, 84, .inl A_0_12_pivots))] t) (va_A [(h0, .inr (11, oX12 r0 I_0_isFound I_0_foundB I_0_changes I_0_taped I_0_size I_0_at I_0_signs I_0_wanted I_0_sign I_0_isKept I_0_keptFound I_0_keptB I_0_keptChanges)), ((r0 4), .inl (cI, 75, .inl A_0_4_foundNumbers)), ((r0 5), .inl (cI, 9, .inl A_0_5_b)), ((r0 10), .inl (cI, 18900, .inl A_0_10_table)), ((r0 11), .inl (cI, 84, .inl A_0_11_owners)), ((r0 12), .inl (cI, 84, .inl A_0_12_pivots))] sz)) 0 0 (va_A [(h0, .inr (11, oX12 r0 I_0_isFound I_0_foundB I_0_changes I_0_taped I_0_size I_0_at I_0_signs I_0_wanted I_0_sign I_0_isKept I_0_keptFound I_0_keptB I_0_keptChanges)), ((r0 4), .inl (cI, 75, .inl A_0_4_foundNumbers)), ((r0 5), .inl (cI, 9, .inl A_0_5_b)), ((r0 10), .inl (cI, 18900, .inl A_0_10_table)), ((r0 11), .inl (cI, 84, .inl A_0_11_owners)), ((r0 12), .inl (cI, 84, .inl A_0_12_pivots))] sz) := by
  refine m_met (own := RX12) (cc := cX12_finds) (maxL := 7) (ret := none) [.ref h0, .int x1, .int x2, .int x3] [(0, .ref h0), (1, .int x1), (2, .int x2), (3, .int x3)] (by decide) rfl rfl (Nat.le_of_ble_eq_true rfl) rfl ?_
  intro p e s m args below meth c Q A hQ hA C0 hr hnm hsz hM ls hl
  have hx := C0.1
  have hb := C0.2.1
  have hown := C0.2.2.2.1
  have lq76 : ∀ (k76 : Nat) (x4 : Int32) (I_0_isFound : Int32) (I_0_foundB : Int32) (A_0_4_foundNumbers : (Nat → Int32)) (A_0_5_b : (Nat → Int32)) (H : Heap) (locs : List Loc) (ls : Array Slot) , lp_X12_finds_76 x1 x2 x3 A_0_10_table A_0_11_owners A_0_12_pivots K k76 x4 I_0_isFound I_0_foundB A_0_4_foundNumbers A_0_5_b → MW D A s.heap [(h0, .inr (11, oX12 r0 I_0_isFound I_0_foundB I_0_changes I_0_taped I_0_size I_0_at I_0_signs I_0_wanted I_0_sign I_0_isKept I_0_keptFound I_0_keptB I_0_keptChanges)), ((r0 4), .inl (cI, 75, .inl A_0_4_foundNumbers)), ((r0 5), .inl (cI, 9, .inl A_0_5_b)), ((r0 10), .inl (cI, 18900, .inl A_0_10_table)), ((r0 11), .inl (cI, 84, .inl A_0_11_owners)), ((r0 12), .inl (cI, 84, .inl A_0_12_pivots))] H locs → lv_has ls 7 [(0, .ref h0), (1, .int x1), (2, .int x2), (3, .int x3), (4, .int x4)] → W p l e rm_X12_finds s m args below meth c H locs 0 0 Q (F0 m 76 ls []) := by
    intro k76
    induction k76 with
    | zero =>
      intro x4 I_0_isFound I_0_foundB A_0_4_foundNumbers A_0_5_b H locs ls h
      unfold lp_X12_finds_76 at h
      exact h.elim
    | succ k76 ih76 =>
      have jq143 : ∀ (x4 : Int32) (I_0_isFound : Int32) (I_0_foundB : Int32) (A_0_4_foundNumbers : (Nat → Int32)) (A_0_5_b : (Nat → Int32)) (H : Heap) (locs : List Loc) (ls : Array Slot) , jn_X12_finds_143 x1 x2 x3 A_0_10_table A_0_11_owners A_0_12_pivots (fun x4 I_0_isFound I_0_foundB A_0_4_foundNumbers A_0_5_b => lp_X12_finds_76 x1 x2 x3 A_0_10_table A_0_11_owners A_0_12_pivots K k76 x4 I_0_isFound I_0_foundB A_0_4_foundNumbers A_0_5_b) K x4 I_0_isFound I_0_foundB A_0_4_foundNumbers A_0_5_b → MW D A s.heap [(h0, .inr (11, oX12 r0 I_0_isFound I_0_foundB I_0_changes I_0_taped I_0_size I_0_at I_0_signs I_0_wanted I_0_sign I_0_isKept I_0_keptFound I_0_keptB I_0_keptChanges)), ((r0 4), .inl (cI, 75, .inl A_0_4_foundNumbers)), ((r0 5), .inl (cI, 9, .inl A_0_5_b)), ((r0 10), .inl (cI, 18900, .inl A_0_10_table)), ((r0 11), .inl (cI, 84, .inl A_0_11_owners)), ((r0 12), .inl (cI, 84, .inl A_0_12_pivots))] H locs → lv_has ls 7 [(0, .ref h0), (1, .int x1), (2, .int x2), (3, .int x3), (4, .int x4)] → W p l e rm_X12_finds s m args below meth c H locs 0 0 Q (F0 m 143 ls []) := by
        intro x4 I_0_isFound I_0_foundB A_0_4_foundNumbers A_0_5_b H locs ls h hM hl
        unfold jn_X12_finds_143 at h
        refine lv_iinc (v := (x4 + (1 : Int32))) (lv' := [(4, .int (x4 + (1 : Int32))), (0, .ref h0), (1, .int x1), (2, .int x2), (3, .int x3)]) hx hb dX12_finds_143 hl (k := 4) rfl rfl (by decide) rfl (fun ls hl => ?_)
        refine lv_goto (tgt := 76) hx hb dX12_finds_146 (by decide) ?_
        exact ih76 _ _ _ _ _ _ _ _ h hM (lv_sub hl [1, 2, 3, 4, 0] rfl)
      intro x4 I_0_isFound I_0_foundB A_0_4_foundNumbers A_0_5_b H locs ls h hM hl
      unfold lp_X12_finds_76 at h
      refine lv_iload hx hb dX12_finds_76 (lv_at hl 4 rfl) ?_
      refine lv_iload_n hx hb dX12_finds_78 rfl (lv_at hl 3 rfl) ?_
      refine lv_icmp_ge (tgt := 149) hx hb dX12_finds_79 (by decide) (fun hq => ?_) (fun hq => ?_)
      · have h := h.1 hq
        subst hsz; subst hA; subst hQ
        exact m_vret C0 hr hM (I_0_isFound, I_0_foundB, A_0_4_foundNumbers, A_0_5_b) h rfl dX12_finds_149
      · have h := h.2 hq
        refine lv_aload_n hx hb dX12_finds_82 rfl (lv_at hl 0 rfl) ?_
        refine m_get (C := RX12) (T := TX12) (N := 45) (ci := 11) (ref := "LoweredPowersModel") (v := .ref (r0 10)) C0 hM 0 rfl rfl kt_X12_finds_X12 10 (by decide) kw_X12_finds_5 rfl rfl dX12_finds_83 ?_
        refine lv_bipush (v := (84 : Int32)) hx hb dX12_finds_86 (by decide) ?_
        refine lv_iload hx hb dX12_finds_88 (lv_at hl 4 rfl) ?_
        refine lv_imul hx hb dX12_finds_90 ?_
        refine lv_iload_n hx hb dX12_finds_91 rfl (lv_at hl 1 rfl) ?_
        refine lv_iadd hx hb dX12_finds_92 ?_
        obtain ⟨hc1, h⟩ := h
        refine m_iald C0 hM 3 rfl hc1 dX12_finds_93 ?_
        refine lv_topi (fun y2 ey2 => ?_)
        have h := h y2 ey2
        refine lv_istore (lv' := [(5, .int y2), (0, .ref h0), (1, .int x1), (2, .int x2), (3, .int x3), (4, .int x4)]) hx hb dX12_finds_94 hl (by decide) rfl (fun ls hl => ?_)
        refine lv_aload_n hx hb dX12_finds_96 rfl (lv_at hl 1 rfl) ?_
        refine m_get (C := RX12) (T := TX12) (N := 45) (ci := 11) (ref := "LoweredPowersModel") (v := .ref (r0 12)) C0 hM 0 rfl rfl kt_X12_finds_X12 12 (by decide) kw_X12_finds_6 rfl rfl dX12_finds_97 ?_
        refine lv_iload hx hb dX12_finds_100 (lv_at hl 5 rfl) ?_
        obtain ⟨hc3, h⟩ := h
        refine m_iald C0 hM 5 rfl hc3 dX12_finds_102 ?_
        refine lv_topi (fun y4 ey4 => ?_)
        have h := h y4 ey4
        refine lv_istore (lv' := [(6, .int y4), (5, .int y2), (0, .ref h0), (1, .int x1), (2, .int x2), (3, .int x3), (4, .int x4)]) hx hb dX12_finds_103 hl (by decide) rfl (fun ls hl => ?_)
        refine lv_iload hx hb dX12_finds_105 (lv_at hl 0 rfl) ?_
        refine lv_iload_n hx hb dX12_finds_107 rfl (lv_at hl 4 rfl) ?_
        refine lv_icmp_ge (tgt := 128) hx hb dX12_finds_108 (by decide) (fun hq => ?_) (fun hq => ?_)
        · have h := h.1 hq
          refine lv_aload_n hx hb dX12_finds_128 rfl (lv_at hl 2 rfl) ?_
          refine m_get (C := RX12) (T := TX12) (N := 45) (ci := 11) (ref := "LoweredPowersModel") (v := .ref (r0 5)) C0 hM 0 rfl rfl kt_X12_finds_X12 5 (by decide) kw_X12_finds_4 rfl rfl dX12_finds_129 ?_
          refine lv_iload hx hb dX12_finds_132 (lv_at hl 0 rfl) ?_
          refine lv_iload_n hx hb dX12_finds_134 rfl (lv_at hl 4 rfl) ?_
          refine lv_isub hx hb dX12_finds_135 ?_
          refine lv_iload hx hb dX12_finds_136 (lv_at hl 1 rfl) ?_
          refine lv_ineg hx hb dX12_finds_138 ?_
          refine m_calli (wc := []) C0 hM [] rfl (m_runS (wc := []) (As := [.int (-y2)]) (rest := [.int (y4 - x2), .ref (r0 5)]) C0 hM (ct_X12_modulo l D cI cJ cZ (-y2) _ _ h) [] rfl (by decide) gX12_finds_X12_modulo rfl rfl rfl hd_X12_modulo ⟨Nat.le_of_ble_eq_true rfl, Nat.le_of_ble_eq_true rfl⟩ rfl hl.1 rfl (Nat.le_of_ble_eq_true rfl) dX12_finds_139 ⟨Nat.le_of_ble_eq_true rfl, Nat.le_of_ble_eq_true rfl⟩) (fun _ => [(h0, .inr (11, oX12 r0 I_0_isFound I_0_foundB I_0_changes I_0_taped I_0_size I_0_at I_0_signs I_0_wanted I_0_sign I_0_isKept I_0_keptFound I_0_keptB I_0_keptChanges)), ((r0 4), .inl (cI, 75, .inl A_0_4_foundNumbers)), ((r0 5), .inl (cI, 9, .inl A_0_5_b)), ((r0 10), .inl (cI, 18900, .inl A_0_10_table)), ((r0 11), .inl (cI, 84, .inl A_0_11_owners)), ((r0 12), .inl (cI, 84, .inl A_0_12_pivots))]) (fun _ => rfl) (fun _ => rfl) (fun y5 _ H locs h hM => ?_)
          obtain ⟨hc6, h⟩ := h
          refine m_iast (ws' := [(h0, .inr (11, oX12 r0 I_0_isFound I_0_foundB I_0_changes I_0_taped I_0_size I_0_at I_0_signs I_0_wanted I_0_sign I_0_isKept I_0_keptFound I_0_keptB I_0_keptChanges)), ((r0 4), .inl (cI, 75, .inl A_0_4_foundNumbers)), ((r0 5), .inl (cI, 9, .inl (upd A_0_5_b ((y4 - x2)).toNatClampNeg y5))), ((r0 10), .inl (cI, 18900, .inl A_0_10_table)), ((r0 11), .inl (cI, 84, .inl A_0_11_owners)), ((r0 12), .inl (cI, 84, .inl A_0_12_pivots))]) C0 hM 2 rfl hc6 rfl dX12_finds_142 (fun H locs hM => ?_)
          exact jq143 _ _ _ _ _ _ _ _ h hM (lv_sub hl [2, 3, 4, 5, 6] rfl)
        · have h := h.2 hq
          refine lv_aload_n hx hb dX12_finds_111 rfl (lv_at hl 2 rfl) ?_
          refine m_get (C := RX12) (T := TX12) (N := 45) (ci := 11) (ref := "LoweredPowersModel") (v := .ref (r0 4)) C0 hM 0 rfl rfl kt_X12_finds_X12 4 (by decide) kw_X12_finds_3 rfl rfl dX12_finds_112 ?_
          refine lv_aload_n hx hb dX12_finds_115 rfl (lv_at hl 2 rfl) ?_
          refine m_get (C := RX12) (T := TX12) (N := 45) (ci := 11) (ref := "LoweredPowersModel") (v := .ref (r0 11)) C0 hM 0 rfl rfl kt_X12_finds_X12 11 (by decide) kw_X12_finds_7 rfl rfl dX12_finds_116 ?_
          refine lv_iload hx hb dX12_finds_119 (lv_at hl 0 rfl) ?_
          obtain ⟨hc7, h⟩ := h
          refine m_iald C0 hM 4 rfl hc7 dX12_finds_121 ?_
          refine lv_iload hx hb dX12_finds_122 (lv_at hl 1 rfl) ?_
          obtain ⟨hc8, h⟩ := h
          refine m_iast (ws' := [(h0, .inr (11, oX12 r0 I_0_isFound I_0_foundB I_0_changes I_0_taped I_0_size I_0_at I_0_signs I_0_wanted I_0_sign I_0_isKept I_0_keptFound I_0_keptB I_0_keptChanges)), ((r0 4), .inl (cI, 75, .inl (upd A_0_4_foundNumbers ((A_0_11_owners (y4).toNatClampNeg)).toNatClampNeg y2))), ((r0 5), .inl (cI, 9, .inl A_0_5_b)), ((r0 10), .inl (cI, 18900, .inl A_0_10_table)), ((r0 11), .inl (cI, 84, .inl A_0_11_owners)), ((r0 12), .inl (cI, 84, .inl A_0_12_pivots))]) C0 hM 1 rfl hc8 rfl dX12_finds_124 (fun H locs hM => ?_)
          refine lv_goto (tgt := 143) hx hb dX12_finds_125 (by decide) ?_
          exact jq143 _ _ _ _ _ _ _ _ h hM (lv_sub hl [2, 3, 4, 5, 6] rfl)
  have jq73 : ∀ (I_0_isFound : Int32) (I_0_foundB : Int32) (A_0_4_foundNumbers : (Nat → Int32)) (A_0_5_b : (Nat → Int32)) (H : Heap) (locs : List Loc) (ls : Array Slot) , jn_X12_finds_73 x1 x2 x3 A_0_10_table A_0_11_owners A_0_12_pivots K I_0_isFound I_0_foundB A_0_4_foundNumbers A_0_5_b → MW D A s.heap [(h0, .inr (11, oX12 r0 I_0_isFound I_0_foundB I_0_changes I_0_taped I_0_size I_0_at I_0_signs I_0_wanted I_0_sign I_0_isKept I_0_keptFound I_0_keptB I_0_keptChanges)), ((r0 4), .inl (cI, 75, .inl A_0_4_foundNumbers)), ((r0 5), .inl (cI, 9, .inl A_0_5_b)), ((r0 10), .inl (cI, 18900, .inl A_0_10_table)), ((r0 11), .inl (cI, 84, .inl A_0_11_owners)), ((r0 12), .inl (cI, 84, .inl A_0_12_pivots))] H locs → lv_has ls 7 [(0, .ref h0), (1, .int x1), (2, .int x2), (3, .int x3)] → W p l e rm_X12_finds s m args below meth c H locs 0 0 Q (F0 m 73 ls []) := by
    intro I_0_isFound I_0_foundB A_0_4_foundNumbers A_0_5_b H locs ls h hM hl
    unfold jn_X12_finds_73 at h
    refine lv_iconst (v := (0 : Int32)) hx hb dX12_finds_73 (by decide) ?_
    refine lv_istore (lv' := [(4, .int (0 : Int32)), (0, .ref h0), (1, .int x1), (2, .int x2), (3, .int x3)]) hx hb dX12_finds_74 hl (by decide) rfl (fun ls hl => ?_)
    obtain ⟨k0, h⟩ := h
    exact lq76 k0 _ _ _ _ _ _ _ _ h hM (lv_sub hl [1, 2, 3, 4, 0] rfl)
  have lq39 : ∀ (k39 : Nat) (x4 : Int32) (I_0_isFound : Int32) (I_0_foundB : Int32) (A_0_4_foundNumbers : (Nat → Int32)) (A_0_5_b : (Nat → Int32)) (H : Heap) (locs : List Loc) (ls : Array Slot) , lp_X12_finds_39 x1 x2 x3 A_0_10_table A_0_11_owners A_0_12_pivots (jn_X12_finds_73 x1 x2 x3 A_0_10_table A_0_11_owners A_0_12_pivots K) K k39 x4 I_0_isFound I_0_foundB A_0_4_foundNumbers A_0_5_b → MW D A s.heap [(h0, .inr (11, oX12 r0 I_0_isFound I_0_foundB I_0_changes I_0_taped I_0_size I_0_at I_0_signs I_0_wanted I_0_sign I_0_isKept I_0_keptFound I_0_keptB I_0_keptChanges)), ((r0 4), .inl (cI, 75, .inl A_0_4_foundNumbers)), ((r0 5), .inl (cI, 9, .inl A_0_5_b)), ((r0 10), .inl (cI, 18900, .inl A_0_10_table)), ((r0 11), .inl (cI, 84, .inl A_0_11_owners)), ((r0 12), .inl (cI, 84, .inl A_0_12_pivots))] H locs → lv_has ls 7 [(0, .ref h0), (1, .int x1), (2, .int x2), (3, .int x3), (4, .int x4)] → W p l e rm_X12_finds s m args below meth c H locs 0 0 Q (F0 m 39 ls []) := by
    intro k39
    induction k39 with
    | zero =>
      intro x4 I_0_isFound I_0_foundB A_0_4_foundNumbers A_0_5_b H locs ls h
      unfold lp_X12_finds_39 at h
      exact h.elim
    | succ k39 ih39 =>
      have jq66 : ∀ (x4 : Int32) (s1 : Int32) (s2 : Int32) (I_0_isFound : Int32) (I_0_foundB : Int32) (A_0_4_foundNumbers : (Nat → Int32)) (A_0_5_b : (Nat → Int32)) (H : Heap) (locs : List Loc) (ls : Array Slot) , jn_X12_finds_66 x1 x2 x3 A_0_10_table A_0_11_owners A_0_12_pivots (fun x4 I_0_isFound I_0_foundB A_0_4_foundNumbers A_0_5_b => lp_X12_finds_39 x1 x2 x3 A_0_10_table A_0_11_owners A_0_12_pivots (jn_X12_finds_73 x1 x2 x3 A_0_10_table A_0_11_owners A_0_12_pivots K) K k39 x4 I_0_isFound I_0_foundB A_0_4_foundNumbers A_0_5_b) (jn_X12_finds_73 x1 x2 x3 A_0_10_table A_0_11_owners A_0_12_pivots K) K x4 s1 s2 I_0_isFound I_0_foundB A_0_4_foundNumbers A_0_5_b → MW D A s.heap [(h0, .inr (11, oX12 r0 I_0_isFound I_0_foundB I_0_changes I_0_taped I_0_size I_0_at I_0_signs I_0_wanted I_0_sign I_0_isKept I_0_keptFound I_0_keptB I_0_keptChanges)), ((r0 4), .inl (cI, 75, .inl A_0_4_foundNumbers)), ((r0 5), .inl (cI, 9, .inl A_0_5_b)), ((r0 10), .inl (cI, 18900, .inl A_0_10_table)), ((r0 11), .inl (cI, 84, .inl A_0_11_owners)), ((r0 12), .inl (cI, 84, .inl A_0_12_pivots))] H locs → lv_has ls 7 [(0, .ref h0), (1, .int x1), (2, .int x2), (3, .int x3), (4, .int x4)] → W p l e rm_X12_finds s m args below meth c H locs 0 0 Q (F0 m 66 ls [.int s2, .int s1, .ref (r0 5)]) := by
        intro x4 s1 s2 I_0_isFound I_0_foundB A_0_4_foundNumbers A_0_5_b H locs ls h hM hl
        unfold jn_X12_finds_66 at h
        obtain ⟨hc9, h⟩ := h
        refine m_iast (ws' := [(h0, .inr (11, oX12 r0 I_0_isFound I_0_foundB I_0_changes I_0_taped I_0_size I_0_at I_0_signs I_0_wanted I_0_sign I_0_isKept I_0_keptFound I_0_keptB I_0_keptChanges)), ((r0 4), .inl (cI, 75, .inl A_0_4_foundNumbers)), ((r0 5), .inl (cI, 9, .inl (upd A_0_5_b (s1).toNatClampNeg s2))), ((r0 10), .inl (cI, 18900, .inl A_0_10_table)), ((r0 11), .inl (cI, 84, .inl A_0_11_owners)), ((r0 12), .inl (cI, 84, .inl A_0_12_pivots))]) C0 hM 2 rfl hc9 rfl dX12_finds_66 (fun H locs hM => ?_)
        refine lv_iinc (v := (x4 + (1 : Int32))) (lv' := [(4, .int (x4 + (1 : Int32))), (0, .ref h0), (1, .int x1), (2, .int x2), (3, .int x3)]) hx hb dX12_finds_67 hl (k := 4) rfl rfl (by decide) rfl (fun ls hl => ?_)
        refine lv_goto (tgt := 39) hx hb dX12_finds_70 (by decide) ?_
        exact ih39 _ _ _ _ _ _ _ _ h hM (lv_sub hl [1, 2, 3, 4, 0] rfl)
      intro x4 I_0_isFound I_0_foundB A_0_4_foundNumbers A_0_5_b H locs ls h hM hl
      unfold lp_X12_finds_39 at h
      refine lv_iload hx hb dX12_finds_39 (lv_at hl 4 rfl) ?_
      refine lv_bipush (v := (9 : Int32)) hx hb dX12_finds_41 (by decide) ?_
      refine lv_icmp_ge (tgt := 73) hx hb dX12_finds_43 (by decide) (fun hq => ?_) (fun hq => ?_)
      · have h := h.1 hq
        exact jq73 _ _ _ _ _ _ _ h hM (lv_sub hl [0, 1, 2, 3] rfl)
      · have h := h.2 hq
        refine lv_aload_n hx hb dX12_finds_46 rfl (lv_at hl 0 rfl) ?_
        refine m_get (C := RX12) (T := TX12) (N := 45) (ci := 11) (ref := "LoweredPowersModel") (v := .ref (r0 5)) C0 hM 0 rfl rfl kt_X12_finds_X12 5 (by decide) kw_X12_finds_4 rfl rfl dX12_finds_47 ?_
        refine lv_iload hx hb dX12_finds_50 (lv_at hl 4 rfl) ?_
        refine lv_iload hx hb dX12_finds_52 (lv_at hl 4 rfl) ?_
        refine lv_aload_n hx hb dX12_finds_54 rfl (lv_at hl 0 rfl) ?_
        refine m_get (C := RX12) (T := TX12) (N := 45) (ci := 11) (ref := "LoweredPowersModel") (v := .int I_0_foundB) C0 hM 0 rfl rfl kt_X12_finds_X12 3 (by decide) kw_X12_finds_2 rfl rfl dX12_finds_55 ?_
        refine lv_icmp_ne (tgt := 65) hx hb dX12_finds_58 (by decide) (fun hq => ?_) (fun hq => ?_)
        · have h := h.1 hq
          refine lv_iconst (v := (0 : Int32)) hx hb dX12_finds_65 (by decide) ?_
          exact jq66 _ _ _ _ _ _ _ _ _ _ h hM (lv_sub hl [0, 1, 2, 3, 4] rfl)
        · have h := h.2 hq
          refine lv_iconst (v := (1 : Int32)) hx hb dX12_finds_61 (by decide) ?_
          refine lv_goto (tgt := 66) hx hb dX12_finds_62 (by decide) ?_
          exact jq66 _ _ _ _ _ _ _ _ _ _ h hM (lv_sub hl [0, 1, 2, 3, 4] rfl)
  have jq36 : ∀ (I_0_isFound : Int32) (I_0_foundB : Int32) (A_0_4_foundNumbers : (Nat → Int32)) (A_0_5_b : (Nat → Int32)) (H : Heap) (locs : List Loc) (ls : Array Slot) , jn_X12_finds_36 x1 x2 x3 A_0_10_table A_0_11_owners A_0_12_pivots K I_0_isFound I_0_foundB A_0_4_foundNumbers A_0_5_b → MW D A s.heap [(h0, .inr (11, oX12 r0 I_0_isFound I_0_foundB I_0_changes I_0_taped I_0_size I_0_at I_0_signs I_0_wanted I_0_sign I_0_isKept I_0_keptFound I_0_keptB I_0_keptChanges)), ((r0 4), .inl (cI, 75, .inl A_0_4_foundNumbers)), ((r0 5), .inl (cI, 9, .inl A_0_5_b)), ((r0 10), .inl (cI, 18900, .inl A_0_10_table)), ((r0 11), .inl (cI, 84, .inl A_0_11_owners)), ((r0 12), .inl (cI, 84, .inl A_0_12_pivots))] H locs → lv_has ls 7 [(0, .ref h0), (1, .int x1), (2, .int x2), (3, .int x3)] → W p l e rm_X12_finds s m args below meth c H locs 0 0 Q (F0 m 36 ls []) := by
    intro I_0_isFound I_0_foundB A_0_4_foundNumbers A_0_5_b H locs ls h hM hl
    unfold jn_X12_finds_36 at h
    refine lv_iconst (v := (0 : Int32)) hx hb dX12_finds_36 (by decide) ?_
    refine lv_istore (lv' := [(4, .int (0 : Int32)), (0, .ref h0), (1, .int x1), (2, .int x2), (3, .int x3)]) hx hb dX12_finds_37 hl (by decide) rfl (fun ls hl => ?_)
    obtain ⟨k0, h⟩ := h
    exact lq39 k0 _ _ _ _ _ _ _ _ h hM (lv_sub hl [1, 2, 3, 4, 0] rfl)
  have lq15 : ∀ (k15 : Nat) (x4 : Int32) (I_0_isFound : Int32) (I_0_foundB : Int32) (A_0_4_foundNumbers : (Nat → Int32)) (A_0_5_b : (Nat → Int32)) (H : Heap) (locs : List Loc) (ls : Array Slot) , lp_X12_finds_15 x1 x2 x3 A_0_10_table A_0_11_owners A_0_12_pivots (jn_X12_finds_36 x1 x2 x3 A_0_10_table A_0_11_owners A_0_12_pivots K) K k15 x4 I_0_isFound I_0_foundB A_0_4_foundNumbers A_0_5_b → MW D A s.heap [(h0, .inr (11, oX12 r0 I_0_isFound I_0_foundB I_0_changes I_0_taped I_0_size I_0_at I_0_signs I_0_wanted I_0_sign I_0_isKept I_0_keptFound I_0_keptB I_0_keptChanges)), ((r0 4), .inl (cI, 75, .inl A_0_4_foundNumbers)), ((r0 5), .inl (cI, 9, .inl A_0_5_b)), ((r0 10), .inl (cI, 18900, .inl A_0_10_table)), ((r0 11), .inl (cI, 84, .inl A_0_11_owners)), ((r0 12), .inl (cI, 84, .inl A_0_12_pivots))] H locs → lv_has ls 7 [(0, .ref h0), (1, .int x1), (2, .int x2), (3, .int x3), (4, .int x4)] → W p l e rm_X12_finds s m args below meth c H locs 0 0 Q (F0 m 15 ls []) := by
    intro k15
    induction k15 with
    | zero =>
      intro x4 I_0_isFound I_0_foundB A_0_4_foundNumbers A_0_5_b H locs ls h
      unfold lp_X12_finds_15 at h
      exact h.elim
    | succ k15 ih15 =>
      intro x4 I_0_isFound I_0_foundB A_0_4_foundNumbers A_0_5_b H locs ls h hM hl
      unfold lp_X12_finds_15 at h
      refine lv_iload hx hb dX12_finds_15 (lv_at hl 4 rfl) ?_
      refine lv_bipush (v := (75 : Int32)) hx hb dX12_finds_17 (by decide) ?_
      refine lv_icmp_ge (tgt := 36) hx hb dX12_finds_19 (by decide) (fun hq => ?_) (fun hq => ?_)
      · have h := h.1 hq
        exact jq36 _ _ _ _ _ _ _ h hM (lv_sub hl [0, 1, 2, 3] rfl)
      · have h := h.2 hq
        refine lv_aload_n hx hb dX12_finds_22 rfl (lv_at hl 0 rfl) ?_
        refine m_get (C := RX12) (T := TX12) (N := 45) (ci := 11) (ref := "LoweredPowersModel") (v := .ref (r0 4)) C0 hM 0 rfl rfl kt_X12_finds_X12 4 (by decide) kw_X12_finds_3 rfl rfl dX12_finds_23 ?_
        refine lv_iload hx hb dX12_finds_26 (lv_at hl 4 rfl) ?_
        refine lv_iconst (v := (0 : Int32)) hx hb dX12_finds_28 (by decide) ?_
        obtain ⟨hc10, h⟩ := h
        refine m_iast (ws' := [(h0, .inr (11, oX12 r0 I_0_isFound I_0_foundB I_0_changes I_0_taped I_0_size I_0_at I_0_signs I_0_wanted I_0_sign I_0_isKept I_0_keptFound I_0_keptB I_0_keptChanges)), ((r0 4), .inl (cI, 75, .inl (upd A_0_4_foundNumbers (x4).toNatClampNeg (0 : Int32)))), ((r0 5), .inl (cI, 9, .inl A_0_5_b)), ((r0 10), .inl (cI, 18900, .inl A_0_10_table)), ((r0 11), .inl (cI, 84, .inl A_0_11_owners)), ((r0 12), .inl (cI, 84, .inl A_0_12_pivots))]) C0 hM 1 rfl hc10 rfl dX12_finds_29 (fun H locs hM => ?_)
        refine lv_iinc (v := (x4 + (1 : Int32))) (lv' := [(4, .int (x4 + (1 : Int32))), (0, .ref h0), (1, .int x1), (2, .int x2), (3, .int x3)]) hx hb dX12_finds_30 hl (k := 4) rfl rfl (by decide) rfl (fun ls hl => ?_)
        refine lv_goto (tgt := 15) hx hb dX12_finds_33 (by decide) ?_
        exact ih15 _ _ _ _ _ _ _ _ h hM (lv_sub hl [1, 2, 3, 4, 0] rfl)
  unfold wp_X12_finds at h
  refine lv_aload_n hx hb dX12_finds_0 rfl (lv_at hl 0 rfl) ?_
  refine lv_iconst (v := (1 : Int32)) hx hb dX12_finds_1 (by decide) ?_
  refine m_put (ws' := [(h0, .inr (11, oX12 r0 (1 : Int32) I_0_foundB I_0_changes I_0_taped I_0_size I_0_at I_0_signs I_0_wanted I_0_sign I_0_isKept I_0_keptFound I_0_keptB I_0_keptChanges)), ((r0 4), .inl (cI, 75, .inl A_0_4_foundNumbers)), ((r0 5), .inl (cI, 9, .inl A_0_5_b)), ((r0 10), .inl (cI, 18900, .inl A_0_10_table)), ((r0 11), .inl (cI, 84, .inl A_0_11_owners)), ((r0 12), .inl (cI, 84, .inl A_0_12_pivots))]) (C := RX12) (T := TX12) (N := 45) (ci := 11) (ref := "LoweredPowersModel") (v := .int (1 : Int32)) C0 hM 0 rfl rfl kt_X12_finds_X12 tyX12 tyX12_ok nmX12 2 (by decide) kw_X12_finds_1 rfl rfl rfl rfl (Nat.le_of_ble_eq_true rfl) rfl dX12_finds_2 (fun H locs hM => ?_)
  refine lv_aload_n hx hb dX12_finds_5 rfl (lv_at hl 0 rfl) ?_
  refine lv_iload_n hx hb dX12_finds_6 rfl (lv_at hl 1 rfl) ?_
  refine lv_iload_n hx hb dX12_finds_7 rfl (lv_at hl 2 rfl) ?_
  refine lv_isub hx hb dX12_finds_8 ?_
  refine lv_topi (fun y11 ey11 => ?_)
  have h := h y11 ey11
  refine m_put (ws' := [(h0, .inr (11, oX12 r0 (1 : Int32) y11 I_0_changes I_0_taped I_0_size I_0_at I_0_signs I_0_wanted I_0_sign I_0_isKept I_0_keptFound I_0_keptB I_0_keptChanges)), ((r0 4), .inl (cI, 75, .inl A_0_4_foundNumbers)), ((r0 5), .inl (cI, 9, .inl A_0_5_b)), ((r0 10), .inl (cI, 18900, .inl A_0_10_table)), ((r0 11), .inl (cI, 84, .inl A_0_11_owners)), ((r0 12), .inl (cI, 84, .inl A_0_12_pivots))]) (C := RX12) (T := TX12) (N := 45) (ci := 11) (ref := "LoweredPowersModel") (v := .int y11) C0 hM 0 rfl rfl kt_X12_finds_X12 tyX12 tyX12_ok nmX12 3 (by decide) kw_X12_finds_2 rfl rfl rfl rfl (Nat.le_of_ble_eq_true rfl) rfl dX12_finds_9 (fun H locs hM => ?_)
  refine lv_iconst (v := (0 : Int32)) hx hb dX12_finds_12 (by decide) ?_
  refine lv_istore (lv' := [(4, .int (0 : Int32)), (0, .ref h0), (1, .int x1), (2, .int x2), (3, .int x3)]) hx hb dX12_finds_13 hl (by decide) rfl (fun ls hl => ?_)
  obtain ⟨k0, h⟩ := h
  exact lq15 k0 _ _ _ _ _ _ _ _ h hM (lv_sub hl [1, 2, 3, 4, 0] rfl)
abbrev rm_X12_search : Room := { frames := 5, cells := 0, slots := 0, locals := 119 }
set_option maxRecDepth 100000 in
set_option maxHeartbeats 4000000 in
theorem ct_X12_search (l : Launch) (D : va_G) (cI cJ cZ : ClassId) (h0 : Nat) (r0 : Nat → Nat) (I_0_isFound : Int32) (I_0_foundB : Int32) (I_0_changes : Int32) (I_0_taped : Int32) (I_0_size : Int32) (I_0_at : Int32) (I_0_signs : Int32) (I_0_wanted : Int32) (I_0_sign : Int32) (I_0_isKept : Int32) (I_0_keptFound : Int32) (I_0_keptB : Int32) (I_0_keptChanges : Int32) (A_0_0_f : (Nat → Int32)) (A_0_4_foundNumbers : (Nat → Int32)) (A_0_5_b : (Nat → Int32)) (A_0_6_powers : (Nat → Int32)) (A_0_7_lefts : (Nat → Int32)) (A_0_8_cells : (Nat → Int32)) (A_0_10_table : (Nat → Int32)) (A_0_11_owners : (Nat → Int32)) (A_0_12_pivots : (Nat → Int32)) (x1 : Int32) (x2 : Int32) (x3 : Int32) (sz : Nat) (K : Int32 → Int32 → Int32 → (Nat → Int32) → (Nat → Int32) → (Nat → Int32) → (Nat → Int32) → (Nat → Int32) → (Nat → Int32) → (Nat → Int32) → (Nat → Int32) → Prop) (h : wp_X12_search x1 x2 x3 I_0_isFound I_0_foundB A_0_0_f A_0_4_foundNumbers A_0_5_b A_0_6_powers A_0_7_lefts A_0_8_cells A_0_10_table A_0_11_owners A_0_12_pivots K) : Met l yX12_search wsX12_search rm_X12_search (va_Pc [.ref h0, .int x1, .int x2, .int x3] (WX D cI cJ cZ [(h0, .inr (11, oX12 r0 I_0_isFound I_0_foundB I_0_changes I_0_taped I_0_size I_0_at I_0_signs I_0_wanted I_0_sign I_0_isKept I_0_keptFound I_0_keptB I_0_keptChanges)), ((r0 0), .inl (cI, 5, .inl A_0_0_f)), ((r0 4), .inl (cI, 75, .inl A_0_4_foundNumbers)), ((r0 5), .inl (cI, 9, .inl A_0_5_b)), ((r0 6), .inl (cI, 125, .inl A_0_6_powers)), ((r0 7), .inl (cI, 1125, .inl A_0_7_lefts)), ((r0 8), .inl (cI, 225, .inl A_0_8_cells)), ((r0 10), .inl (cI, 18900, .inl A_0_10_table)), ((r0 11), .inl (cI, 84, .inl A_0_11_owners)), ((r0 12), .inl (cI, 84, .inl A_0_12_pivots))] sz)) (va_Qi (fun (r : Int32) (u : Int32 × Int32 × (Nat → Int32) × (Nat → Int32) × (Nat → Int32) × (Nat → Int32) × (Nat → Int32) × (Nat → Int32) × (Nat → Int32) × (Nat → Int32)) => K r u.1 u.2.1 u.2.2.1 u.2.2.2.1 u.2.2.2.2.1 u.2.2.2.2.2.1 u.2.2.2.2.2.2.1 u.2.2.2.2.2.2.2.1 u.2.2.2.2.2.2.2.2.1 u.2.2.2.2.2.2.2.2.2) (fun (u : Int32 × Int32 × (Nat → Int32) × (Nat → Int32) × (Nat → Int32) × (Nat → Int32) × (Nat → Int32) × (Nat → Int32) × (Nat → Int32) × (Nat → Int32)) t => WY D (va_A [(h0, .inr (11, oX12 r0 I_0_isFound I_0_foundB I_0_changes I_0_taped I_0_size I_0_at I_0_signs I_0_wanted I_0_sign I_0_isKept I_0_keptFound I_0_keptB I_0_keptChanges)), ((r0 0), .inl (cI, 5, .inl A_0_0_f)), ((r0 4), .inl (cI, 75, .inl A_0_4_foundNumbers)), ((r0 5), .inl (cI, 9, .inl A_0_5_b)), ((r0 6), .inl (cI, 125, .inl A_0_6_powers)), ((r0 7), .inl (cI, 1125, .inl A_0_7_lefts)), ((r0 8), .inl (cI, 225, .inl A_0_8_cells)), ((r0 10), .inl (cI, 18900, .inl A_0_10_table)), ((r0 11), .inl (cI, 84, .inl A_0_11_owners)), ((r0 12), .inl (cI, 84, .inl A_0_12_pivots))] sz) [(h0, .inr (11, oX12 r0 u.1 u.2.1 I_0_changes I_0_taped I_0_size I_0_at I_0_signs I_0_wanted I_0_sign I_0_isKept I_0_keptFound I_0_keptB I_0_keptChanges)), ((r0 0), .inl (cI, 5, .inl A_0_0_f)), ((r0 4), .inl (cI, 75, .inl u.2.2.1)), ((r0 5), .inl (cI, 9, .inl u.2.2.2.1)), ((r0 6), .inl (cI, 125, .inl u.2.2.2.2.1)), ((r0 7), .inl (cI, 1125, .inl u.2.2.2.2.2.1)), ((r0 8), .inl (cI, 225, .inl u.2.2.2.2.2.2.1)), ((r0 10), .inl (cI, 18900, .inl u.2.2.2.2.2.2.2.1)), ((r0 11), .inl (cI, 84, .inl u.2.2.2.2.2.2.2.2.1)), ((r0 12), .inl (cI, 84, .inl u.2.2.2.2.2.2.2.2.2))] t) (va_A [(h0, .inr (11, oX12 r0 I_0_isFound I_0_foundB I_0_changes I_0_taped I_0_size I_0_at I_0_signs I_0_wanted I_0_sign I_0_isKept I_0_keptFound I_0_keptB I_0_keptChanges)), ((r0 0), .inl (cI, 5, .inl A_0_0_f)), ((r0 4), .inl (cI, 75, .inl A_0_4_foundNumbers)), ((r0 5), .inl (cI, 9, .inl A_0_5_b)), ((r0 6), .inl (cI, 125, .inl A_0_6_powers)), ((r0 7), .inl (cI, 1125, .inl A_0_7_lefts)), ((r0 8), .inl (cI, 225, .inl A_0_8_cells)), ((r0 10), .inl (cI, 18900, .inl A_0_10_table)), ((r0 11), .inl (cI, 84, .inl A_0_11_owners)), ((r0 12), .inl (cI, 84, .inl A_0_12_pivots))] sz)) 0 0 (va_A [(h0, .inr (11, oX12 r0 I_0_isFound I_0_foundB I_0_changes I_0_taped I_0_size I_0_at I_0_signs I_0_wanted I_0_sign I_0_isKept I_0_keptFound I_0_keptB I_0_keptChanges)), ((r0 0), .inl (cI, 5, .inl A_0_0_f)), ((r0 4), .inl (cI, 75, .inl A_0_4_foundNumbers)), ((r0 5), .inl (cI, 9, .inl A_0_5_b)), ((r0 6), .inl (cI, 125, .inl A_0_6_powers)), ((r0 7), .inl (cI, 1125, .inl A_0_7_lefts)), ((r0 8), .inl (cI, 225, .inl A_0_8_cells)), ((r0 10), .inl (cI, 18900, .inl A_0_10_table)), ((r0 11), .inl (cI, 84, .inl A_0_11_owners)), ((r0 12), .inl (cI, 84, .inl A_0_12_pivots))] sz) := by
  refine m_met (own := RX12) (cc := cX12_search) (maxL := 8) (ret := some .int) [.ref h0, .int x1, .int x2, .int x3] [(0, .ref h0), (1, .int x1), (2, .int x2), (3, .int x3)] (by decide) rfl rfl (Nat.le_of_ble_eq_true rfl) rfl ?_
  intro p e s m args below meth c Q A hQ hA C0 hr hnm hsz hM ls hl
  have hx := C0.1
  have hb := C0.2.1
  have hown := C0.2.2.2.1
  have jq155 : ∀ (I_0_isFound : Int32) (I_0_foundB : Int32) (A_0_4_foundNumbers : (Nat → Int32)) (A_0_5_b : (Nat → Int32)) (A_0_6_powers : (Nat → Int32)) (A_0_7_lefts : (Nat → Int32)) (A_0_8_cells : (Nat → Int32)) (A_0_10_table : (Nat → Int32)) (A_0_11_owners : (Nat → Int32)) (A_0_12_pivots : (Nat → Int32)) (H : Heap) (locs : List Loc) (ls : Array Slot) , jn_X12_search_155 x1 x2 x3 A_0_0_f K I_0_isFound I_0_foundB A_0_4_foundNumbers A_0_5_b A_0_6_powers A_0_7_lefts A_0_8_cells A_0_10_table A_0_11_owners A_0_12_pivots → MW D A s.heap [(h0, .inr (11, oX12 r0 I_0_isFound I_0_foundB I_0_changes I_0_taped I_0_size I_0_at I_0_signs I_0_wanted I_0_sign I_0_isKept I_0_keptFound I_0_keptB I_0_keptChanges)), ((r0 0), .inl (cI, 5, .inl A_0_0_f)), ((r0 4), .inl (cI, 75, .inl A_0_4_foundNumbers)), ((r0 5), .inl (cI, 9, .inl A_0_5_b)), ((r0 6), .inl (cI, 125, .inl A_0_6_powers)), ((r0 7), .inl (cI, 1125, .inl A_0_7_lefts)), ((r0 8), .inl (cI, 225, .inl A_0_8_cells)), ((r0 10), .inl (cI, 18900, .inl A_0_10_table)), ((r0 11), .inl (cI, 84, .inl A_0_11_owners)), ((r0 12), .inl (cI, 84, .inl A_0_12_pivots))] H locs → lv_has ls 8 [(0, .ref h0)] → W p l e rm_X12_search s m args below meth c H locs 0 0 Q (F0 m 155 ls []) := by
    intro I_0_isFound I_0_foundB A_0_4_foundNumbers A_0_5_b A_0_6_powers A_0_7_lefts A_0_8_cells A_0_10_table A_0_11_owners A_0_12_pivots H locs ls h hM hl
    unfold jn_X12_search_155 at h
    refine lv_aload_n hx hb dX12_search_155 rfl (lv_at hl 0 rfl) ?_
    refine m_get (C := RX12) (T := TX12) (N := 45) (ci := 11) (ref := "LoweredPowersModel") (v := .int I_0_isFound) C0 hM 0 rfl rfl kt_X12_search_X12 2 (by decide) kw_X12_search_1 rfl rfl dX12_search_156 ?_
    refine lv_if_eq (tgt := 169) hx hb dX12_search_159 (by decide) (fun hq => ?_) (fun hq => ?_)
    · have h := h.1 hq
      refine lv_bipush (v := (-5 : Int32)) hx hb dX12_search_169 (by decide) ?_
      subst hsz; subst hA; subst hQ
      exact m_iret C0 hr hM (I_0_isFound, I_0_foundB, A_0_4_foundNumbers, A_0_5_b, A_0_6_powers, A_0_7_lefts, A_0_8_cells, A_0_10_table, A_0_11_owners, A_0_12_pivots) h rfl dX12_search_171
    · have h := h.2 hq
      refine lv_aload_n hx hb dX12_search_162 rfl (lv_at hl 0 rfl) ?_
      refine m_get (C := RX12) (T := TX12) (N := 45) (ci := 11) (ref := "LoweredPowersModel") (v := .int I_0_foundB) C0 hM 0 rfl rfl kt_X12_search_X12 3 (by decide) kw_X12_search_3 rfl rfl dX12_search_163 ?_
      refine lv_goto (tgt := 171) hx hb dX12_search_166 (by decide) ?_
      subst hsz; subst hA; subst hQ
      exact m_iret C0 hr hM (I_0_isFound, I_0_foundB, A_0_4_foundNumbers, A_0_5_b, A_0_6_powers, A_0_7_lefts, A_0_8_cells, A_0_10_table, A_0_11_owners, A_0_12_pivots) h rfl dX12_search_171
  have lq61 : ∀ (k61 : Nat) (x4 : Int32) (x5 : Int32) (x6 : Int32) (I_0_isFound : Int32) (I_0_foundB : Int32) (A_0_4_foundNumbers : (Nat → Int32)) (A_0_5_b : (Nat → Int32)) (A_0_6_powers : (Nat → Int32)) (A_0_7_lefts : (Nat → Int32)) (A_0_8_cells : (Nat → Int32)) (A_0_10_table : (Nat → Int32)) (A_0_11_owners : (Nat → Int32)) (A_0_12_pivots : (Nat → Int32)) (H : Heap) (locs : List Loc) (ls : Array Slot) , lp_X12_search_61 x1 x2 x3 A_0_0_f (jn_X12_search_155 x1 x2 x3 A_0_0_f K) K k61 x4 x5 x6 I_0_isFound I_0_foundB A_0_4_foundNumbers A_0_5_b A_0_6_powers A_0_7_lefts A_0_8_cells A_0_10_table A_0_11_owners A_0_12_pivots → MW D A s.heap [(h0, .inr (11, oX12 r0 I_0_isFound I_0_foundB I_0_changes I_0_taped I_0_size I_0_at I_0_signs I_0_wanted I_0_sign I_0_isKept I_0_keptFound I_0_keptB I_0_keptChanges)), ((r0 0), .inl (cI, 5, .inl A_0_0_f)), ((r0 4), .inl (cI, 75, .inl A_0_4_foundNumbers)), ((r0 5), .inl (cI, 9, .inl A_0_5_b)), ((r0 6), .inl (cI, 125, .inl A_0_6_powers)), ((r0 7), .inl (cI, 1125, .inl A_0_7_lefts)), ((r0 8), .inl (cI, 225, .inl A_0_8_cells)), ((r0 10), .inl (cI, 18900, .inl A_0_10_table)), ((r0 11), .inl (cI, 84, .inl A_0_11_owners)), ((r0 12), .inl (cI, 84, .inl A_0_12_pivots))] H locs → lv_has ls 8 [(0, .ref h0), (4, .int x4), (5, .int x5), (6, .int x6)] → W p l e rm_X12_search s m args below meth c H locs 0 0 Q (F0 m 61 ls []) := by
    intro k61
    induction k61 with
    | zero =>
      intro x4 x5 x6 I_0_isFound I_0_foundB A_0_4_foundNumbers A_0_5_b A_0_6_powers A_0_7_lefts A_0_8_cells A_0_10_table A_0_11_owners A_0_12_pivots H locs ls h
      unfold lp_X12_search_61 at h
      exact h.elim
    | succ k61 ih61 =>
      have jq149 : ∀ (x4 : Int32) (x5 : Int32) (x6 : Int32) (I_0_isFound : Int32) (I_0_foundB : Int32) (A_0_4_foundNumbers : (Nat → Int32)) (A_0_5_b : (Nat → Int32)) (A_0_6_powers : (Nat → Int32)) (A_0_7_lefts : (Nat → Int32)) (A_0_8_cells : (Nat → Int32)) (A_0_10_table : (Nat → Int32)) (A_0_11_owners : (Nat → Int32)) (A_0_12_pivots : (Nat → Int32)) (H : Heap) (locs : List Loc) (ls : Array Slot) , jn_X12_search_149 x1 x2 x3 A_0_0_f (fun x4 x5 x6 I_0_isFound I_0_foundB A_0_4_foundNumbers A_0_5_b A_0_6_powers A_0_7_lefts A_0_8_cells A_0_10_table A_0_11_owners A_0_12_pivots => lp_X12_search_61 x1 x2 x3 A_0_0_f (jn_X12_search_155 x1 x2 x3 A_0_0_f K) K k61 x4 x5 x6 I_0_isFound I_0_foundB A_0_4_foundNumbers A_0_5_b A_0_6_powers A_0_7_lefts A_0_8_cells A_0_10_table A_0_11_owners A_0_12_pivots) (jn_X12_search_155 x1 x2 x3 A_0_0_f K) K x4 x5 x6 I_0_isFound I_0_foundB A_0_4_foundNumbers A_0_5_b A_0_6_powers A_0_7_lefts A_0_8_cells A_0_10_table A_0_11_owners A_0_12_pivots → MW D A s.heap [(h0, .inr (11, oX12 r0 I_0_isFound I_0_foundB I_0_changes I_0_taped I_0_size I_0_at I_0_signs I_0_wanted I_0_sign I_0_isKept I_0_keptFound I_0_keptB I_0_keptChanges)), ((r0 0), .inl (cI, 5, .inl A_0_0_f)), ((r0 4), .inl (cI, 75, .inl A_0_4_foundNumbers)), ((r0 5), .inl (cI, 9, .inl A_0_5_b)), ((r0 6), .inl (cI, 125, .inl A_0_6_powers)), ((r0 7), .inl (cI, 1125, .inl A_0_7_lefts)), ((r0 8), .inl (cI, 225, .inl A_0_8_cells)), ((r0 10), .inl (cI, 18900, .inl A_0_10_table)), ((r0 11), .inl (cI, 84, .inl A_0_11_owners)), ((r0 12), .inl (cI, 84, .inl A_0_12_pivots))] H locs → lv_has ls 8 [(0, .ref h0), (4, .int x4), (5, .int x5), (6, .int x6)] → W p l e rm_X12_search s m args below meth c H locs 0 0 Q (F0 m 149 ls []) := by
        intro x4 x5 x6 I_0_isFound I_0_foundB A_0_4_foundNumbers A_0_5_b A_0_6_powers A_0_7_lefts A_0_8_cells A_0_10_table A_0_11_owners A_0_12_pivots H locs ls h hM hl
        unfold jn_X12_search_149 at h
        refine lv_iinc (v := (x6 + (1 : Int32))) (lv' := [(6, .int (x6 + (1 : Int32))), (0, .ref h0), (4, .int x4), (5, .int x5)]) hx hb dX12_search_149 hl (k := 3) rfl rfl (by decide) rfl (fun ls hl => ?_)
        refine lv_goto (tgt := 61) hx hb dX12_search_152 (by decide) ?_
        exact ih61 _ _ _ _ _ _ _ _ _ _ _ _ _ _ _ _ h hM (lv_sub hl [1, 2, 3, 0] rfl)
      intro x4 x5 x6 I_0_isFound I_0_foundB A_0_4_foundNumbers A_0_5_b A_0_6_powers A_0_7_lefts A_0_8_cells A_0_10_table A_0_11_owners A_0_12_pivots H locs ls h hM hl
      unfold lp_X12_search_61 at h
      refine lv_iload hx hb dX12_search_61 (lv_at hl 3 rfl) ?_
      refine lv_iload hx hb dX12_search_63 (lv_at hl 1 rfl) ?_
      refine lv_bipush (v := (9 : Int32)) hx hb dX12_search_65 (by decide) ?_
      refine lv_iadd hx hb dX12_search_67 ?_
      refine lv_icmp_ge (tgt := 155) hx hb dX12_search_68 (by decide) (fun hq => ?_) (fun hq => ?_)
      · have h := h.1 hq
        exact jq155 _ _ _ _ _ _ _ _ _ _ _ _ _ h hM (lv_sub hl [0] rfl)
      · have h := h.2 hq
        refine lv_aload_n hx hb dX12_search_71 rfl (lv_at hl 0 rfl) ?_
        refine m_get (C := RX12) (T := TX12) (N := 45) (ci := 11) (ref := "LoweredPowersModel") (v := .int I_0_isFound) C0 hM 0 rfl rfl kt_X12_search_X12 2 (by decide) kw_X12_search_1 rfl rfl dX12_search_72 ?_
        refine lv_if_ne (tgt := 155) hx hb dX12_search_75 (by decide) (fun hq => ?_) (fun hq => ?_)
        · have h := h.1 hq
          exact jq155 _ _ _ _ _ _ _ _ _ _ _ _ _ h hM (lv_sub hl [0] rfl)
        · have h := h.2 hq
          refine lv_aload_n hx hb dX12_search_78 rfl (lv_at hl 0 rfl) ?_
          refine lv_iload hx hb dX12_search_79 (lv_at hl 2 rfl) ?_
          refine lv_iload hx hb dX12_search_81 (lv_at hl 3 rfl) ?_
          refine m_calli (wc := [(h0, .inr (11, oX12 r0 I_0_isFound I_0_foundB I_0_changes I_0_taped I_0_size I_0_at I_0_signs I_0_wanted I_0_sign I_0_isKept I_0_keptFound I_0_keptB I_0_keptChanges)), ((r0 10), .inl (cI, 18900, .inl A_0_10_table))]) C0 hM [0, 7] rfl (m_runV (wc := [(h0, .inr (11, oX12 r0 I_0_isFound I_0_foundB I_0_changes I_0_taped I_0_size I_0_at I_0_signs I_0_wanted I_0_sign I_0_isKept I_0_keptFound I_0_keptB I_0_keptChanges)), ((r0 10), .inl (cI, 18900, .inl A_0_10_table))]) (As := [.int x5, .int x6]) (rest := []) (ci := 11) C0 hM (ct_X12_pivotRow l D cI cJ cZ h0 r0 I_0_isFound I_0_foundB I_0_changes I_0_taped I_0_size I_0_at I_0_signs I_0_wanted I_0_sign I_0_isKept I_0_keptFound I_0_keptB I_0_keptChanges A_0_10_table x5 x6 _ _ h) [0, 7] rfl (by decide) gX12_search_X12_pivotRow rfl rfl rfl rfl rfl hd_X12_pivotRow ⟨Nat.le_of_ble_eq_true rfl, Nat.le_of_ble_eq_true rfl⟩ rfl hl.1 rfl (Nat.le_of_ble_eq_true rfl) dX12_search_83 ⟨Nat.le_of_ble_eq_true rfl, Nat.le_of_ble_eq_true rfl⟩) (fun _ => [(h0, .inr (11, oX12 r0 I_0_isFound I_0_foundB I_0_changes I_0_taped I_0_size I_0_at I_0_signs I_0_wanted I_0_sign I_0_isKept I_0_keptFound I_0_keptB I_0_keptChanges)), ((r0 0), .inl (cI, 5, .inl A_0_0_f)), ((r0 4), .inl (cI, 75, .inl A_0_4_foundNumbers)), ((r0 5), .inl (cI, 9, .inl A_0_5_b)), ((r0 6), .inl (cI, 125, .inl A_0_6_powers)), ((r0 7), .inl (cI, 1125, .inl A_0_7_lefts)), ((r0 8), .inl (cI, 225, .inl A_0_8_cells)), ((r0 10), .inl (cI, 18900, .inl A_0_10_table)), ((r0 11), .inl (cI, 84, .inl A_0_11_owners)), ((r0 12), .inl (cI, 84, .inl A_0_12_pivots))]) (fun _ => rfl) (fun _ => rfl) (fun y1 _ H locs h hM => ?_)
          refine lv_istore (lv' := [(7, .int y1), (0, .ref h0), (4, .int x4), (5, .int x5), (6, .int x6)]) hx hb dX12_search_86 hl (by decide) rfl (fun ls hl => ?_)
          refine lv_iload hx hb dX12_search_88 (lv_at hl 0 rfl) ?_
          refine lv_sipush (v := (225 : Int32)) hx hb dX12_search_90 (by decide) ?_
          refine lv_icmp_ge (tgt := 132) hx hb dX12_search_93 (by decide) (fun hq => ?_) (fun hq => ?_)
          · have h := h.1 hq
            refine lv_iload hx hb dX12_search_132 (lv_at hl 4 rfl) ?_
            refine lv_iload hx hb dX12_search_134 (lv_at hl 2 rfl) ?_
            refine lv_icmp_lt (tgt := 149) hx hb dX12_search_136 (by decide) (fun hq => ?_) (fun hq => ?_)
            · have h := h.1 hq
              exact jq149 _ _ _ _ _ _ _ _ _ _ _ _ _ _ _ _ h hM (lv_sub hl [1, 2, 3, 4] rfl)
            · have h := h.2 hq
              refine lv_aload_n hx hb dX12_search_139 rfl (lv_at hl 1 rfl) ?_
              refine lv_iload hx hb dX12_search_140 (lv_at hl 4 rfl) ?_
              refine lv_iload hx hb dX12_search_142 (lv_at hl 2 rfl) ?_
              refine lv_iload hx hb dX12_search_144 (lv_at hl 3 rfl) ?_
              refine m_callv (wc := [(h0, .inr (11, oX12 r0 I_0_isFound I_0_foundB I_0_changes I_0_taped I_0_size I_0_at I_0_signs I_0_wanted I_0_sign I_0_isKept I_0_keptFound I_0_keptB I_0_keptChanges)), ((r0 4), .inl (cI, 75, .inl A_0_4_foundNumbers)), ((r0 5), .inl (cI, 9, .inl A_0_5_b)), ((r0 10), .inl (cI, 18900, .inl A_0_10_table)), ((r0 11), .inl (cI, 84, .inl A_0_11_owners)), ((r0 12), .inl (cI, 84, .inl A_0_12_pivots))]) C0 hM [0, 2, 3, 7, 8, 9] rfl (m_runV (wc := [(h0, .inr (11, oX12 r0 I_0_isFound I_0_foundB I_0_changes I_0_taped I_0_size I_0_at I_0_signs I_0_wanted I_0_sign I_0_isKept I_0_keptFound I_0_keptB I_0_keptChanges)), ((r0 4), .inl (cI, 75, .inl A_0_4_foundNumbers)), ((r0 5), .inl (cI, 9, .inl A_0_5_b)), ((r0 10), .inl (cI, 18900, .inl A_0_10_table)), ((r0 11), .inl (cI, 84, .inl A_0_11_owners)), ((r0 12), .inl (cI, 84, .inl A_0_12_pivots))]) (As := [.int x6, .int x4, .int x5]) (rest := []) (ci := 11) C0 hM (ct_X12_finds l D cI cJ cZ h0 r0 I_0_isFound I_0_foundB I_0_changes I_0_taped I_0_size I_0_at I_0_signs I_0_wanted I_0_sign I_0_isKept I_0_keptFound I_0_keptB I_0_keptChanges A_0_4_foundNumbers A_0_5_b A_0_10_table A_0_11_owners A_0_12_pivots x6 x4 x5 _ _ h) [0, 2, 3, 7, 8, 9] rfl (by decide) gX12_search_X12_finds rfl rfl rfl rfl rfl hd_X12_finds ⟨Nat.le_of_ble_eq_true rfl, Nat.le_of_ble_eq_true rfl⟩ rfl hl.1 rfl (Nat.le_of_ble_eq_true rfl) dX12_search_146 ⟨Nat.le_of_ble_eq_true rfl, Nat.le_of_ble_eq_true rfl⟩) (fun u => [(h0, .inr (11, oX12 r0 u.1 u.2.1 I_0_changes I_0_taped I_0_size I_0_at I_0_signs I_0_wanted I_0_sign I_0_isKept I_0_keptFound I_0_keptB I_0_keptChanges)), ((r0 0), .inl (cI, 5, .inl A_0_0_f)), ((r0 4), .inl (cI, 75, .inl u.2.2.1)), ((r0 5), .inl (cI, 9, .inl u.2.2.2)), ((r0 6), .inl (cI, 125, .inl A_0_6_powers)), ((r0 7), .inl (cI, 1125, .inl A_0_7_lefts)), ((r0 8), .inl (cI, 225, .inl A_0_8_cells)), ((r0 10), .inl (cI, 18900, .inl A_0_10_table)), ((r0 11), .inl (cI, 84, .inl A_0_11_owners)), ((r0 12), .inl (cI, 84, .inl A_0_12_pivots))]) (fun _ => rfl) (fun _ => rfl) (fun u H locs h hM => ?_)
              obtain ⟨b2, b3, b4, b5⟩ := u
              dsimp only at h
              have hM : MW D A s.heap [(h0, .inr (11, oX12 r0 b2 b3 I_0_changes I_0_taped I_0_size I_0_at I_0_signs I_0_wanted I_0_sign I_0_isKept I_0_keptFound I_0_keptB I_0_keptChanges)), ((r0 0), .inl (cI, 5, .inl A_0_0_f)), ((r0 4), .inl (cI, 75, .inl b4)), ((r0 5), .inl (cI, 9, .inl b5)), ((r0 6), .inl (cI, 125, .inl A_0_6_powers)), ((r0 7), .inl (cI, 1125, .inl A_0_7_lefts)), ((r0 8), .inl (cI, 225, .inl A_0_8_cells)), ((r0 10), .inl (cI, 18900, .inl A_0_10_table)), ((r0 11), .inl (cI, 84, .inl A_0_11_owners)), ((r0 12), .inl (cI, 84, .inl A_0_12_pivots))] H locs := hM
              exact jq149 _ _ _ _ _ _ _ _ _ _ _ _ _ _ _ _ h hM (lv_sub hl [1, 2, 3, 4] rfl)
          · have h := h.2 hq
            refine lv_aload_n hx hb dX12_search_96 rfl (lv_at hl 1 rfl) ?_
            refine lv_iload hx hb dX12_search_97 (lv_at hl 0 rfl) ?_
            refine lv_iload hx hb dX12_search_99 (lv_at hl 3 rfl) ?_
            refine m_callv (wc := [(h0, .inr (11, oX12 r0 I_0_isFound I_0_foundB I_0_changes I_0_taped I_0_size I_0_at I_0_signs I_0_wanted I_0_sign I_0_isKept I_0_keptFound I_0_keptB I_0_keptChanges)), ((r0 10), .inl (cI, 18900, .inl A_0_10_table))]) C0 hM [0, 7] rfl (m_runV (wc := [(h0, .inr (11, oX12 r0 I_0_isFound I_0_foundB I_0_changes I_0_taped I_0_size I_0_at I_0_signs I_0_wanted I_0_sign I_0_isKept I_0_keptFound I_0_keptB I_0_keptChanges)), ((r0 10), .inl (cI, 18900, .inl A_0_10_table))]) (As := [.int y1, .int x5]) (rest := []) (ci := 11) C0 hM (ct_X12_swaps l D cI cJ cZ h0 r0 I_0_isFound I_0_foundB I_0_changes I_0_taped I_0_size I_0_at I_0_signs I_0_wanted I_0_sign I_0_isKept I_0_keptFound I_0_keptB I_0_keptChanges A_0_10_table y1 x5 _ _ h) [0, 7] rfl (by decide) gX12_search_X12_swaps rfl rfl rfl rfl rfl hd_X12_swaps ⟨Nat.le_of_ble_eq_true rfl, Nat.le_of_ble_eq_true rfl⟩ rfl hl.1 rfl (Nat.le_of_ble_eq_true rfl) dX12_search_101 ⟨Nat.le_of_ble_eq_true rfl, Nat.le_of_ble_eq_true rfl⟩) (fun u => [(h0, .inr (11, oX12 r0 I_0_isFound I_0_foundB I_0_changes I_0_taped I_0_size I_0_at I_0_signs I_0_wanted I_0_sign I_0_isKept I_0_keptFound I_0_keptB I_0_keptChanges)), ((r0 0), .inl (cI, 5, .inl A_0_0_f)), ((r0 4), .inl (cI, 75, .inl A_0_4_foundNumbers)), ((r0 5), .inl (cI, 9, .inl A_0_5_b)), ((r0 6), .inl (cI, 125, .inl A_0_6_powers)), ((r0 7), .inl (cI, 1125, .inl A_0_7_lefts)), ((r0 8), .inl (cI, 225, .inl A_0_8_cells)), ((r0 10), .inl (cI, 18900, .inl u)), ((r0 11), .inl (cI, 84, .inl A_0_11_owners)), ((r0 12), .inl (cI, 84, .inl A_0_12_pivots))]) (fun _ => rfl) (fun _ => rfl) (fun b6 H locs h hM => ?_)
            refine lv_aload_n hx hb dX12_search_104 rfl (lv_at hl 1 rfl) ?_
            refine lv_iload hx hb dX12_search_105 (lv_at hl 3 rfl) ?_
            refine lv_iload hx hb dX12_search_107 (lv_at hl 4 rfl) ?_
            refine lv_iload hx hb dX12_search_109 (lv_at hl 2 rfl) ?_
            refine lv_bipush (v := (9 : Int32)) hx hb dX12_search_111 (by decide) ?_
            refine lv_iadd hx hb dX12_search_113 ?_
            refine m_callv (wc := [(h0, .inr (11, oX12 r0 I_0_isFound I_0_foundB I_0_changes I_0_taped I_0_size I_0_at I_0_signs I_0_wanted I_0_sign I_0_isKept I_0_keptFound I_0_keptB I_0_keptChanges)), ((r0 10), .inl (cI, 18900, .inl b6))]) C0 hM [0, 7] rfl (m_runV (wc := [(h0, .inr (11, oX12 r0 I_0_isFound I_0_foundB I_0_changes I_0_taped I_0_size I_0_at I_0_signs I_0_wanted I_0_sign I_0_isKept I_0_keptFound I_0_keptB I_0_keptChanges)), ((r0 10), .inl (cI, 18900, .inl b6))]) (As := [.int x5, .int x6, .int (x4 + (9 : Int32))]) (rest := []) (ci := 11) C0 hM (ct_X12_reduces l D cI cJ cZ h0 r0 I_0_isFound I_0_foundB I_0_changes I_0_taped I_0_size I_0_at I_0_signs I_0_wanted I_0_sign I_0_isKept I_0_keptFound I_0_keptB I_0_keptChanges b6 x5 x6 (x4 + (9 : Int32)) _ _ h) [0, 7] rfl (by decide) gX12_search_X12_reduces rfl rfl rfl rfl rfl hd_X12_reduces ⟨Nat.le_of_ble_eq_true rfl, Nat.le_of_ble_eq_true rfl⟩ rfl hl.1 rfl (Nat.le_of_ble_eq_true rfl) dX12_search_114 ⟨Nat.le_of_ble_eq_true rfl, Nat.le_of_ble_eq_true rfl⟩) (fun u => [(h0, .inr (11, oX12 r0 I_0_isFound I_0_foundB I_0_changes I_0_taped I_0_size I_0_at I_0_signs I_0_wanted I_0_sign I_0_isKept I_0_keptFound I_0_keptB I_0_keptChanges)), ((r0 0), .inl (cI, 5, .inl A_0_0_f)), ((r0 4), .inl (cI, 75, .inl A_0_4_foundNumbers)), ((r0 5), .inl (cI, 9, .inl A_0_5_b)), ((r0 6), .inl (cI, 125, .inl A_0_6_powers)), ((r0 7), .inl (cI, 1125, .inl A_0_7_lefts)), ((r0 8), .inl (cI, 225, .inl A_0_8_cells)), ((r0 10), .inl (cI, 18900, .inl u)), ((r0 11), .inl (cI, 84, .inl A_0_11_owners)), ((r0 12), .inl (cI, 84, .inl A_0_12_pivots))]) (fun _ => rfl) (fun _ => rfl) (fun b7 H locs h hM => ?_)
            refine lv_aload_n hx hb dX12_search_117 rfl (lv_at hl 1 rfl) ?_
            refine m_get (C := RX12) (T := TX12) (N := 45) (ci := 11) (ref := "LoweredPowersModel") (v := .ref (r0 12)) C0 hM 0 rfl rfl kt_X12_search_X12 12 (by decide) kw_X12_search_2 rfl rfl dX12_search_118 ?_
            refine lv_iload hx hb dX12_search_121 (lv_at hl 3 rfl) ?_
            refine lv_iload hx hb dX12_search_123 (lv_at hl 4 rfl) ?_
            obtain ⟨hc8, h⟩ := h
            refine m_iast (ws' := [(h0, .inr (11, oX12 r0 I_0_isFound I_0_foundB I_0_changes I_0_taped I_0_size I_0_at I_0_signs I_0_wanted I_0_sign I_0_isKept I_0_keptFound I_0_keptB I_0_keptChanges)), ((r0 0), .inl (cI, 5, .inl A_0_0_f)), ((r0 4), .inl (cI, 75, .inl A_0_4_foundNumbers)), ((r0 5), .inl (cI, 9, .inl A_0_5_b)), ((r0 6), .inl (cI, 125, .inl A_0_6_powers)), ((r0 7), .inl (cI, 1125, .inl A_0_7_lefts)), ((r0 8), .inl (cI, 225, .inl A_0_8_cells)), ((r0 10), .inl (cI, 18900, .inl b7)), ((r0 11), .inl (cI, 84, .inl A_0_11_owners)), ((r0 12), .inl (cI, 84, .inl (upd A_0_12_pivots (x5).toNatClampNeg x6)))]) C0 hM 9 rfl hc8 rfl dX12_search_125 (fun H locs hM => ?_)
            refine lv_iinc (v := (x5 + (1 : Int32))) (lv' := [(5, .int (x5 + (1 : Int32))), (7, .int y1), (0, .ref h0), (4, .int x4), (6, .int x6)]) hx hb dX12_search_126 hl (k := 3) rfl rfl (by decide) rfl (fun ls hl => ?_)
            refine lv_goto (tgt := 149) hx hb dX12_search_129 (by decide) ?_
            exact jq149 _ _ _ _ _ _ _ _ _ _ _ _ _ _ _ _ h hM (lv_sub hl [2, 3, 0, 4] rfl)
  unfold wp_X12_search at h
  refine lv_iload_n hx hb dX12_search_0 rfl (lv_at hl 1 rfl) ?_
  refine lv_iconst (v := (1 : Int32)) hx hb dX12_search_1 (by decide) ?_
  refine lv_iconst (v := (4 : Int32)) hx hb dX12_search_2 (by decide) ?_
  refine m_calli (wc := []) C0 hM [] rfl (m_runS (wc := []) (As := [.int x1, .int (1 : Int32), .int (4 : Int32)]) (rest := []) C0 hM (ct_X12_isIn l D cI cJ cZ x1 (1 : Int32) (4 : Int32) _ _ h) [] rfl (by decide) gX12_search_X12_isIn rfl rfl rfl hd_X12_isIn ⟨Nat.le_of_ble_eq_true rfl, Nat.le_of_ble_eq_true rfl⟩ rfl hl.1 rfl (Nat.le_of_ble_eq_true rfl) dX12_search_3 ⟨Nat.le_of_ble_eq_true rfl, Nat.le_of_ble_eq_true rfl⟩) (fun _ => [(h0, .inr (11, oX12 r0 I_0_isFound I_0_foundB I_0_changes I_0_taped I_0_size I_0_at I_0_signs I_0_wanted I_0_sign I_0_isKept I_0_keptFound I_0_keptB I_0_keptChanges)), ((r0 0), .inl (cI, 5, .inl A_0_0_f)), ((r0 4), .inl (cI, 75, .inl A_0_4_foundNumbers)), ((r0 5), .inl (cI, 9, .inl A_0_5_b)), ((r0 6), .inl (cI, 125, .inl A_0_6_powers)), ((r0 7), .inl (cI, 1125, .inl A_0_7_lefts)), ((r0 8), .inl (cI, 225, .inl A_0_8_cells)), ((r0 10), .inl (cI, 18900, .inl A_0_10_table)), ((r0 11), .inl (cI, 84, .inl A_0_11_owners)), ((r0 12), .inl (cI, 84, .inl A_0_12_pivots))]) (fun _ => rfl) (fun _ => rfl) (fun y9 _ H locs h hM => ?_)
  refine lv_if_eq (tgt := 27) hx hb dX12_search_6 (by decide) (fun hq => ?_) (fun hq => ?_)
  · have h := h.1 hq
    refine lv_bipush (v := (-2 : Int32)) hx hb dX12_search_27 (by decide) ?_
    subst hsz; subst hA; subst hQ
    exact m_iret C0 hr hM (I_0_isFound, I_0_foundB, A_0_4_foundNumbers, A_0_5_b, A_0_6_powers, A_0_7_lefts, A_0_8_cells, A_0_10_table, A_0_11_owners, A_0_12_pivots) h rfl dX12_search_29
  · have h := h.2 hq
    refine lv_iload_n hx hb dX12_search_9 rfl (lv_at hl 2 rfl) ?_
    refine lv_iconst (v := (0 : Int32)) hx hb dX12_search_10 (by decide) ?_
    refine lv_iconst (v := (4 : Int32)) hx hb dX12_search_11 (by decide) ?_
    refine m_calli (wc := []) C0 hM [] rfl (m_runS (wc := []) (As := [.int x2, .int (0 : Int32), .int (4 : Int32)]) (rest := []) C0 hM (ct_X12_isIn l D cI cJ cZ x2 (0 : Int32) (4 : Int32) _ _ h) [] rfl (by decide) gX12_search_X12_isIn rfl rfl rfl hd_X12_isIn ⟨Nat.le_of_ble_eq_true rfl, Nat.le_of_ble_eq_true rfl⟩ rfl hl.1 rfl (Nat.le_of_ble_eq_true rfl) dX12_search_12 ⟨Nat.le_of_ble_eq_true rfl, Nat.le_of_ble_eq_true rfl⟩) (fun _ => [(h0, .inr (11, oX12 r0 I_0_isFound I_0_foundB I_0_changes I_0_taped I_0_size I_0_at I_0_signs I_0_wanted I_0_sign I_0_isKept I_0_keptFound I_0_keptB I_0_keptChanges)), ((r0 0), .inl (cI, 5, .inl A_0_0_f)), ((r0 4), .inl (cI, 75, .inl A_0_4_foundNumbers)), ((r0 5), .inl (cI, 9, .inl A_0_5_b)), ((r0 6), .inl (cI, 125, .inl A_0_6_powers)), ((r0 7), .inl (cI, 1125, .inl A_0_7_lefts)), ((r0 8), .inl (cI, 225, .inl A_0_8_cells)), ((r0 10), .inl (cI, 18900, .inl A_0_10_table)), ((r0 11), .inl (cI, 84, .inl A_0_11_owners)), ((r0 12), .inl (cI, 84, .inl A_0_12_pivots))]) (fun _ => rfl) (fun _ => rfl) (fun y10 _ H locs h hM => ?_)
    refine lv_if_eq (tgt := 27) hx hb dX12_search_15 (by decide) (fun hq => ?_) (fun hq => ?_)
    · have h := h.1 hq
      refine lv_bipush (v := (-2 : Int32)) hx hb dX12_search_27 (by decide) ?_
      subst hsz; subst hA; subst hQ
      exact m_iret C0 hr hM (I_0_isFound, I_0_foundB, A_0_4_foundNumbers, A_0_5_b, A_0_6_powers, A_0_7_lefts, A_0_8_cells, A_0_10_table, A_0_11_owners, A_0_12_pivots) h rfl dX12_search_29
    · have h := h.2 hq
      refine lv_iload_n hx hb dX12_search_18 rfl (lv_at hl 3 rfl) ?_
      refine lv_iconst (v := (0 : Int32)) hx hb dX12_search_19 (by decide) ?_
      refine lv_iconst (v := (2 : Int32)) hx hb dX12_search_20 (by decide) ?_
      refine m_calli (wc := []) C0 hM [] rfl (m_runS (wc := []) (As := [.int x3, .int (0 : Int32), .int (2 : Int32)]) (rest := []) C0 hM (ct_X12_isIn l D cI cJ cZ x3 (0 : Int32) (2 : Int32) _ _ h) [] rfl (by decide) gX12_search_X12_isIn rfl rfl rfl hd_X12_isIn ⟨Nat.le_of_ble_eq_true rfl, Nat.le_of_ble_eq_true rfl⟩ rfl hl.1 rfl (Nat.le_of_ble_eq_true rfl) dX12_search_21 ⟨Nat.le_of_ble_eq_true rfl, Nat.le_of_ble_eq_true rfl⟩) (fun _ => [(h0, .inr (11, oX12 r0 I_0_isFound I_0_foundB I_0_changes I_0_taped I_0_size I_0_at I_0_signs I_0_wanted I_0_sign I_0_isKept I_0_keptFound I_0_keptB I_0_keptChanges)), ((r0 0), .inl (cI, 5, .inl A_0_0_f)), ((r0 4), .inl (cI, 75, .inl A_0_4_foundNumbers)), ((r0 5), .inl (cI, 9, .inl A_0_5_b)), ((r0 6), .inl (cI, 125, .inl A_0_6_powers)), ((r0 7), .inl (cI, 1125, .inl A_0_7_lefts)), ((r0 8), .inl (cI, 225, .inl A_0_8_cells)), ((r0 10), .inl (cI, 18900, .inl A_0_10_table)), ((r0 11), .inl (cI, 84, .inl A_0_11_owners)), ((r0 12), .inl (cI, 84, .inl A_0_12_pivots))]) (fun _ => rfl) (fun _ => rfl) (fun y11 _ H locs h hM => ?_)
      refine lv_if_ne (tgt := 30) hx hb dX12_search_24 (by decide) (fun hq => ?_) (fun hq => ?_)
      · have h := h.1 hq
        refine lv_aload_n hx hb dX12_search_30 rfl (lv_at hl 0 rfl) ?_
        refine m_calli (wc := [(h0, .inr (11, oX12 r0 I_0_isFound I_0_foundB I_0_changes I_0_taped I_0_size I_0_at I_0_signs I_0_wanted I_0_sign I_0_isKept I_0_keptFound I_0_keptB I_0_keptChanges)), ((r0 0), .inl (cI, 5, .inl A_0_0_f))]) C0 hM [0, 1] rfl (m_runV (wc := [(h0, .inr (11, oX12 r0 I_0_isFound I_0_foundB I_0_changes I_0_taped I_0_size I_0_at I_0_signs I_0_wanted I_0_sign I_0_isKept I_0_keptFound I_0_keptB I_0_keptChanges)), ((r0 0), .inl (cI, 5, .inl A_0_0_f))]) (As := []) (rest := []) (ci := 11) C0 hM (ct_X12_degreeOf l D cI cJ cZ h0 r0 I_0_isFound I_0_foundB I_0_changes I_0_taped I_0_size I_0_at I_0_signs I_0_wanted I_0_sign I_0_isKept I_0_keptFound I_0_keptB I_0_keptChanges A_0_0_f _ _ h) [0, 1] rfl (by decide) gX12_search_X12_degreeOf rfl rfl rfl rfl rfl hd_X12_degreeOf ⟨Nat.le_of_ble_eq_true rfl, Nat.le_of_ble_eq_true rfl⟩ rfl hl.1 rfl (Nat.le_of_ble_eq_true rfl) dX12_search_31 ⟨Nat.le_of_ble_eq_true rfl, Nat.le_of_ble_eq_true rfl⟩) (fun _ => [(h0, .inr (11, oX12 r0 I_0_isFound I_0_foundB I_0_changes I_0_taped I_0_size I_0_at I_0_signs I_0_wanted I_0_sign I_0_isKept I_0_keptFound I_0_keptB I_0_keptChanges)), ((r0 0), .inl (cI, 5, .inl A_0_0_f)), ((r0 4), .inl (cI, 75, .inl A_0_4_foundNumbers)), ((r0 5), .inl (cI, 9, .inl A_0_5_b)), ((r0 6), .inl (cI, 125, .inl A_0_6_powers)), ((r0 7), .inl (cI, 1125, .inl A_0_7_lefts)), ((r0 8), .inl (cI, 225, .inl A_0_8_cells)), ((r0 10), .inl (cI, 18900, .inl A_0_10_table)), ((r0 11), .inl (cI, 84, .inl A_0_11_owners)), ((r0 12), .inl (cI, 84, .inl A_0_12_pivots))]) (fun _ => rfl) (fun _ => rfl) (fun y12 _ H locs h hM => ?_)
        refine lv_iconst (v := (1 : Int32)) hx hb dX12_search_34 (by decide) ?_
        refine lv_icmp_ge (tgt := 41) hx hb dX12_search_35 (by decide) (fun hq => ?_) (fun hq => ?_)
        · have h := h.1 hq
          refine lv_aload_n hx hb dX12_search_41 rfl (lv_at hl 0 rfl) ?_
          refine lv_iload_n hx hb dX12_search_42 rfl (lv_at hl 1 rfl) ?_
          refine lv_iload_n hx hb dX12_search_43 rfl (lv_at hl 2 rfl) ?_
          refine lv_iload_n hx hb dX12_search_44 rfl (lv_at hl 3 rfl) ?_
          refine m_calli (wc := [(h0, .inr (11, oX12 r0 I_0_isFound I_0_foundB I_0_changes I_0_taped I_0_size I_0_at I_0_signs I_0_wanted I_0_sign I_0_isKept I_0_keptFound I_0_keptB I_0_keptChanges)), ((r0 0), .inl (cI, 5, .inl A_0_0_f)), ((r0 6), .inl (cI, 125, .inl A_0_6_powers)), ((r0 7), .inl (cI, 1125, .inl A_0_7_lefts)), ((r0 8), .inl (cI, 225, .inl A_0_8_cells)), ((r0 10), .inl (cI, 18900, .inl A_0_10_table)), ((r0 11), .inl (cI, 84, .inl A_0_11_owners))]) C0 hM [0, 1, 4, 5, 6, 7, 8] rfl (m_runV (wc := [(h0, .inr (11, oX12 r0 I_0_isFound I_0_foundB I_0_changes I_0_taped I_0_size I_0_at I_0_signs I_0_wanted I_0_sign I_0_isKept I_0_keptFound I_0_keptB I_0_keptChanges)), ((r0 0), .inl (cI, 5, .inl A_0_0_f)), ((r0 6), .inl (cI, 125, .inl A_0_6_powers)), ((r0 7), .inl (cI, 1125, .inl A_0_7_lefts)), ((r0 8), .inl (cI, 225, .inl A_0_8_cells)), ((r0 10), .inl (cI, 18900, .inl A_0_10_table)), ((r0 11), .inl (cI, 84, .inl A_0_11_owners))]) (As := [.int x1, .int x2, .int x3]) (rest := []) (ci := 11) C0 hM (ct_X12_laysColumns l D cI cJ cZ h0 r0 I_0_isFound I_0_foundB I_0_changes I_0_taped I_0_size I_0_at I_0_signs I_0_wanted I_0_sign I_0_isKept I_0_keptFound I_0_keptB I_0_keptChanges A_0_0_f A_0_6_powers A_0_7_lefts A_0_8_cells A_0_10_table A_0_11_owners x1 x2 x3 _ _ h) [0, 1, 4, 5, 6, 7, 8] rfl (by decide) gX12_search_X12_laysColumns rfl rfl rfl rfl rfl hd_X12_laysColumns ⟨Nat.le_of_ble_eq_true rfl, Nat.le_of_ble_eq_true rfl⟩ rfl hl.1 rfl (Nat.le_of_ble_eq_true rfl) dX12_search_45 ⟨Nat.le_of_ble_eq_true rfl, Nat.le_of_ble_eq_true rfl⟩) (fun u => [(h0, .inr (11, oX12 r0 I_0_isFound I_0_foundB I_0_changes I_0_taped I_0_size I_0_at I_0_signs I_0_wanted I_0_sign I_0_isKept I_0_keptFound I_0_keptB I_0_keptChanges)), ((r0 0), .inl (cI, 5, .inl A_0_0_f)), ((r0 4), .inl (cI, 75, .inl A_0_4_foundNumbers)), ((r0 5), .inl (cI, 9, .inl A_0_5_b)), ((r0 6), .inl (cI, 125, .inl u.1)), ((r0 7), .inl (cI, 1125, .inl u.2.1)), ((r0 8), .inl (cI, 225, .inl u.2.2.1)), ((r0 10), .inl (cI, 18900, .inl u.2.2.2.1)), ((r0 11), .inl (cI, 84, .inl u.2.2.2.2)), ((r0 12), .inl (cI, 84, .inl A_0_12_pivots))]) (fun _ => rfl) (fun _ => rfl) (fun y13 u H locs h hM => ?_)
          obtain ⟨b14, b15, b16, b17, b18⟩ := u
          dsimp only at h
          have hM : MW D A s.heap [(h0, .inr (11, oX12 r0 I_0_isFound I_0_foundB I_0_changes I_0_taped I_0_size I_0_at I_0_signs I_0_wanted I_0_sign I_0_isKept I_0_keptFound I_0_keptB I_0_keptChanges)), ((r0 0), .inl (cI, 5, .inl A_0_0_f)), ((r0 4), .inl (cI, 75, .inl A_0_4_foundNumbers)), ((r0 5), .inl (cI, 9, .inl A_0_5_b)), ((r0 6), .inl (cI, 125, .inl b14)), ((r0 7), .inl (cI, 1125, .inl b15)), ((r0 8), .inl (cI, 225, .inl b16)), ((r0 10), .inl (cI, 18900, .inl b17)), ((r0 11), .inl (cI, 84, .inl b18)), ((r0 12), .inl (cI, 84, .inl A_0_12_pivots))] H locs := hM
          refine lv_istore (lv' := [(4, .int y13), (0, .ref h0), (1, .int x1), (2, .int x2), (3, .int x3)]) hx hb dX12_search_48 hl (by decide) rfl (fun ls hl => ?_)
          refine lv_aload_n hx hb dX12_search_50 rfl (lv_at hl 1 rfl) ?_
          refine lv_iconst (v := (0 : Int32)) hx hb dX12_search_51 (by decide) ?_
          refine m_put (ws' := [(h0, .inr (11, oX12 r0 (0 : Int32) I_0_foundB I_0_changes I_0_taped I_0_size I_0_at I_0_signs I_0_wanted I_0_sign I_0_isKept I_0_keptFound I_0_keptB I_0_keptChanges)), ((r0 0), .inl (cI, 5, .inl A_0_0_f)), ((r0 4), .inl (cI, 75, .inl A_0_4_foundNumbers)), ((r0 5), .inl (cI, 9, .inl A_0_5_b)), ((r0 6), .inl (cI, 125, .inl b14)), ((r0 7), .inl (cI, 1125, .inl b15)), ((r0 8), .inl (cI, 225, .inl b16)), ((r0 10), .inl (cI, 18900, .inl b17)), ((r0 11), .inl (cI, 84, .inl b18)), ((r0 12), .inl (cI, 84, .inl A_0_12_pivots))]) (C := RX12) (T := TX12) (N := 45) (ci := 11) (ref := "LoweredPowersModel") (v := .int (0 : Int32)) C0 hM 0 rfl rfl kt_X12_search_X12 tyX12 tyX12_ok nmX12 2 (by decide) kw_X12_search_1 rfl rfl rfl rfl (Nat.le_of_ble_eq_true rfl) rfl dX12_search_52 (fun H locs hM => ?_)
          refine lv_iconst (v := (0 : Int32)) hx hb dX12_search_55 (by decide) ?_
          refine lv_istore (lv' := [(5, .int (0 : Int32)), (4, .int y13), (0, .ref h0), (1, .int x1), (2, .int x2), (3, .int x3)]) hx hb dX12_search_56 hl (by decide) rfl (fun ls hl => ?_)
          refine lv_iconst (v := (0 : Int32)) hx hb dX12_search_58 (by decide) ?_
          refine lv_istore (lv' := [(6, .int (0 : Int32)), (5, .int (0 : Int32)), (4, .int y13), (0, .ref h0), (1, .int x1), (2, .int x2), (3, .int x3)]) hx hb dX12_search_59 hl (by decide) rfl (fun ls hl => ?_)
          obtain ⟨k0, h⟩ := h
          exact lq61 k0 _ _ _ _ _ _ _ _ _ _ _ _ _ _ _ _ h hM (lv_sub hl [3, 2, 1, 0] rfl)
        · have h := h.2 hq
          refine lv_bipush (v := (-3 : Int32)) hx hb dX12_search_38 (by decide) ?_
          subst hsz; subst hA; subst hQ
          exact m_iret C0 hr hM (I_0_isFound, I_0_foundB, A_0_4_foundNumbers, A_0_5_b, A_0_6_powers, A_0_7_lefts, A_0_8_cells, A_0_10_table, A_0_11_owners, A_0_12_pivots) h rfl dX12_search_40
      · have h := h.2 hq
        refine lv_bipush (v := (-2 : Int32)) hx hb dX12_search_27 (by decide) ?_
        subst hsz; subst hA; subst hQ
        exact m_iret C0 hr hM (I_0_isFound, I_0_foundB, A_0_4_foundNumbers, A_0_5_b, A_0_6_powers, A_0_7_lefts, A_0_8_cells, A_0_10_table, A_0_11_owners, A_0_12_pivots) h rfl dX12_search_29
abbrev rm_X12_found : Room := { frames := 2, cells := 0, slots := 0, locals := 40 }
set_option maxRecDepth 100000 in
set_option maxHeartbeats 4000000 in
theorem ct_X12_found (l : Launch) (D : va_G) (cI cJ cZ : ClassId) (h0 : Nat) (r0 : Nat → Nat) (I_0_isFound : Int32) (I_0_foundB : Int32) (I_0_changes : Int32) (I_0_taped : Int32) (I_0_size : Int32) (I_0_at : Int32) (I_0_signs : Int32) (I_0_wanted : Int32) (I_0_sign : Int32) (I_0_isKept : Int32) (I_0_keptFound : Int32) (I_0_keptB : Int32) (I_0_keptChanges : Int32) (A_0_5_b : (Nat → Int32)) (x1 : Int32) (sz : Nat) (K : Int32 → Prop) (h : wp_X12_found x1 I_0_isFound I_0_foundB A_0_5_b K) : Met l yX12_found wsX12_found rm_X12_found (va_Pc [.ref h0, .int x1] (WX D cI cJ cZ [(h0, .inr (11, oX12 r0 I_0_isFound I_0_foundB I_0_changes I_0_taped I_0_size I_0_at I_0_signs I_0_wanted I_0_sign I_0_isKept I_0_keptFound I_0_keptB I_0_keptChanges)), ((r0 5), .inl (cI, 9, .inl A_0_5_b))] sz)) (va_Qi (fun (r : Int32) (_ : Unit) => K r ) (fun (_ : Unit) t => WY D (va_A [(h0, .inr (11, oX12 r0 I_0_isFound I_0_foundB I_0_changes I_0_taped I_0_size I_0_at I_0_signs I_0_wanted I_0_sign I_0_isKept I_0_keptFound I_0_keptB I_0_keptChanges)), ((r0 5), .inl (cI, 9, .inl A_0_5_b))] sz) [(h0, .inr (11, oX12 r0 I_0_isFound I_0_foundB I_0_changes I_0_taped I_0_size I_0_at I_0_signs I_0_wanted I_0_sign I_0_isKept I_0_keptFound I_0_keptB I_0_keptChanges)), ((r0 5), .inl (cI, 9, .inl A_0_5_b))] t) (va_A [(h0, .inr (11, oX12 r0 I_0_isFound I_0_foundB I_0_changes I_0_taped I_0_size I_0_at I_0_signs I_0_wanted I_0_sign I_0_isKept I_0_keptFound I_0_keptB I_0_keptChanges)), ((r0 5), .inl (cI, 9, .inl A_0_5_b))] sz)) 0 0 (va_A [(h0, .inr (11, oX12 r0 I_0_isFound I_0_foundB I_0_changes I_0_taped I_0_size I_0_at I_0_signs I_0_wanted I_0_sign I_0_isKept I_0_keptFound I_0_keptB I_0_keptChanges)), ((r0 5), .inl (cI, 9, .inl A_0_5_b))] sz) := by
  refine m_met (own := RX12) (cc := cX12_found) (maxL := 2) (ret := some .int) [.ref h0, .int x1] [(0, .ref h0), (1, .int x1)] (by decide) rfl rfl (Nat.le_of_ble_eq_true rfl) rfl ?_
  intro p e s m args below meth c Q A hQ hA C0 hr hnm hsz hM ls hl
  have hx := C0.1
  have hb := C0.2.1
  have hown := C0.2.2.2.1
  unfold wp_X12_found at h
  refine lv_aload_n hx hb dX12_found_0 rfl (lv_at hl 0 rfl) ?_
  refine m_get (C := RX12) (T := TX12) (N := 45) (ci := 11) (ref := "LoweredPowersModel") (v := .int I_0_isFound) C0 hM 0 rfl rfl kt_X12_found_X12 2 (by decide) kw_X12_found_1 rfl rfl dX12_found_1 ?_
  refine lv_if_ne (tgt := 10) hx hb dX12_found_4 (by decide) (fun hq => ?_) (fun hq => ?_)
  · have h := h.1 hq
    refine lv_iload_n hx hb dX12_found_10 rfl (lv_at hl 1 rfl) ?_
    refine lv_iconst (v := (-1 : Int32)) hx hb dX12_found_11 (by decide) ?_
    refine lv_aload_n hx hb dX12_found_12 rfl (lv_at hl 0 rfl) ?_
    refine m_get (C := RX12) (T := TX12) (N := 45) (ci := 11) (ref := "LoweredPowersModel") (v := .int I_0_foundB) C0 hM 0 rfl rfl kt_X12_found_X12 3 (by decide) kw_X12_found_2 rfl rfl dX12_found_13 ?_
    refine m_calli (wc := []) C0 hM [] rfl (m_runS (wc := []) (As := [.int x1, .int (-1 : Int32), .int I_0_foundB]) (rest := []) C0 hM (ct_X12_isIn l D cI cJ cZ x1 (-1 : Int32) I_0_foundB _ _ h) [] rfl (by decide) gX12_found_X12_isIn rfl rfl rfl hd_X12_isIn ⟨Nat.le_of_ble_eq_true rfl, Nat.le_of_ble_eq_true rfl⟩ rfl hl.1 rfl (Nat.le_of_ble_eq_true rfl) dX12_found_16 ⟨Nat.le_of_ble_eq_true rfl, Nat.le_of_ble_eq_true rfl⟩) (fun _ => [(h0, .inr (11, oX12 r0 I_0_isFound I_0_foundB I_0_changes I_0_taped I_0_size I_0_at I_0_signs I_0_wanted I_0_sign I_0_isKept I_0_keptFound I_0_keptB I_0_keptChanges)), ((r0 5), .inl (cI, 9, .inl A_0_5_b))]) (fun _ => rfl) (fun _ => rfl) (fun y1 _ H locs h hM => ?_)
    refine lv_if_ne (tgt := 24) hx hb dX12_found_19 (by decide) (fun hq => ?_) (fun hq => ?_)
    · have h := h.1 hq
      refine lv_iload_n hx hb dX12_found_24 rfl (lv_at hl 1 rfl) ?_
      refine lv_iconst (v := (-1 : Int32)) hx hb dX12_found_25 (by decide) ?_
      refine lv_icmp_ne (tgt := 36) hx hb dX12_found_26 (by decide) (fun hq => ?_) (fun hq => ?_)
      · have h := h.1 hq
        refine lv_aload_n hx hb dX12_found_36 rfl (lv_at hl 0 rfl) ?_
        refine m_get (C := RX12) (T := TX12) (N := 45) (ci := 11) (ref := "LoweredPowersModel") (v := .ref (r0 5)) C0 hM 0 rfl rfl kt_X12_found_X12 5 (by decide) kw_X12_found_3 rfl rfl dX12_found_37 ?_
        refine lv_iload_n hx hb dX12_found_40 rfl (lv_at hl 1 rfl) ?_
        obtain ⟨hc2, h⟩ := h
        refine m_iald C0 hM 1 rfl hc2 dX12_found_41 ?_
        refine m_calli (wc := []) C0 hM [] rfl (m_runS (wc := []) (As := [.int (A_0_5_b (x1).toNatClampNeg)]) (rest := []) C0 hM (ct_X12_told l D cI cJ cZ (A_0_5_b (x1).toNatClampNeg) _ _ h) [] rfl (by decide) gX12_found_X12_told rfl rfl rfl hd_X12_told ⟨Nat.le_of_ble_eq_true rfl, Nat.le_of_ble_eq_true rfl⟩ rfl hl.1 rfl (Nat.le_of_ble_eq_true rfl) dX12_found_42 ⟨Nat.le_of_ble_eq_true rfl, Nat.le_of_ble_eq_true rfl⟩) (fun _ => [(h0, .inr (11, oX12 r0 I_0_isFound I_0_foundB I_0_changes I_0_taped I_0_size I_0_at I_0_signs I_0_wanted I_0_sign I_0_isKept I_0_keptFound I_0_keptB I_0_keptChanges)), ((r0 5), .inl (cI, 9, .inl A_0_5_b))]) (fun _ => rfl) (fun _ => rfl) (fun y3 _ H locs h hM => ?_)
        subst hsz; subst hA; subst hQ
        exact m_iret C0 hr hM () h rfl dX12_found_45
      · have h := h.2 hq
        refine lv_aload_n hx hb dX12_found_29 rfl (lv_at hl 0 rfl) ?_
        refine m_get (C := RX12) (T := TX12) (N := 45) (ci := 11) (ref := "LoweredPowersModel") (v := .int I_0_foundB) C0 hM 0 rfl rfl kt_X12_found_X12 3 (by decide) kw_X12_found_2 rfl rfl dX12_found_30 ?_
        refine lv_goto (tgt := 45) hx hb dX12_found_33 (by decide) ?_
        subst hsz; subst hA; subst hQ
        exact m_iret C0 hr hM () h rfl dX12_found_45
    · have h := h.2 hq
      refine lv_iconst (v := (-1 : Int32)) hx hb dX12_found_22 (by decide) ?_
      subst hsz; subst hA; subst hQ
      exact m_iret C0 hr hM () h rfl dX12_found_23
  · have h := h.2 hq
    refine lv_bipush (v := (-3 : Int32)) hx hb dX12_found_7 (by decide) ?_
    subst hsz; subst hA; subst hQ
    exact m_iret C0 hr hM () h rfl dX12_found_9
abbrev rm_X12_foundOf : Room := { frames := 2, cells := 0, slots := 0, locals := 44 }
set_option maxRecDepth 100000 in
set_option maxHeartbeats 4000000 in
theorem ct_X12_foundOf (l : Launch) (D : va_G) (cI cJ cZ : ClassId) (h0 : Nat) (r0 : Nat → Nat) (I_0_isFound : Int32) (I_0_foundB : Int32) (I_0_changes : Int32) (I_0_taped : Int32) (I_0_size : Int32) (I_0_at : Int32) (I_0_signs : Int32) (I_0_wanted : Int32) (I_0_sign : Int32) (I_0_isKept : Int32) (I_0_keptFound : Int32) (I_0_keptB : Int32) (I_0_keptChanges : Int32) (A_0_4_foundNumbers : (Nat → Int32)) (x1 : Int32) (x2 : Int32) (x3 : Int32) (sz : Nat) (K : Int32 → Prop) (h : wp_X12_foundOf x1 x2 x3 I_0_isFound A_0_4_foundNumbers K) : Met l yX12_foundOf wsX12_foundOf rm_X12_foundOf (va_Pc [.ref h0, .int x1, .int x2, .int x3] (WX D cI cJ cZ [(h0, .inr (11, oX12 r0 I_0_isFound I_0_foundB I_0_changes I_0_taped I_0_size I_0_at I_0_signs I_0_wanted I_0_sign I_0_isKept I_0_keptFound I_0_keptB I_0_keptChanges)), ((r0 4), .inl (cI, 75, .inl A_0_4_foundNumbers))] sz)) (va_Qi (fun (r : Int32) (_ : Unit) => K r ) (fun (_ : Unit) t => WY D (va_A [(h0, .inr (11, oX12 r0 I_0_isFound I_0_foundB I_0_changes I_0_taped I_0_size I_0_at I_0_signs I_0_wanted I_0_sign I_0_isKept I_0_keptFound I_0_keptB I_0_keptChanges)), ((r0 4), .inl (cI, 75, .inl A_0_4_foundNumbers))] sz) [(h0, .inr (11, oX12 r0 I_0_isFound I_0_foundB I_0_changes I_0_taped I_0_size I_0_at I_0_signs I_0_wanted I_0_sign I_0_isKept I_0_keptFound I_0_keptB I_0_keptChanges)), ((r0 4), .inl (cI, 75, .inl A_0_4_foundNumbers))] t) (va_A [(h0, .inr (11, oX12 r0 I_0_isFound I_0_foundB I_0_changes I_0_taped I_0_size I_0_at I_0_signs I_0_wanted I_0_sign I_0_isKept I_0_keptFound I_0_keptB I_0_keptChanges)), ((r0 4), .inl (cI, 75, .inl A_0_4_foundNumbers))] sz)) 0 0 (va_A [(h0, .inr (11, oX12 r0 I_0_isFound I_0_foundB I_0_changes I_0_taped I_0_size I_0_at I_0_signs I_0_wanted I_0_sign I_0_isKept I_0_keptFound I_0_keptB I_0_keptChanges)), ((r0 4), .inl (cI, 75, .inl A_0_4_foundNumbers))] sz) := by
  refine m_met (own := RX12) (cc := cX12_foundOf) (maxL := 4) (ret := some .int) [.ref h0, .int x1, .int x2, .int x3] [(0, .ref h0), (1, .int x1), (2, .int x2), (3, .int x3)] (by decide) rfl rfl (Nat.le_of_ble_eq_true rfl) rfl ?_
  intro p e s m args below meth c Q A hQ hA C0 hr hnm hsz hM ls hl
  have hx := C0.1
  have hb := C0.2.1
  have hown := C0.2.2.2.1
  unfold wp_X12_foundOf at h
  refine lv_iload_n hx hb dX12_foundOf_0 rfl (lv_at hl 1 rfl) ?_
  refine lv_iload_n hx hb dX12_foundOf_1 rfl (lv_at hl 2 rfl) ?_
  refine lv_iload_n hx hb dX12_foundOf_2 rfl (lv_at hl 3 rfl) ?_
  refine m_calli (wc := []) C0 hM [] rfl (m_runS (wc := []) (As := [.int x1, .int x2, .int x3]) (rest := []) C0 hM (ct_X12_isNumber l D cI cJ cZ x1 x2 x3 _ _ h) [] rfl (by decide) gX12_foundOf_X12_isNumber rfl rfl rfl hd_X12_isNumber ⟨Nat.le_of_ble_eq_true rfl, Nat.le_of_ble_eq_true rfl⟩ rfl hl.1 rfl (Nat.le_of_ble_eq_true rfl) dX12_foundOf_3 ⟨Nat.le_of_ble_eq_true rfl, Nat.le_of_ble_eq_true rfl⟩) (fun _ => [(h0, .inr (11, oX12 r0 I_0_isFound I_0_foundB I_0_changes I_0_taped I_0_size I_0_at I_0_signs I_0_wanted I_0_sign I_0_isKept I_0_keptFound I_0_keptB I_0_keptChanges)), ((r0 4), .inl (cI, 75, .inl A_0_4_foundNumbers))]) (fun _ => rfl) (fun _ => rfl) (fun y1 _ H locs h hM => ?_)
  refine lv_if_ne (tgt := 11) hx hb dX12_foundOf_6 (by decide) (fun hq => ?_) (fun hq => ?_)
  · have h := h.1 hq
    refine lv_aload_n hx hb dX12_foundOf_11 rfl (lv_at hl 0 rfl) ?_
    refine m_get (C := RX12) (T := TX12) (N := 45) (ci := 11) (ref := "LoweredPowersModel") (v := .int I_0_isFound) C0 hM 0 rfl rfl kt_X12_foundOf_X12 2 (by decide) kw_X12_foundOf_1 rfl rfl dX12_foundOf_12 ?_
    refine lv_if_eq (tgt := 35) hx hb dX12_foundOf_15 (by decide) (fun hq => ?_) (fun hq => ?_)
    · have h := h.1 hq
      refine lv_bipush (v := (-3 : Int32)) hx hb dX12_foundOf_35 (by decide) ?_
      subst hsz; subst hA; subst hQ
      exact m_iret C0 hr hM () h rfl dX12_foundOf_37
    · have h := h.2 hq
      refine lv_aload_n hx hb dX12_foundOf_18 rfl (lv_at hl 0 rfl) ?_
      refine m_get (C := RX12) (T := TX12) (N := 45) (ci := 11) (ref := "LoweredPowersModel") (v := .ref (r0 4)) C0 hM 0 rfl rfl kt_X12_foundOf_X12 4 (by decide) kw_X12_foundOf_2 rfl rfl dX12_foundOf_19 ?_
      refine lv_iload_n hx hb dX12_foundOf_22 rfl (lv_at hl 1 rfl) ?_
      refine lv_iload_n hx hb dX12_foundOf_23 rfl (lv_at hl 2 rfl) ?_
      refine lv_iload_n hx hb dX12_foundOf_24 rfl (lv_at hl 3 rfl) ?_
      refine m_calli (wc := []) C0 hM [] rfl (m_runS (wc := []) (As := [.int x1, .int x2, .int x3]) (rest := [.ref (r0 4)]) C0 hM (ct_X12_placeOf l D cI cJ cZ x1 x2 x3 _ _ h) [] rfl (by decide) gX12_foundOf_X12_placeOf rfl rfl rfl hd_X12_placeOf ⟨Nat.le_of_ble_eq_true rfl, Nat.le_of_ble_eq_true rfl⟩ rfl hl.1 rfl (Nat.le_of_ble_eq_true rfl) dX12_foundOf_25 ⟨Nat.le_of_ble_eq_true rfl, Nat.le_of_ble_eq_true rfl⟩) (fun _ => [(h0, .inr (11, oX12 r0 I_0_isFound I_0_foundB I_0_changes I_0_taped I_0_size I_0_at I_0_signs I_0_wanted I_0_sign I_0_isKept I_0_keptFound I_0_keptB I_0_keptChanges)), ((r0 4), .inl (cI, 75, .inl A_0_4_foundNumbers))]) (fun _ => rfl) (fun _ => rfl) (fun y2 _ H locs h hM => ?_)
      obtain ⟨hc3, h⟩ := h
      refine m_iald C0 hM 1 rfl hc3 dX12_foundOf_28 ?_
      refine m_calli (wc := []) C0 hM [] rfl (m_runS (wc := []) (As := [.int (A_0_4_foundNumbers (y2).toNatClampNeg)]) (rest := []) C0 hM (ct_X12_told l D cI cJ cZ (A_0_4_foundNumbers (y2).toNatClampNeg) _ _ h) [] rfl (by decide) gX12_foundOf_X12_told rfl rfl rfl hd_X12_told ⟨Nat.le_of_ble_eq_true rfl, Nat.le_of_ble_eq_true rfl⟩ rfl hl.1 rfl (Nat.le_of_ble_eq_true rfl) dX12_foundOf_29 ⟨Nat.le_of_ble_eq_true rfl, Nat.le_of_ble_eq_true rfl⟩) (fun _ => [(h0, .inr (11, oX12 r0 I_0_isFound I_0_foundB I_0_changes I_0_taped I_0_size I_0_at I_0_signs I_0_wanted I_0_sign I_0_isKept I_0_keptFound I_0_keptB I_0_keptChanges)), ((r0 4), .inl (cI, 75, .inl A_0_4_foundNumbers))]) (fun _ => rfl) (fun _ => rfl) (fun y4 _ H locs h hM => ?_)
      refine lv_goto (tgt := 37) hx hb dX12_foundOf_32 (by decide) ?_
      subst hsz; subst hA; subst hQ
      exact m_iret C0 hr hM () h rfl dX12_foundOf_37
  · have h := h.2 hq
    refine lv_iconst (v := (-1 : Int32)) hx hb dX12_foundOf_9 (by decide) ?_
    subst hsz; subst hA; subst hQ
    exact m_iret C0 hr hM () h rfl dX12_foundOf_10
abbrev rm_X12_take : Room := { frames := 1, cells := 0, slots := 0, locals := 22 }
set_option maxRecDepth 100000 in
set_option maxHeartbeats 4000000 in
theorem ct_X12_take (l : Launch) (D : va_G) (cI cJ cZ : ClassId) (h0 : Nat) (r0 : Nat → Nat) (I_0_isFound : Int32) (I_0_foundB : Int32) (I_0_changes : Int32) (I_0_taped : Int32) (I_0_size : Int32) (I_0_at : Int32) (I_0_signs : Int32) (I_0_wanted : Int32) (I_0_sign : Int32) (I_0_isKept : Int32) (I_0_keptFound : Int32) (I_0_keptB : Int32) (I_0_keptChanges : Int32) (A_0_1_operator : (Nat → Int32)) (A_0_4_foundNumbers : (Nat → Int32)) (sz : Nat) (K : Int32 → (Nat → Int32) → Prop) (h : wp_X12_take I_0_isFound A_0_1_operator A_0_4_foundNumbers K) : Met l yX12_take wsX12_take rm_X12_take (va_Pc [.ref h0] (WX D cI cJ cZ [(h0, .inr (11, oX12 r0 I_0_isFound I_0_foundB I_0_changes I_0_taped I_0_size I_0_at I_0_signs I_0_wanted I_0_sign I_0_isKept I_0_keptFound I_0_keptB I_0_keptChanges)), ((r0 1), .inl (cI, 75, .inl A_0_1_operator)), ((r0 4), .inl (cI, 75, .inl A_0_4_foundNumbers))] sz)) (va_Qi (fun (r : Int32) (u : (Nat → Int32)) => K r u) (fun (u : (Nat → Int32)) t => WY D (va_A [(h0, .inr (11, oX12 r0 I_0_isFound I_0_foundB I_0_changes I_0_taped I_0_size I_0_at I_0_signs I_0_wanted I_0_sign I_0_isKept I_0_keptFound I_0_keptB I_0_keptChanges)), ((r0 1), .inl (cI, 75, .inl A_0_1_operator)), ((r0 4), .inl (cI, 75, .inl A_0_4_foundNumbers))] sz) [(h0, .inr (11, oX12 r0 I_0_isFound I_0_foundB I_0_changes I_0_taped I_0_size I_0_at I_0_signs I_0_wanted I_0_sign I_0_isKept I_0_keptFound I_0_keptB I_0_keptChanges)), ((r0 1), .inl (cI, 75, .inl u)), ((r0 4), .inl (cI, 75, .inl A_0_4_foundNumbers))] t) (va_A [(h0, .inr (11, oX12 r0 I_0_isFound I_0_foundB I_0_changes I_0_taped I_0_size I_0_at I_0_signs I_0_wanted I_0_sign I_0_isKept I_0_keptFound I_0_keptB I_0_keptChanges)), ((r0 1), .inl (cI, 75, .inl A_0_1_operator)), ((r0 4), .inl (cI, 75, .inl A_0_4_foundNumbers))] sz)) 0 0 (va_A [(h0, .inr (11, oX12 r0 I_0_isFound I_0_foundB I_0_changes I_0_taped I_0_size I_0_at I_0_signs I_0_wanted I_0_sign I_0_isKept I_0_keptFound I_0_keptB I_0_keptChanges)), ((r0 1), .inl (cI, 75, .inl A_0_1_operator)), ((r0 4), .inl (cI, 75, .inl A_0_4_foundNumbers))] sz) := by
  refine m_met (own := RX12) (cc := cX12_take) (maxL := 2) (ret := some .int) [.ref h0] [(0, .ref h0)] (by decide) rfl rfl (Nat.le_of_ble_eq_true rfl) rfl ?_
  intro p e s m args below meth c Q A hQ hA C0 hr hnm hsz hM ls hl
  have hx := C0.1
  have hb := C0.2.1
  have hown := C0.2.2.2.1
  have jq36 : ∀ (A_0_1_operator : (Nat → Int32)) (H : Heap) (locs : List Loc) (ls : Array Slot) , jn_X12_take_36 I_0_isFound A_0_4_foundNumbers K A_0_1_operator → MW D A s.heap [(h0, .inr (11, oX12 r0 I_0_isFound I_0_foundB I_0_changes I_0_taped I_0_size I_0_at I_0_signs I_0_wanted I_0_sign I_0_isKept I_0_keptFound I_0_keptB I_0_keptChanges)), ((r0 1), .inl (cI, 75, .inl A_0_1_operator)), ((r0 4), .inl (cI, 75, .inl A_0_4_foundNumbers))] H locs → lv_has ls 2 [(0, .ref h0)] → W p l e rm_X12_take s m args below meth c H locs 0 0 Q (F0 m 36 ls []) := by
    intro A_0_1_operator H locs ls h hM hl
    unfold jn_X12_take_36 at h
    refine lv_aload_n hx hb dX12_take_36 rfl (lv_at hl 0 rfl) ?_
    refine m_calli (wc := [(h0, .inr (11, oX12 r0 I_0_isFound I_0_foundB I_0_changes I_0_taped I_0_size I_0_at I_0_signs I_0_wanted I_0_sign I_0_isKept I_0_keptFound I_0_keptB I_0_keptChanges)), ((r0 1), .inl (cI, 75, .inl A_0_1_operator))]) C0 hM [0, 1] rfl (m_runV (wc := [(h0, .inr (11, oX12 r0 I_0_isFound I_0_foundB I_0_changes I_0_taped I_0_size I_0_at I_0_signs I_0_wanted I_0_sign I_0_isKept I_0_keptFound I_0_keptB I_0_keptChanges)), ((r0 1), .inl (cI, 75, .inl A_0_1_operator))]) (As := []) (rest := []) (ci := 11) C0 hM (ct_X12_orderOf l D cI cJ cZ h0 r0 I_0_isFound I_0_foundB I_0_changes I_0_taped I_0_size I_0_at I_0_signs I_0_wanted I_0_sign I_0_isKept I_0_keptFound I_0_keptB I_0_keptChanges A_0_1_operator _ _ h) [0, 1] rfl (by decide) gX12_take_X12_orderOf rfl rfl rfl rfl rfl hd_X12_orderOf ⟨Nat.le_of_ble_eq_true rfl, Nat.le_of_ble_eq_true rfl⟩ rfl hl.1 rfl (Nat.le_of_ble_eq_true rfl) dX12_take_37 ⟨Nat.le_of_ble_eq_true rfl, Nat.le_of_ble_eq_true rfl⟩) (fun _ => [(h0, .inr (11, oX12 r0 I_0_isFound I_0_foundB I_0_changes I_0_taped I_0_size I_0_at I_0_signs I_0_wanted I_0_sign I_0_isKept I_0_keptFound I_0_keptB I_0_keptChanges)), ((r0 1), .inl (cI, 75, .inl A_0_1_operator)), ((r0 4), .inl (cI, 75, .inl A_0_4_foundNumbers))]) (fun _ => rfl) (fun _ => rfl) (fun y1 _ H locs h hM => ?_)
    subst hsz; subst hA; subst hQ
    exact m_iret C0 hr hM A_0_1_operator h rfl dX12_take_40
  have lq12 : ∀ (k12 : Nat) (x1 : Int32) (A_0_1_operator : (Nat → Int32)) (H : Heap) (locs : List Loc) (ls : Array Slot) , lp_X12_take_12 I_0_isFound A_0_4_foundNumbers (jn_X12_take_36 I_0_isFound A_0_4_foundNumbers K) K k12 x1 A_0_1_operator → MW D A s.heap [(h0, .inr (11, oX12 r0 I_0_isFound I_0_foundB I_0_changes I_0_taped I_0_size I_0_at I_0_signs I_0_wanted I_0_sign I_0_isKept I_0_keptFound I_0_keptB I_0_keptChanges)), ((r0 1), .inl (cI, 75, .inl A_0_1_operator)), ((r0 4), .inl (cI, 75, .inl A_0_4_foundNumbers))] H locs → lv_has ls 2 [(0, .ref h0), (1, .int x1)] → W p l e rm_X12_take s m args below meth c H locs 0 0 Q (F0 m 12 ls []) := by
    intro k12
    induction k12 with
    | zero =>
      intro x1 A_0_1_operator H locs ls h
      unfold lp_X12_take_12 at h
      exact h.elim
    | succ k12 ih12 =>
      intro x1 A_0_1_operator H locs ls h hM hl
      unfold lp_X12_take_12 at h
      refine lv_iload_n hx hb dX12_take_12 rfl (lv_at hl 1 rfl) ?_
      refine lv_bipush (v := (75 : Int32)) hx hb dX12_take_13 (by decide) ?_
      refine lv_icmp_ge (tgt := 36) hx hb dX12_take_15 (by decide) (fun hq => ?_) (fun hq => ?_)
      · have h := h.1 hq
        exact jq36 _ _ _ _ h hM (lv_sub hl [0] rfl)
      · have h := h.2 hq
        refine lv_aload_n hx hb dX12_take_18 rfl (lv_at hl 0 rfl) ?_
        refine m_get (C := RX12) (T := TX12) (N := 45) (ci := 11) (ref := "LoweredPowersModel") (v := .ref (r0 1)) C0 hM 0 rfl rfl kt_X12_take_X12 1 (by decide) kw_X12_take_2 rfl rfl dX12_take_19 ?_
        refine lv_iload_n hx hb dX12_take_22 rfl (lv_at hl 1 rfl) ?_
        refine lv_aload_n hx hb dX12_take_23 rfl (lv_at hl 0 rfl) ?_
        refine m_get (C := RX12) (T := TX12) (N := 45) (ci := 11) (ref := "LoweredPowersModel") (v := .ref (r0 4)) C0 hM 0 rfl rfl kt_X12_take_X12 4 (by decide) kw_X12_take_3 rfl rfl dX12_take_24 ?_
        refine lv_iload_n hx hb dX12_take_27 rfl (lv_at hl 1 rfl) ?_
        obtain ⟨hc2, h⟩ := h
        refine m_iald C0 hM 2 rfl hc2 dX12_take_28 ?_
        refine lv_topi (fun y3 ey3 => ?_)
        have h := h y3 ey3
        refine m_iast (ws' := [(h0, .inr (11, oX12 r0 I_0_isFound I_0_foundB I_0_changes I_0_taped I_0_size I_0_at I_0_signs I_0_wanted I_0_sign I_0_isKept I_0_keptFound I_0_keptB I_0_keptChanges)), ((r0 1), .inl (cI, 75, .inl (upd A_0_1_operator (x1).toNatClampNeg y3))), ((r0 4), .inl (cI, 75, .inl A_0_4_foundNumbers))]) C0 hM 1 rfl hc2 rfl dX12_take_29 (fun H locs hM => ?_)
        refine lv_iinc (v := (x1 + (1 : Int32))) (lv' := [(1, .int (x1 + (1 : Int32))), (0, .ref h0)]) hx hb dX12_take_30 hl (k := 1) rfl rfl (by decide) rfl (fun ls hl => ?_)
        refine lv_goto (tgt := 12) hx hb dX12_take_33 (by decide) ?_
        exact ih12 _ _ _ _ _ h hM (lv_sub hl [1, 0] rfl)
  unfold wp_X12_take at h
  refine lv_aload_n hx hb dX12_take_0 rfl (lv_at hl 0 rfl) ?_
  refine m_get (C := RX12) (T := TX12) (N := 45) (ci := 11) (ref := "LoweredPowersModel") (v := .int I_0_isFound) C0 hM 0 rfl rfl kt_X12_take_X12 2 (by decide) kw_X12_take_1 rfl rfl dX12_take_1 ?_
  refine lv_if_ne (tgt := 10) hx hb dX12_take_4 (by decide) (fun hq => ?_) (fun hq => ?_)
  · have h := h.1 hq
    refine lv_iconst (v := (0 : Int32)) hx hb dX12_take_10 (by decide) ?_
    refine lv_istore_n (lv' := [(1, .int (0 : Int32)), (0, .ref h0)]) hx hb dX12_take_11 rfl hl (by decide) rfl (fun ls hl => ?_)
    obtain ⟨k0, h⟩ := h
    exact lq12 k0 _ _ _ _ _ h hM (lv_sub hl [1, 0] rfl)
  · have h := h.2 hq
    refine lv_bipush (v := (-3 : Int32)) hx hb dX12_take_7 (by decide) ?_
    subst hsz; subst hA; subst hQ
    exact m_iret C0 hr hM A_0_1_operator h rfl dX12_take_9
abbrev rm_X12_howOften : Room := { frames := 2, cells := 0, slots := 0, locals := 42 }
set_option maxRecDepth 100000 in
set_option maxHeartbeats 4000000 in
theorem ct_X12_howOften (l : Launch) (D : va_G) (cI cJ cZ : ClassId) (h0 : Nat) (r0 : Nat → Nat) (I_0_isFound : Int32) (I_0_foundB : Int32) (I_0_changes : Int32) (I_0_taped : Int32) (I_0_size : Int32) (I_0_at : Int32) (I_0_signs : Int32) (I_0_wanted : Int32) (I_0_sign : Int32) (I_0_isKept : Int32) (I_0_keptFound : Int32) (I_0_keptB : Int32) (I_0_keptChanges : Int32) (A_0_5_b : (Nat → Int32)) (A_0_13_rests : (Nat → Int32)) (x1 : Int32) (sz : Nat) (K : Int32 → (Nat → Int32) → Prop) (h : wp_X12_howOften x1 I_0_foundB A_0_5_b A_0_13_rests K) : Met l yX12_howOften wsX12_howOften rm_X12_howOften (va_Pc [.ref h0, .int x1] (WX D cI cJ cZ [(h0, .inr (11, oX12 r0 I_0_isFound I_0_foundB I_0_changes I_0_taped I_0_size I_0_at I_0_signs I_0_wanted I_0_sign I_0_isKept I_0_keptFound I_0_keptB I_0_keptChanges)), ((r0 5), .inl (cI, 9, .inl A_0_5_b)), ((r0 13), .inl (cI, 9, .inl A_0_13_rests))] sz)) (va_Qi (fun (r : Int32) (u : (Nat → Int32)) => K r u) (fun (u : (Nat → Int32)) t => WY D (va_A [(h0, .inr (11, oX12 r0 I_0_isFound I_0_foundB I_0_changes I_0_taped I_0_size I_0_at I_0_signs I_0_wanted I_0_sign I_0_isKept I_0_keptFound I_0_keptB I_0_keptChanges)), ((r0 5), .inl (cI, 9, .inl A_0_5_b)), ((r0 13), .inl (cI, 9, .inl A_0_13_rests))] sz) [(h0, .inr (11, oX12 r0 I_0_isFound I_0_foundB I_0_changes I_0_taped I_0_size I_0_at I_0_signs I_0_wanted I_0_sign I_0_isKept I_0_keptFound I_0_keptB I_0_keptChanges)), ((r0 5), .inl (cI, 9, .inl A_0_5_b)), ((r0 13), .inl (cI, 9, .inl u))] t) (va_A [(h0, .inr (11, oX12 r0 I_0_isFound I_0_foundB I_0_changes I_0_taped I_0_size I_0_at I_0_signs I_0_wanted I_0_sign I_0_isKept I_0_keptFound I_0_keptB I_0_keptChanges)), ((r0 5), .inl (cI, 9, .inl A_0_5_b)), ((r0 13), .inl (cI, 9, .inl A_0_13_rests))] sz)) 0 0 (va_A [(h0, .inr (11, oX12 r0 I_0_isFound I_0_foundB I_0_changes I_0_taped I_0_size I_0_at I_0_signs I_0_wanted I_0_sign I_0_isKept I_0_keptFound I_0_keptB I_0_keptChanges)), ((r0 5), .inl (cI, 9, .inl A_0_5_b)), ((r0 13), .inl (cI, 9, .inl A_0_13_rests))] sz) := by
  refine m_met (own := RX12) (cc := cX12_howOften) (maxL := 8) (ret := some .int) [.ref h0, .int x1] [(0, .ref h0), (1, .int x1)] (by decide) rfl rfl (Nat.le_of_ble_eq_true rfl) rfl ?_
  intro p e s m args below meth c Q A hQ hA C0 hr hnm hsz hM ls hl
  have hx := C0.1
  have hb := C0.2.1
  have hown := C0.2.2.2.1
  have lq48 : ∀ (k48 : Nat) (x2 : Int32) (x3 : Int32) (x4 : Int32) (A_0_13_rests : (Nat → Int32)) (H : Heap) (locs : List Loc) (ls : Array Slot) , lp_X12_howOften_48 x1 I_0_foundB A_0_5_b K k48 x2 x3 x4 A_0_13_rests → MW D A s.heap [(h0, .inr (11, oX12 r0 I_0_isFound I_0_foundB I_0_changes I_0_taped I_0_size I_0_at I_0_signs I_0_wanted I_0_sign I_0_isKept I_0_keptFound I_0_keptB I_0_keptChanges)), ((r0 5), .inl (cI, 9, .inl A_0_5_b)), ((r0 13), .inl (cI, 9, .inl A_0_13_rests))] H locs → lv_has ls 8 [(0, .ref h0), (1, .int x1), (2, .int x2), (3, .int x3), (4, .int x4)] → W p l e rm_X12_howOften s m args below meth c H locs 0 0 Q (F0 m 48 ls []) := by
    intro k48
    induction k48 with
    | zero =>
      intro x2 x3 x4 A_0_13_rests H locs ls h
      unfold lp_X12_howOften_48 at h
      exact h.elim
    | succ k48 ih48 =>
      have jq189 : ∀ (x2 : Int32) (x3 : Int32) (x4 : Int32) (A_0_13_rests : (Nat → Int32)) (H : Heap) (locs : List Loc) (ls : Array Slot) , jn_X12_howOften_189 x1 I_0_foundB A_0_5_b (fun x2 x3 x4 A_0_13_rests => lp_X12_howOften_48 x1 I_0_foundB A_0_5_b K k48 x2 x3 x4 A_0_13_rests) K x2 x3 x4 A_0_13_rests → MW D A s.heap [(h0, .inr (11, oX12 r0 I_0_isFound I_0_foundB I_0_changes I_0_taped I_0_size I_0_at I_0_signs I_0_wanted I_0_sign I_0_isKept I_0_keptFound I_0_keptB I_0_keptChanges)), ((r0 5), .inl (cI, 9, .inl A_0_5_b)), ((r0 13), .inl (cI, 9, .inl A_0_13_rests))] H locs → lv_has ls 8 [(0, .ref h0), (1, .int x1), (2, .int x2), (3, .int x3), (4, .int x4)] → W p l e rm_X12_howOften s m args below meth c H locs 0 0 Q (F0 m 189 ls []) := by
        intro x2 x3 x4 A_0_13_rests H locs ls h hM hl
        unfold jn_X12_howOften_189 at h
        refine lv_aload_n hx hb dX12_howOften_189 rfl (lv_at hl 0 rfl) ?_
        refine m_get (C := RX12) (T := TX12) (N := 45) (ci := 11) (ref := "LoweredPowersModel") (v := .ref (r0 13)) C0 hM 0 rfl rfl kt_X12_howOften_X12 13 (by decide) kw_X12_howOften_1 rfl rfl dX12_howOften_190 ?_
        refine lv_iload_n hx hb dX12_howOften_193 rfl (lv_at hl 3 rfl) ?_
        refine lv_iconst (v := (0 : Int32)) hx hb dX12_howOften_194 (by decide) ?_
        obtain ⟨hc1, h⟩ := h
        refine m_iast (ws' := [(h0, .inr (11, oX12 r0 I_0_isFound I_0_foundB I_0_changes I_0_taped I_0_size I_0_at I_0_signs I_0_wanted I_0_sign I_0_isKept I_0_keptFound I_0_keptB I_0_keptChanges)), ((r0 5), .inl (cI, 9, .inl A_0_5_b)), ((r0 13), .inl (cI, 9, .inl (upd A_0_13_rests (x3).toNatClampNeg (0 : Int32))))]) C0 hM 2 rfl hc1 rfl dX12_howOften_195 (fun H locs hM => ?_)
        refine lv_iinc (v := (x3 + (-1 : Int32))) (lv' := [(3, .int (x3 + (-1 : Int32))), (0, .ref h0), (1, .int x1), (2, .int x2), (4, .int x4)]) hx hb dX12_howOften_196 hl (k := 3) rfl rfl (by decide) rfl (fun ls hl => ?_)
        refine lv_goto (tgt := 48) hx hb dX12_howOften_199 (by decide) ?_
        exact ih48 _ _ _ _ _ _ _ h hM (lv_sub hl [1, 2, 3, 0, 4] rfl)
      have lq161 : ∀ (k161 : Nat) (x2 : Int32) (x3 : Int32) (x4 : Int32) (x6 : Int32) (A_0_13_rests : (Nat → Int32)) (H : Heap) (locs : List Loc) (ls : Array Slot) , lp_X12_howOften_161 x1 I_0_foundB A_0_5_b (jn_X12_howOften_189 x1 I_0_foundB A_0_5_b (fun x2 x3 x4 A_0_13_rests => lp_X12_howOften_48 x1 I_0_foundB A_0_5_b K k48 x2 x3 x4 A_0_13_rests) K) K k161 x2 x3 x4 x6 A_0_13_rests → MW D A s.heap [(h0, .inr (11, oX12 r0 I_0_isFound I_0_foundB I_0_changes I_0_taped I_0_size I_0_at I_0_signs I_0_wanted I_0_sign I_0_isKept I_0_keptFound I_0_keptB I_0_keptChanges)), ((r0 5), .inl (cI, 9, .inl A_0_5_b)), ((r0 13), .inl (cI, 9, .inl A_0_13_rests))] H locs → lv_has ls 8 [(0, .ref h0), (1, .int x1), (2, .int x2), (3, .int x3), (4, .int x4), (6, .int x6)] → W p l e rm_X12_howOften s m args below meth c H locs 0 0 Q (F0 m 161 ls []) := by
        intro k161
        induction k161 with
        | zero =>
          intro x2 x3 x4 x6 A_0_13_rests H locs ls h
          unfold lp_X12_howOften_161 at h
          exact h.elim
        | succ k161 ih161 =>
          intro x2 x3 x4 x6 A_0_13_rests H locs ls h hM hl
          unfold lp_X12_howOften_161 at h
          refine lv_iload hx hb dX12_howOften_161 (lv_at hl 5 rfl) ?_
          refine lv_iload_n hx hb dX12_howOften_163 rfl (lv_at hl 3 rfl) ?_
          refine lv_icmp_ge (tgt := 189) hx hb dX12_howOften_164 (by decide) (fun hq => ?_) (fun hq => ?_)
          · have h := h.1 hq
            exact jq189 _ _ _ _ _ _ _ h hM (lv_sub hl [0, 1, 2, 3, 4] rfl)
          · have h := h.2 hq
            refine lv_aload_n hx hb dX12_howOften_167 rfl (lv_at hl 0 rfl) ?_
            refine m_get (C := RX12) (T := TX12) (N := 45) (ci := 11) (ref := "LoweredPowersModel") (v := .ref (r0 13)) C0 hM 0 rfl rfl kt_X12_howOften_X12 13 (by decide) kw_X12_howOften_1 rfl rfl dX12_howOften_168 ?_
            refine lv_iload hx hb dX12_howOften_171 (lv_at hl 5 rfl) ?_
            refine lv_aload_n hx hb dX12_howOften_173 rfl (lv_at hl 0 rfl) ?_
            refine m_get (C := RX12) (T := TX12) (N := 45) (ci := 11) (ref := "LoweredPowersModel") (v := .ref (r0 13)) C0 hM 0 rfl rfl kt_X12_howOften_X12 13 (by decide) kw_X12_howOften_1 rfl rfl dX12_howOften_174 ?_
            refine lv_iload hx hb dX12_howOften_177 (lv_at hl 5 rfl) ?_
            refine lv_iconst (v := (1 : Int32)) hx hb dX12_howOften_179 (by decide) ?_
            refine lv_iadd hx hb dX12_howOften_180 ?_
            obtain ⟨hc2, h⟩ := h
            refine m_iald C0 hM 2 rfl hc2 dX12_howOften_181 ?_
            refine lv_topi (fun y3 ey3 => ?_)
            have h := h y3 ey3
            obtain ⟨hc4, h⟩ := h
            refine m_iast (ws' := [(h0, .inr (11, oX12 r0 I_0_isFound I_0_foundB I_0_changes I_0_taped I_0_size I_0_at I_0_signs I_0_wanted I_0_sign I_0_isKept I_0_keptFound I_0_keptB I_0_keptChanges)), ((r0 5), .inl (cI, 9, .inl A_0_5_b)), ((r0 13), .inl (cI, 9, .inl (upd A_0_13_rests (x6).toNatClampNeg y3)))]) C0 hM 2 rfl hc4 rfl dX12_howOften_182 (fun H locs hM => ?_)
            refine lv_iinc (v := (x6 + (1 : Int32))) (lv' := [(6, .int (x6 + (1 : Int32))), (0, .ref h0), (1, .int x1), (2, .int x2), (3, .int x3), (4, .int x4)]) hx hb dX12_howOften_183 hl (k := 5) rfl rfl (by decide) rfl (fun ls hl => ?_)
            refine lv_goto (tgt := 161) hx hb dX12_howOften_186 (by decide) ?_
            exact ih161 _ _ _ _ _ _ _ _ h hM (lv_sub hl [1, 2, 3, 4, 5, 0] rfl)
      have jq156 : ∀ (x3 : Int32) (x4 : Int32) (s0 : Int32) (s1 : Int32) (A_0_13_rests : (Nat → Int32)) (H : Heap) (locs : List Loc) (ls : Array Slot) , jn_X12_howOften_156 x1 I_0_foundB A_0_5_b (fun x2 x3 x4 A_0_13_rests => lp_X12_howOften_48 x1 I_0_foundB A_0_5_b K k48 x2 x3 x4 A_0_13_rests) K x3 x4 s0 s1 A_0_13_rests → MW D A s.heap [(h0, .inr (11, oX12 r0 I_0_isFound I_0_foundB I_0_changes I_0_taped I_0_size I_0_at I_0_signs I_0_wanted I_0_sign I_0_isKept I_0_keptFound I_0_keptB I_0_keptChanges)), ((r0 5), .inl (cI, 9, .inl A_0_5_b)), ((r0 13), .inl (cI, 9, .inl A_0_13_rests))] H locs → lv_has ls 8 [(0, .ref h0), (1, .int x1), (3, .int x3), (4, .int x4)] → W p l e rm_X12_howOften s m args below meth c H locs 0 0 Q (F0 m 156 ls [.int s1, .int s0]) := by
        intro x3 x4 s0 s1 A_0_13_rests H locs ls h hM hl
        unfold jn_X12_howOften_156 at h
        refine lv_iadd hx hb dX12_howOften_156 ?_
        refine lv_topi (fun y5 ey5 => ?_)
        have h := h y5 ey5
        refine lv_istore_n (lv' := [(2, .int y5), (0, .ref h0), (1, .int x1), (3, .int x3), (4, .int x4)]) hx hb dX12_howOften_157 rfl hl (by decide) rfl (fun ls hl => ?_)
        refine lv_iconst (v := (0 : Int32)) hx hb dX12_howOften_158 (by decide) ?_
        refine lv_istore (lv' := [(6, .int (0 : Int32)), (2, .int y5), (0, .ref h0), (1, .int x1), (3, .int x3), (4, .int x4)]) hx hb dX12_howOften_159 hl (by decide) rfl (fun ls hl => ?_)
        obtain ⟨k0, h⟩ := h
        exact lq161 k0 _ _ _ _ _ _ _ _ h hM (lv_sub hl [2, 3, 1, 4, 5, 0] rfl)
      have jq143 : ∀ (x2 : Int32) (x3 : Int32) (s0 : Int32) (A_0_13_rests : (Nat → Int32)) (H : Heap) (locs : List Loc) (ls : Array Slot) , jn_X12_howOften_143 x1 I_0_foundB A_0_5_b (fun x2 x3 x4 A_0_13_rests => lp_X12_howOften_48 x1 I_0_foundB A_0_5_b K k48 x2 x3 x4 A_0_13_rests) K x2 x3 s0 A_0_13_rests → MW D A s.heap [(h0, .inr (11, oX12 r0 I_0_isFound I_0_foundB I_0_changes I_0_taped I_0_size I_0_at I_0_signs I_0_wanted I_0_sign I_0_isKept I_0_keptFound I_0_keptB I_0_keptChanges)), ((r0 5), .inl (cI, 9, .inl A_0_5_b)), ((r0 13), .inl (cI, 9, .inl A_0_13_rests))] H locs → lv_has ls 8 [(0, .ref h0), (1, .int x1), (2, .int x2), (3, .int x3)] → W p l e rm_X12_howOften s m args below meth c H locs 0 0 Q (F0 m 143 ls [.int s0]) := by
        intro x2 x3 s0 A_0_13_rests H locs ls h hM hl
        unfold jn_X12_howOften_143 at h
        refine lv_istore (lv' := [(4, .int s0), (0, .ref h0), (1, .int x1), (2, .int x2), (3, .int x3)]) hx hb dX12_howOften_143 hl (by decide) rfl (fun ls hl => ?_)
        refine lv_iload_n hx hb dX12_howOften_145 rfl (lv_at hl 3 rfl) ?_
        refine lv_iload hx hb dX12_howOften_146 (lv_at hl 0 rfl) ?_
        refine lv_if_eq (tgt := 155) hx hb dX12_howOften_148 (by decide) (fun hq => ?_) (fun hq => ?_)
        · have h := h.1 hq
          refine lv_iconst (v := (0 : Int32)) hx hb dX12_howOften_155 (by decide) ?_
          exact jq156 _ _ _ _ _ _ _ _ h hM (lv_sub hl [1, 2, 4, 0] rfl)
        · have h := h.2 hq
          refine lv_iconst (v := (1 : Int32)) hx hb dX12_howOften_151 (by decide) ?_
          refine lv_goto (tgt := 156) hx hb dX12_howOften_152 (by decide) ?_
          exact jq156 _ _ _ _ _ _ _ _ h hM (lv_sub hl [1, 2, 4, 0] rfl)
      have jq117 : ∀ (x2 : Int32) (x3 : Int32) (x5 : Int32) (A_0_13_rests : (Nat → Int32)) (H : Heap) (locs : List Loc) (ls : Array Slot) , jn_X12_howOften_117 x1 I_0_foundB A_0_5_b (fun x2 x3 x4 A_0_13_rests => lp_X12_howOften_48 x1 I_0_foundB A_0_5_b K k48 x2 x3 x4 A_0_13_rests) K x2 x3 x5 A_0_13_rests → MW D A s.heap [(h0, .inr (11, oX12 r0 I_0_isFound I_0_foundB I_0_changes I_0_taped I_0_size I_0_at I_0_signs I_0_wanted I_0_sign I_0_isKept I_0_keptFound I_0_keptB I_0_keptChanges)), ((r0 5), .inl (cI, 9, .inl A_0_5_b)), ((r0 13), .inl (cI, 9, .inl A_0_13_rests))] H locs → lv_has ls 8 [(0, .ref h0), (1, .int x1), (2, .int x2), (3, .int x3), (5, .int x5)] → W p l e rm_X12_howOften s m args below meth c H locs 0 0 Q (F0 m 117 ls []) := by
        intro x2 x3 x5 A_0_13_rests H locs ls h hM hl
        unfold jn_X12_howOften_117 at h
        refine lv_aload_n hx hb dX12_howOften_117 rfl (lv_at hl 0 rfl) ?_
        refine m_get (C := RX12) (T := TX12) (N := 45) (ci := 11) (ref := "LoweredPowersModel") (v := .ref (r0 13)) C0 hM 0 rfl rfl kt_X12_howOften_X12 13 (by decide) kw_X12_howOften_1 rfl rfl dX12_howOften_118 ?_
        refine lv_iconst (v := (0 : Int32)) hx hb dX12_howOften_121 (by decide) ?_
        refine m_iald C0 hM 2 rfl (by unfold vp_in; decide) dX12_howOften_122 ?_
        refine lv_iload hx hb dX12_howOften_123 (lv_at hl 4 rfl) ?_
        refine lv_iload_n hx hb dX12_howOften_125 rfl (lv_at hl 1 rfl) ?_
        refine lv_imul hx hb dX12_howOften_126 ?_
        refine lv_sipush (v := (10007 : Int32)) hx hb dX12_howOften_127 (by decide) ?_
        refine lv_irem hx hb dX12_howOften_130 (by decide) ?_
        refine lv_isub hx hb dX12_howOften_131 ?_
        refine m_calli (wc := []) C0 hM [] rfl (m_runS (wc := []) (As := [.int ((A_0_13_rests ((0 : Int32)).toNatClampNeg) - ((x5 * x1) - (x5 * x1) / (10007 : Int32) * (10007 : Int32)))]) (rest := []) C0 hM (ct_X12_modulo l D cI cJ cZ ((A_0_13_rests ((0 : Int32)).toNatClampNeg) - ((x5 * x1) - (x5 * x1) / (10007 : Int32) * (10007 : Int32))) _ _ h) [] rfl (by decide) gX12_howOften_X12_modulo rfl rfl rfl hd_X12_modulo ⟨Nat.le_of_ble_eq_true rfl, Nat.le_of_ble_eq_true rfl⟩ rfl hl.1 rfl (Nat.le_of_ble_eq_true rfl) dX12_howOften_132 ⟨Nat.le_of_ble_eq_true rfl, Nat.le_of_ble_eq_true rfl⟩) (fun _ => [(h0, .inr (11, oX12 r0 I_0_isFound I_0_foundB I_0_changes I_0_taped I_0_size I_0_at I_0_signs I_0_wanted I_0_sign I_0_isKept I_0_keptFound I_0_keptB I_0_keptChanges)), ((r0 5), .inl (cI, 9, .inl A_0_5_b)), ((r0 13), .inl (cI, 9, .inl A_0_13_rests))]) (fun _ => rfl) (fun _ => rfl) (fun y6 _ H locs h hM => ?_)
        refine lv_if_ne (tgt := 142) hx hb dX12_howOften_135 (by decide) (fun hq => ?_) (fun hq => ?_)
        · have h := h.1 hq
          refine lv_iconst (v := (0 : Int32)) hx hb dX12_howOften_142 (by decide) ?_
          exact jq143 _ _ _ _ _ _ _ h hM (lv_sub hl [0, 1, 2, 3] rfl)
        · have h := h.2 hq
          refine lv_iconst (v := (1 : Int32)) hx hb dX12_howOften_138 (by decide) ?_
          refine lv_goto (tgt := 143) hx hb dX12_howOften_139 (by decide) ?_
          exact jq143 _ _ _ _ _ _ _ h hM (lv_sub hl [0, 1, 2, 3] rfl)
      have lq63 : ∀ (k63 : Nat) (x2 : Int32) (x3 : Int32) (x5 : Int32) (x6 : Int32) (A_0_13_rests : (Nat → Int32)) (H : Heap) (locs : List Loc) (ls : Array Slot) , lp_X12_howOften_63 x1 I_0_foundB A_0_5_b (jn_X12_howOften_117 x1 I_0_foundB A_0_5_b (fun x2 x3 x4 A_0_13_rests => lp_X12_howOften_48 x1 I_0_foundB A_0_5_b K k48 x2 x3 x4 A_0_13_rests) K) K k63 x2 x3 x5 x6 A_0_13_rests → MW D A s.heap [(h0, .inr (11, oX12 r0 I_0_isFound I_0_foundB I_0_changes I_0_taped I_0_size I_0_at I_0_signs I_0_wanted I_0_sign I_0_isKept I_0_keptFound I_0_keptB I_0_keptChanges)), ((r0 5), .inl (cI, 9, .inl A_0_5_b)), ((r0 13), .inl (cI, 9, .inl A_0_13_rests))] H locs → lv_has ls 8 [(0, .ref h0), (1, .int x1), (2, .int x2), (3, .int x3), (5, .int x5), (6, .int x6)] → W p l e rm_X12_howOften s m args below meth c H locs 0 0 Q (F0 m 63 ls []) := by
        intro k63
        induction k63 with
        | zero =>
          intro x2 x3 x5 x6 A_0_13_rests H locs ls h
          unfold lp_X12_howOften_63 at h
          exact h.elim
        | succ k63 ih63 =>
          intro x2 x3 x5 x6 A_0_13_rests H locs ls h hM hl
          unfold lp_X12_howOften_63 at h
          refine lv_iload hx hb dX12_howOften_63 (lv_at hl 5 rfl) ?_
          refine lv_if_le (tgt := 117) hx hb dX12_howOften_65 (by decide) (fun hq => ?_) (fun hq => ?_)
          · have h := h.1 hq
            exact jq117 _ _ _ _ _ _ _ h hM (lv_sub hl [0, 1, 2, 3, 4] rfl)
          · have h := h.2 hq
            refine lv_aload_n hx hb dX12_howOften_68 rfl (lv_at hl 0 rfl) ?_
            refine m_get (C := RX12) (T := TX12) (N := 45) (ci := 11) (ref := "LoweredPowersModel") (v := .ref (r0 13)) C0 hM 0 rfl rfl kt_X12_howOften_X12 13 (by decide) kw_X12_howOften_1 rfl rfl dX12_howOften_69 ?_
            refine lv_iload hx hb dX12_howOften_72 (lv_at hl 5 rfl) ?_
            obtain ⟨hc7, h⟩ := h
            refine m_iald C0 hM 2 rfl hc7 dX12_howOften_74 ?_
            refine lv_topi (fun y8 ey8 => ?_)
            have h := h y8 ey8
            refine lv_istore (lv' := [(7, .int y8), (0, .ref h0), (1, .int x1), (2, .int x2), (3, .int x3), (5, .int x5), (6, .int x6)]) hx hb dX12_howOften_75 hl (by decide) rfl (fun ls hl => ?_)
            refine lv_aload_n hx hb dX12_howOften_77 rfl (lv_at hl 1 rfl) ?_
            refine m_get (C := RX12) (T := TX12) (N := 45) (ci := 11) (ref := "LoweredPowersModel") (v := .ref (r0 13)) C0 hM 0 rfl rfl kt_X12_howOften_X12 13 (by decide) kw_X12_howOften_1 rfl rfl dX12_howOften_78 ?_
            refine lv_iload hx hb dX12_howOften_81 (lv_at hl 6 rfl) ?_
            refine lv_iload hx hb dX12_howOften_83 (lv_at hl 5 rfl) ?_
            refine m_iast (ws' := [(h0, .inr (11, oX12 r0 I_0_isFound I_0_foundB I_0_changes I_0_taped I_0_size I_0_at I_0_signs I_0_wanted I_0_sign I_0_isKept I_0_keptFound I_0_keptB I_0_keptChanges)), ((r0 5), .inl (cI, 9, .inl A_0_5_b)), ((r0 13), .inl (cI, 9, .inl (upd A_0_13_rests (x6).toNatClampNeg x5)))]) C0 hM 2 rfl hc7 rfl dX12_howOften_85 (fun H locs hM => ?_)
            refine lv_iload hx hb dX12_howOften_86 (lv_at hl 0 rfl) ?_
            refine lv_iload hx hb dX12_howOften_88 (lv_at hl 5 rfl) ?_
            refine lv_iload_n hx hb dX12_howOften_90 rfl (lv_at hl 2 rfl) ?_
            refine lv_imul hx hb dX12_howOften_91 ?_
            refine lv_sipush (v := (10007 : Int32)) hx hb dX12_howOften_92 (by decide) ?_
            refine lv_irem hx hb dX12_howOften_95 (by decide) ?_
            refine lv_isub hx hb dX12_howOften_96 ?_
            refine m_calli (wc := []) C0 hM [] rfl (m_runS (wc := []) (As := [.int (y8 - ((x5 * x1) - (x5 * x1) / (10007 : Int32) * (10007 : Int32)))]) (rest := []) C0 hM (ct_X12_modulo l D cI cJ cZ (y8 - ((x5 * x1) - (x5 * x1) / (10007 : Int32) * (10007 : Int32))) _ _ h) [] rfl (by decide) gX12_howOften_X12_modulo rfl rfl rfl hd_X12_modulo ⟨Nat.le_of_ble_eq_true rfl, Nat.le_of_ble_eq_true rfl⟩ rfl hl.1 rfl (Nat.le_of_ble_eq_true rfl) dX12_howOften_97 ⟨Nat.le_of_ble_eq_true rfl, Nat.le_of_ble_eq_true rfl⟩) (fun _ => [(h0, .inr (11, oX12 r0 I_0_isFound I_0_foundB I_0_changes I_0_taped I_0_size I_0_at I_0_signs I_0_wanted I_0_sign I_0_isKept I_0_keptFound I_0_keptB I_0_keptChanges)), ((r0 5), .inl (cI, 9, .inl A_0_5_b)), ((r0 13), .inl (cI, 9, .inl (upd A_0_13_rests (x6).toNatClampNeg x5)))]) (fun _ => rfl) (fun _ => rfl) (fun y9 _ H locs h hM => ?_)
            refine lv_istore (lv' := [(5, .int y9), (7, .int y8), (0, .ref h0), (1, .int x1), (2, .int x2), (3, .int x3), (6, .int x6)]) hx hb dX12_howOften_100 hl (by decide) rfl (fun ls hl => ?_)
            refine lv_aload_n hx hb dX12_howOften_102 rfl (lv_at hl 2 rfl) ?_
            refine m_get (C := RX12) (T := TX12) (N := 45) (ci := 11) (ref := "LoweredPowersModel") (v := .ref (r0 13)) C0 hM 0 rfl rfl kt_X12_howOften_X12 13 (by decide) kw_X12_howOften_1 rfl rfl dX12_howOften_103 ?_
            refine lv_iload hx hb dX12_howOften_106 (lv_at hl 6 rfl) ?_
            refine lv_iload hx hb dX12_howOften_108 (lv_at hl 0 rfl) ?_
            refine m_iast (ws' := [(h0, .inr (11, oX12 r0 I_0_isFound I_0_foundB I_0_changes I_0_taped I_0_size I_0_at I_0_signs I_0_wanted I_0_sign I_0_isKept I_0_keptFound I_0_keptB I_0_keptChanges)), ((r0 5), .inl (cI, 9, .inl A_0_5_b)), ((r0 13), .inl (cI, 9, .inl (upd (upd A_0_13_rests (x6).toNatClampNeg x5) (x6).toNatClampNeg y9)))]) C0 hM 2 rfl hc7 rfl dX12_howOften_110 (fun H locs hM => ?_)
            refine lv_iinc (v := (x6 + (-1 : Int32))) (lv' := [(6, .int (x6 + (-1 : Int32))), (5, .int y9), (7, .int y8), (0, .ref h0), (1, .int x1), (2, .int x2), (3, .int x3)]) hx hb dX12_howOften_111 hl (k := 6) rfl rfl (by decide) rfl (fun ls hl => ?_)
            refine lv_goto (tgt := 63) hx hb dX12_howOften_114 (by decide) ?_
            exact ih63 _ _ _ _ _ _ _ _ h hM (lv_sub hl [3, 4, 5, 6, 1, 0] rfl)
      intro x2 x3 x4 A_0_13_rests H locs ls h hM hl
      unfold lp_X12_howOften_48 at h
      refine lv_iload hx hb dX12_howOften_48 (lv_at hl 4 rfl) ?_
      refine lv_if_eq (tgt := 202) hx hb dX12_howOften_50 (by decide) (fun hq => ?_) (fun hq => ?_)
      · have h := h.1 hq
        refine lv_iload_n hx hb dX12_howOften_202 rfl (lv_at hl 2 rfl) ?_
        subst hsz; subst hA; subst hQ
        exact m_iret C0 hr hM A_0_13_rests h rfl dX12_howOften_203
      · have h := h.2 hq
        refine lv_iload_n hx hb dX12_howOften_53 rfl (lv_at hl 3 rfl) ?_
        refine lv_if_le (tgt := 202) hx hb dX12_howOften_54 (by decide) (fun hq => ?_) (fun hq => ?_)
        · have h := h.1 hq
          refine lv_iload_n hx hb dX12_howOften_202 rfl (lv_at hl 2 rfl) ?_
          subst hsz; subst hA; subst hQ
          exact m_iret C0 hr hM A_0_13_rests h rfl dX12_howOften_203
        · have h := h.2 hq
          refine lv_iconst (v := (0 : Int32)) hx hb dX12_howOften_57 (by decide) ?_
          refine lv_istore (lv' := [(5, .int (0 : Int32)), (0, .ref h0), (1, .int x1), (2, .int x2), (3, .int x3), (4, .int x4)]) hx hb dX12_howOften_58 hl (by decide) rfl (fun ls hl => ?_)
          refine lv_iload_n hx hb dX12_howOften_60 rfl (lv_at hl 4 rfl) ?_
          refine lv_istore (lv' := [(6, .int x3), (5, .int (0 : Int32)), (0, .ref h0), (1, .int x1), (2, .int x2), (3, .int x3), (4, .int x4)]) hx hb dX12_howOften_61 hl (by decide) rfl (fun ls hl => ?_)
          obtain ⟨k0, h⟩ := h
          exact lq63 k0 _ _ _ _ _ _ _ _ h hM (lv_sub hl [2, 3, 4, 5, 1, 0] rfl)
  have jq38 : ∀ (A_0_13_rests : (Nat → Int32)) (H : Heap) (locs : List Loc) (ls : Array Slot) , jn_X12_howOften_38 x1 I_0_foundB A_0_5_b K A_0_13_rests → MW D A s.heap [(h0, .inr (11, oX12 r0 I_0_isFound I_0_foundB I_0_changes I_0_taped I_0_size I_0_at I_0_signs I_0_wanted I_0_sign I_0_isKept I_0_keptFound I_0_keptB I_0_keptChanges)), ((r0 5), .inl (cI, 9, .inl A_0_5_b)), ((r0 13), .inl (cI, 9, .inl A_0_13_rests))] H locs → lv_has ls 8 [(0, .ref h0), (1, .int x1)] → W p l e rm_X12_howOften s m args below meth c H locs 0 0 Q (F0 m 38 ls []) := by
    intro A_0_13_rests H locs ls h hM hl
    unfold jn_X12_howOften_38 at h
    refine lv_iconst (v := (0 : Int32)) hx hb dX12_howOften_38 (by decide) ?_
    refine lv_istore_n (lv' := [(2, .int (0 : Int32)), (0, .ref h0), (1, .int x1)]) hx hb dX12_howOften_39 rfl hl (by decide) rfl (fun ls hl => ?_)
    refine lv_aload_n hx hb dX12_howOften_40 rfl (lv_at hl 1 rfl) ?_
    refine m_get (C := RX12) (T := TX12) (N := 45) (ci := 11) (ref := "LoweredPowersModel") (v := .int I_0_foundB) C0 hM 0 rfl rfl kt_X12_howOften_X12 3 (by decide) kw_X12_howOften_2 rfl rfl dX12_howOften_41 ?_
    refine lv_istore_n (lv' := [(3, .int I_0_foundB), (2, .int (0 : Int32)), (0, .ref h0), (1, .int x1)]) hx hb dX12_howOften_44 rfl hl (by decide) rfl (fun ls hl => ?_)
    refine lv_iconst (v := (1 : Int32)) hx hb dX12_howOften_45 (by decide) ?_
    refine lv_istore (lv' := [(4, .int (1 : Int32)), (3, .int I_0_foundB), (2, .int (0 : Int32)), (0, .ref h0), (1, .int x1)]) hx hb dX12_howOften_46 hl (by decide) rfl (fun ls hl => ?_)
    obtain ⟨k0, h⟩ := h
    exact lq48 k0 _ _ _ _ _ _ _ h hM (lv_sub hl [3, 4, 2, 1, 0] rfl)
  have lq2 : ∀ (k2 : Nat) (x2 : Int32) (A_0_13_rests : (Nat → Int32)) (H : Heap) (locs : List Loc) (ls : Array Slot) , lp_X12_howOften_2 x1 I_0_foundB A_0_5_b (jn_X12_howOften_38 x1 I_0_foundB A_0_5_b K) K k2 x2 A_0_13_rests → MW D A s.heap [(h0, .inr (11, oX12 r0 I_0_isFound I_0_foundB I_0_changes I_0_taped I_0_size I_0_at I_0_signs I_0_wanted I_0_sign I_0_isKept I_0_keptFound I_0_keptB I_0_keptChanges)), ((r0 5), .inl (cI, 9, .inl A_0_5_b)), ((r0 13), .inl (cI, 9, .inl A_0_13_rests))] H locs → lv_has ls 8 [(0, .ref h0), (1, .int x1), (2, .int x2)] → W p l e rm_X12_howOften s m args below meth c H locs 0 0 Q (F0 m 2 ls []) := by
    intro k2
    induction k2 with
    | zero =>
      intro x2 A_0_13_rests H locs ls h
      unfold lp_X12_howOften_2 at h
      exact h.elim
    | succ k2 ih2 =>
      have jq31 : ∀ (x2 : Int32) (s1 : Int32) (s2 : Int32) (A_0_13_rests : (Nat → Int32)) (H : Heap) (locs : List Loc) (ls : Array Slot) , jn_X12_howOften_31 x1 I_0_foundB A_0_5_b (fun x2 A_0_13_rests => lp_X12_howOften_2 x1 I_0_foundB A_0_5_b (jn_X12_howOften_38 x1 I_0_foundB A_0_5_b K) K k2 x2 A_0_13_rests) (jn_X12_howOften_38 x1 I_0_foundB A_0_5_b K) K x2 s1 s2 A_0_13_rests → MW D A s.heap [(h0, .inr (11, oX12 r0 I_0_isFound I_0_foundB I_0_changes I_0_taped I_0_size I_0_at I_0_signs I_0_wanted I_0_sign I_0_isKept I_0_keptFound I_0_keptB I_0_keptChanges)), ((r0 5), .inl (cI, 9, .inl A_0_5_b)), ((r0 13), .inl (cI, 9, .inl A_0_13_rests))] H locs → lv_has ls 8 [(0, .ref h0), (1, .int x1), (2, .int x2)] → W p l e rm_X12_howOften s m args below meth c H locs 0 0 Q (F0 m 31 ls [.int s2, .int s1, .ref (r0 13)]) := by
        intro x2 s1 s2 A_0_13_rests H locs ls h hM hl
        unfold jn_X12_howOften_31 at h
        obtain ⟨hc10, h⟩ := h
        refine m_iast (ws' := [(h0, .inr (11, oX12 r0 I_0_isFound I_0_foundB I_0_changes I_0_taped I_0_size I_0_at I_0_signs I_0_wanted I_0_sign I_0_isKept I_0_keptFound I_0_keptB I_0_keptChanges)), ((r0 5), .inl (cI, 9, .inl A_0_5_b)), ((r0 13), .inl (cI, 9, .inl (upd A_0_13_rests (s1).toNatClampNeg s2)))]) C0 hM 2 rfl hc10 rfl dX12_howOften_31 (fun H locs hM => ?_)
        refine lv_iinc (v := (x2 + (1 : Int32))) (lv' := [(2, .int (x2 + (1 : Int32))), (0, .ref h0), (1, .int x1)]) hx hb dX12_howOften_32 hl (k := 2) rfl rfl (by decide) rfl (fun ls hl => ?_)
        refine lv_goto (tgt := 2) hx hb dX12_howOften_35 (by decide) ?_
        exact ih2 _ _ _ _ _ h hM (lv_sub hl [1, 2, 0] rfl)
      intro x2 A_0_13_rests H locs ls h hM hl
      unfold lp_X12_howOften_2 at h
      refine lv_iload_n hx hb dX12_howOften_2 rfl (lv_at hl 2 rfl) ?_
      refine lv_bipush (v := (9 : Int32)) hx hb dX12_howOften_3 (by decide) ?_
      refine lv_icmp_ge (tgt := 38) hx hb dX12_howOften_5 (by decide) (fun hq => ?_) (fun hq => ?_)
      · have h := h.1 hq
        exact jq38 _ _ _ _ h hM (lv_sub hl [0, 1] rfl)
      · have h := h.2 hq
        refine lv_aload_n hx hb dX12_howOften_8 rfl (lv_at hl 0 rfl) ?_
        refine m_get (C := RX12) (T := TX12) (N := 45) (ci := 11) (ref := "LoweredPowersModel") (v := .ref (r0 13)) C0 hM 0 rfl rfl kt_X12_howOften_X12 13 (by decide) kw_X12_howOften_1 rfl rfl dX12_howOften_9 ?_
        refine lv_iload_n hx hb dX12_howOften_12 rfl (lv_at hl 2 rfl) ?_
        refine lv_iload_n hx hb dX12_howOften_13 rfl (lv_at hl 2 rfl) ?_
        refine lv_aload_n hx hb dX12_howOften_14 rfl (lv_at hl 0 rfl) ?_
        refine m_get (C := RX12) (T := TX12) (N := 45) (ci := 11) (ref := "LoweredPowersModel") (v := .int I_0_foundB) C0 hM 0 rfl rfl kt_X12_howOften_X12 3 (by decide) kw_X12_howOften_2 rfl rfl dX12_howOften_15 ?_
        refine lv_icmp_gt (tgt := 30) hx hb dX12_howOften_18 (by decide) (fun hq => ?_) (fun hq => ?_)
        · have h := h.1 hq
          refine lv_iconst (v := (0 : Int32)) hx hb dX12_howOften_30 (by decide) ?_
          exact jq31 _ _ _ _ _ _ _ h hM (lv_sub hl [0, 1, 2] rfl)
        · have h := h.2 hq
          refine lv_aload_n hx hb dX12_howOften_21 rfl (lv_at hl 0 rfl) ?_
          refine m_get (C := RX12) (T := TX12) (N := 45) (ci := 11) (ref := "LoweredPowersModel") (v := .ref (r0 5)) C0 hM 0 rfl rfl kt_X12_howOften_X12 5 (by decide) kw_X12_howOften_3 rfl rfl dX12_howOften_22 ?_
          refine lv_iload_n hx hb dX12_howOften_25 rfl (lv_at hl 2 rfl) ?_
          obtain ⟨hc11, h⟩ := h
          refine m_iald C0 hM 1 rfl hc11 dX12_howOften_26 ?_
          refine lv_goto (tgt := 31) hx hb dX12_howOften_27 (by decide) ?_
          exact jq31 _ _ _ _ _ _ _ h hM (lv_sub hl [0, 1, 2] rfl)
  unfold wp_X12_howOften at h
  refine lv_iconst (v := (0 : Int32)) hx hb dX12_howOften_0 (by decide) ?_
  refine lv_istore_n (lv' := [(2, .int (0 : Int32)), (0, .ref h0), (1, .int x1)]) hx hb dX12_howOften_1 rfl hl (by decide) rfl (fun ls hl => ?_)
  obtain ⟨k0, h⟩ := h
  exact lq2 k0 _ _ _ _ _ h hM (lv_sub hl [1, 2, 0] rfl)
abbrev rm_X12_divisor : Room := { frames := 0, cells := 0, slots := 0, locals := 0 }
set_option maxRecDepth 100000 in
set_option maxHeartbeats 4000000 in
theorem ct_X12_divisor (l : Launch) (D : va_G) (cI cJ cZ : ClassId) (x0 : Int32) (x1 : Int32) (sz : Nat) (K : Int32 → Prop) (h : wp_X12_divisor x0 x1 K) : Met l yX12_divisor wsX12_divisor rm_X12_divisor (va_Pc [.int x0, .int x1] (WX D cI cJ cZ [] sz)) (va_Qi (fun (r : Int32) (_ : Unit) => K r ) (fun (_ : Unit) t => WY D (va_A [] sz) [] t) (va_A [] sz)) 0 0 (va_A [] sz) := by
  refine m_met (own := RX12) (cc := cX12_divisor) (maxL := 5) (ret := some .int) [.int x0, .int x1] [(0, .int x0), (1, .int x1)] (by decide) rfl rfl (Nat.le_of_ble_eq_true rfl) rfl ?_
  intro p e s m args below meth c Q A hQ hA C0 hr hnm hsz hM ls hl
  have hx := C0.1
  have hb := C0.2.1
  have hown := C0.2.2.2.1
  have lq4 : ∀ (k4 : Nat) (x2 : Int32) (x3 : Int32) (H : Heap) (locs : List Loc) (ls : Array Slot) , lp_X12_divisor_4 x0 x1 K k4 x2 x3 → MW D A s.heap [] H locs → lv_has ls 5 [(2, .int x2), (3, .int x3)] → W p l e rm_X12_divisor s m args below meth c H locs 0 0 Q (F0 m 4 ls []) := by
    intro k4
    induction k4 with
    | zero =>
      intro x2 x3 H locs ls h
      unfold lp_X12_divisor_4 at h
      exact h.elim
    | succ k4 ih4 =>
      intro x2 x3 H locs ls h hM hl
      unfold lp_X12_divisor_4 at h
      refine lv_iload_n hx hb dX12_divisor_4 rfl (lv_at hl 1 rfl) ?_
      refine lv_if_eq (tgt := 21) hx hb dX12_divisor_5 (by decide) (fun hq => ?_) (fun hq => ?_)
      · have h := h.1 hq
        refine lv_iload_n hx hb dX12_divisor_21 rfl (lv_at hl 0 rfl) ?_
        subst hsz; subst hA; subst hQ
        exact m_iret C0 hr hM () h rfl dX12_divisor_22
      · have h := h.2 hq
        refine lv_iload_n hx hb dX12_divisor_8 rfl (lv_at hl 0 rfl) ?_
        refine lv_iload_n hx hb dX12_divisor_9 rfl (lv_at hl 1 rfl) ?_
        obtain ⟨hc1, h⟩ := h
        refine lv_irem hx hb dX12_divisor_10 hc1 ?_
        refine lv_topi (fun y2 ey2 => ?_)
        have h := h y2 ey2
        refine lv_istore (lv' := [(4, .int y2), (2, .int x2), (3, .int x3)]) hx hb dX12_divisor_11 hl (by decide) rfl (fun ls hl => ?_)
        refine lv_iload_n hx hb dX12_divisor_13 rfl (lv_at hl 2 rfl) ?_
        refine lv_istore_n (lv' := [(2, .int x3), (4, .int y2), (3, .int x3)]) hx hb dX12_divisor_14 rfl hl (by decide) rfl (fun ls hl => ?_)
        refine lv_iload hx hb dX12_divisor_15 (lv_at hl 1 rfl) ?_
        refine lv_istore_n (lv' := [(3, .int y2), (2, .int x3), (4, .int y2)]) hx hb dX12_divisor_17 rfl hl (by decide) rfl (fun ls hl => ?_)
        refine lv_goto (tgt := 4) hx hb dX12_divisor_18 (by decide) ?_
        exact ih4 _ _ _ _ _ h hM (lv_sub hl [1, 0] rfl)
  unfold wp_X12_divisor at h
  refine lv_iload_n hx hb dX12_divisor_0 rfl (lv_at hl 0 rfl) ?_
  refine lv_istore_n (lv' := [(2, .int x0), (0, .int x0), (1, .int x1)]) hx hb dX12_divisor_1 rfl hl (by decide) rfl (fun ls hl => ?_)
  refine lv_iload_n hx hb dX12_divisor_2 rfl (lv_at hl 2 rfl) ?_
  refine lv_istore_n (lv' := [(3, .int x1), (2, .int x0), (0, .int x0), (1, .int x1)]) hx hb dX12_divisor_3 rfl hl (by decide) rfl (fun ls hl => ?_)
  obtain ⟨k0, h⟩ := h
  exact lq4 k0 _ _ _ _ _ h hM (lv_sub hl [1, 0] rfl)
