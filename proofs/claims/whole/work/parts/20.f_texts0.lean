theorem hd_X10_append : yX10_append.cls = RX10 ∧ yX10_append.cls ≠ "java/lang/invoke/MethodHandle" ∧ yX10_append.cls ≠ "java/lang/invoke/VarHandle" ∧ (parseMethodDescriptor yX10_append.desc).map (fun d => d.parameters.length) = some 1 := by decide +kernel
theorem hd_X10_startTerm : yX10_startTerm.cls = RX10 ∧ yX10_startTerm.cls ≠ "java/lang/invoke/MethodHandle" ∧ yX10_startTerm.cls ≠ "java/lang/invoke/VarHandle" ∧ (parseMethodDescriptor yX10_startTerm.desc).map (fun d => d.parameters.length) = some 1 := by decide +kernel
theorem hd_X10_stepFigure : yX10_stepFigure.cls = RX10 ∧ yX10_stepFigure.cls ≠ "java/lang/invoke/MethodHandle" ∧ yX10_stepFigure.cls ≠ "java/lang/invoke/VarHandle" ∧ (parseMethodDescriptor yX10_stepFigure.desc).map (fun d => d.parameters.length) = some 2 := by decide +kernel
theorem hd_X10_stepUnknown : yX10_stepUnknown.cls = RX10 ∧ yX10_stepUnknown.cls ≠ "java/lang/invoke/MethodHandle" ∧ yX10_stepUnknown.cls ≠ "java/lang/invoke/VarHandle" ∧ (parseMethodDescriptor yX10_stepUnknown.desc).map (fun d => d.parameters.length) = some 1 := by decide +kernel
theorem hd_X10_mayEnd : yX10_mayEnd.cls ≠ "java/lang/invoke/MethodHandle" ∧ yX10_mayEnd.cls ≠ "java/lang/invoke/VarHandle" ∧ (parseMethodDescriptor yX10_mayEnd.desc).map (fun d => d.parameters.length) = some 1 := by decide +kernel
theorem hd_X10_endTerm : yX10_endTerm.cls = RX10 ∧ yX10_endTerm.cls ≠ "java/lang/invoke/MethodHandle" ∧ yX10_endTerm.cls ≠ "java/lang/invoke/VarHandle" ∧ (parseMethodDescriptor yX10_endTerm.desc).map (fun d => d.parameters.length) = some 0 := by decide +kernel
theorem hd_X10_stepSign : yX10_stepSign.cls = RX10 ∧ yX10_stepSign.cls ≠ "java/lang/invoke/MethodHandle" ∧ yX10_stepSign.cls ≠ "java/lang/invoke/VarHandle" ∧ (parseMethodDescriptor yX10_stepSign.desc).map (fun d => d.parameters.length) = some 2 := by decide +kernel
theorem hd_X10_step : yX10_step.cls = RX10 ∧ yX10_step.cls ≠ "java/lang/invoke/MethodHandle" ∧ yX10_step.cls ≠ "java/lang/invoke/VarHandle" ∧ (parseMethodDescriptor yX10_step.desc).map (fun d => d.parameters.length) = some 2 := by decide +kernel
theorem hd_X10_fault : yX10_fault.cls = RX10 ∧ yX10_fault.cls ≠ "java/lang/invoke/MethodHandle" ∧ yX10_fault.cls ≠ "java/lang/invoke/VarHandle" ∧ (parseMethodDescriptor yX10_fault.desc).map (fun d => d.parameters.length) = some 0 := by decide +kernel
theorem hd_X10_writeByte : yX10_writeByte.cls = RX10 ∧ yX10_writeByte.cls ≠ "java/lang/invoke/MethodHandle" ∧ yX10_writeByte.cls ≠ "java/lang/invoke/VarHandle" ∧ (parseMethodDescriptor yX10_writeByte.desc).map (fun d => d.parameters.length) = some 1 := by decide +kernel
theorem hd_X10_writeFigures : yX10_writeFigures.cls = RX10 ∧ yX10_writeFigures.cls ≠ "java/lang/invoke/MethodHandle" ∧ yX10_writeFigures.cls ≠ "java/lang/invoke/VarHandle" ∧ (parseMethodDescriptor yX10_writeFigures.desc).map (fun d => d.parameters.length) = some 1 := by decide +kernel
theorem hd_X10_writeTerm : yX10_writeTerm.cls = RX10 ∧ yX10_writeTerm.cls ≠ "java/lang/invoke/MethodHandle" ∧ yX10_writeTerm.cls ≠ "java/lang/invoke/VarHandle" ∧ (parseMethodDescriptor yX10_writeTerm.desc).map (fun d => d.parameters.length) = some 2 := by decide +kernel
theorem hd_X10_write : yX10_write.cls = RX10 ∧ yX10_write.cls ≠ "java/lang/invoke/MethodHandle" ∧ yX10_write.cls ≠ "java/lang/invoke/VarHandle" ∧ (parseMethodDescriptor yX10_write.desc).map (fun d => d.parameters.length) = some 1 := by decide +kernel
theorem kt_X10_append_X10 : ∀ w ∈ u_ws RX10 TX10 9, w ∈ wsX10_append := fun _ h => List.mem_cons_of_mem _ (List.mem_append_right _ (h))
theorem kt_X10_endTerm_X10 : ∀ w ∈ u_ws RX10 TX10 9, w ∈ wsX10_endTerm := fun _ h => List.mem_cons_of_mem _ (List.mem_append_right _ (h))
theorem kt_X10_fault_X10 : ∀ w ∈ u_ws RX10 TX10 9, w ∈ wsX10_fault := fun _ h => List.mem_cons_of_mem _ (List.mem_append_right _ (h))
theorem kt_X10_startTerm_X10 : ∀ w ∈ u_ws RX10 TX10 9, w ∈ wsX10_startTerm := fun _ h => List.mem_cons_of_mem _ (List.mem_append_right _ (h))
theorem kt_X10_stepFigure_X10 : ∀ w ∈ u_ws RX10 TX10 9, w ∈ wsX10_stepFigure := fun _ h => List.mem_cons_of_mem _ (List.mem_append_right _ (h))
theorem kt_X10_stepUnknown_X10 : ∀ w ∈ u_ws RX10 TX10 9, w ∈ wsX10_stepUnknown := fun _ h => List.mem_cons_of_mem _ (List.mem_append_right _ (h))
theorem kt_X10_write_X10 : ∀ w ∈ u_ws RX10 TX10 9, w ∈ wsX10_write := fun _ h => List.mem_cons_of_mem _ (List.mem_append_right _ (h))
theorem kt_X10_writeByte_X10 : ∀ w ∈ u_ws RX10 TX10 9, w ∈ wsX10_writeByte := fun _ h => List.mem_cons_of_mem _ (List.mem_append_right _ (h))
theorem kt_X10_writeTerm_X10 : ∀ w ∈ u_ws RX10 TX10 9, w ∈ wsX10_writeTerm := fun _ h => List.mem_cons_of_mem _ (List.mem_append_right _ (h))
theorem kw_X10_append_1 : Cond.fieldLink RX10 9 "LoweredPowers$Texts" "size" "I" ∈ wsX10_append := List.mem_of_getElem? (i := 1) rfl
theorem kw_X10_append_2 : Cond.fieldLink RX10 22 "LoweredPowers$Texts" "tape" "[I" ∈ wsX10_append := List.mem_of_getElem? (i := 2) rfl
theorem kw_X10_startTerm_1 : Cond.fieldLink RX10 28 "LoweredPowers$Texts" "sign" "I" ∈ wsX10_startTerm := List.mem_of_getElem? (i := 1) rfl
theorem kw_X10_startTerm_2 : Cond.fieldLink RX10 31 "LoweredPowers$Texts" "number" "I" ∈ wsX10_startTerm := List.mem_of_getElem? (i := 2) rfl
theorem kw_X10_startTerm_3 : Cond.fieldLink RX10 34 "LoweredPowers$Texts" "figures" "I" ∈ wsX10_startTerm := List.mem_of_getElem? (i := 3) rfl
theorem kw_X10_startTerm_4 : Cond.fieldLink RX10 37 "LoweredPowers$Texts" "power" "I" ∈ wsX10_startTerm := List.mem_of_getElem? (i := 4) rfl
theorem kw_X10_stepFigure_3 : Cond.fieldLink RX10 31 "LoweredPowers$Texts" "number" "I" ∈ wsX10_stepFigure := List.mem_of_getElem? (i := 3) rfl
theorem kw_X10_stepFigure_2 : Cond.fieldLink RX10 34 "LoweredPowers$Texts" "figures" "I" ∈ wsX10_stepFigure := List.mem_of_getElem? (i := 2) rfl
theorem kw_X10_stepFigure_1 : Cond.fieldLink RX10 37 "LoweredPowers$Texts" "power" "I" ∈ wsX10_stepFigure := List.mem_of_getElem? (i := 1) rfl
theorem kw_X10_stepUnknown_2 : Cond.fieldLink RX10 37 "LoweredPowers$Texts" "power" "I" ∈ wsX10_stepUnknown := List.mem_of_getElem? (i := 2) rfl
theorem kw_X10_stepUnknown_1 : Cond.fieldLink RX10 31 "LoweredPowers$Texts" "number" "I" ∈ wsX10_stepUnknown := List.mem_of_getElem? (i := 1) rfl
theorem kw_X10_endTerm_1 : Cond.fieldLink RX10 37 "LoweredPowers$Texts" "power" "I" ∈ wsX10_endTerm := List.mem_of_getElem? (i := 1) rfl
theorem kw_X10_endTerm_6 : Cond.initialized RX11 ∈ wsX10_endTerm := List.mem_of_getElem? (i := 6) rfl
theorem kw_X10_endTerm_5 : Cond.static yX11_within ∈ wsX10_endTerm := List.mem_of_getElem? (i := 5) rfl
theorem kw_X10_endTerm_2 : Cond.fieldLink RX10 15 "LoweredPowers$Texts" "told" "[I" ∈ wsX10_endTerm := List.mem_of_getElem? (i := 2) rfl
theorem kw_X10_endTerm_3 : Cond.fieldLink RX10 28 "LoweredPowers$Texts" "sign" "I" ∈ wsX10_endTerm := List.mem_of_getElem? (i := 3) rfl
theorem kw_X10_endTerm_4 : Cond.fieldLink RX10 31 "LoweredPowers$Texts" "number" "I" ∈ wsX10_endTerm := List.mem_of_getElem? (i := 4) rfl
theorem kw_X10_fault_2 : Cond.fieldLink RX10 9 "LoweredPowers$Texts" "size" "I" ∈ wsX10_fault := List.mem_of_getElem? (i := 2) rfl
theorem kw_X10_fault_3 : Cond.fieldLink RX10 22 "LoweredPowers$Texts" "tape" "[I" ∈ wsX10_fault := List.mem_of_getElem? (i := 3) rfl
theorem kw_X10_fault_1 : Cond.fieldLink RX10 15 "LoweredPowers$Texts" "told" "[I" ∈ wsX10_fault := List.mem_of_getElem? (i := 1) rfl
theorem kw_X10_writeByte_1 : Cond.fieldLink RX10 25 "LoweredPowers$Texts" "length" "I" ∈ wsX10_writeByte := List.mem_of_getElem? (i := 1) rfl
theorem kw_X10_writeByte_2 : Cond.fieldLink RX10 19 "LoweredPowers$Texts" "line" "[I" ∈ wsX10_writeByte := List.mem_of_getElem? (i := 2) rfl
theorem kw_X10_writeTerm_1 : Cond.fieldLink RX10 25 "LoweredPowers$Texts" "length" "I" ∈ wsX10_writeTerm := List.mem_of_getElem? (i := 1) rfl
theorem kw_X10_write_1 : Cond.fieldLink RX10 25 "LoweredPowers$Texts" "length" "I" ∈ wsX10_write := List.mem_of_getElem? (i := 1) rfl
abbrev rm_X10_append : Room := { frames := 0, cells := 0, slots := 0, locals := 0 }
set_option maxRecDepth 100000 in
set_option maxHeartbeats 4000000 in
theorem ct_X10_append (l : Launch) (D : va_G) (cI cJ cZ : ClassId) (h0 : Nat) (r0 : Nat → Nat) (I_0_size : Int32) (I_0_length : Int32) (I_0_sign : Int32) (I_0_number : Int32) (I_0_figures : Int32) (I_0_power : Int32) (A_0_3_tape : (Nat → Int32)) (x1 : Int32) (sz : Nat) (K : Int32 → (Nat → Int32) → Prop) (h : wp_X10_append x1 I_0_size A_0_3_tape K) : Met l yX10_append wsX10_append rm_X10_append (va_Pc [.ref h0, .int x1] (WX D cI cJ cZ [(h0, .inr (9, oX10 r0 I_0_size I_0_length I_0_sign I_0_number I_0_figures I_0_power)), ((r0 3), .inl (cI, 60, .inl A_0_3_tape))] sz)) (va_Qv (fun (u : Int32 × (Nat → Int32)) => K u.1 u.2) (fun (u : Int32 × (Nat → Int32)) t => WY D (va_A [(h0, .inr (9, oX10 r0 I_0_size I_0_length I_0_sign I_0_number I_0_figures I_0_power)), ((r0 3), .inl (cI, 60, .inl A_0_3_tape))] sz) [(h0, .inr (9, oX10 r0 u.1 I_0_length I_0_sign I_0_number I_0_figures I_0_power)), ((r0 3), .inl (cI, 60, .inl u.2))] t) (va_A [(h0, .inr (9, oX10 r0 I_0_size I_0_length I_0_sign I_0_number I_0_figures I_0_power)), ((r0 3), .inl (cI, 60, .inl A_0_3_tape))] sz)) 0 0 (va_A [(h0, .inr (9, oX10 r0 I_0_size I_0_length I_0_sign I_0_number I_0_figures I_0_power)), ((r0 3), .inl (cI, 60, .inl A_0_3_tape))] sz) := by
  refine m_met (own := RX10) (cc := cX10_append) (maxL := 2) (ret := none) [.ref h0, .int x1] [(0, .ref h0), (1, .int x1)] (by decide) rfl rfl (Nat.le_of_ble_eq_true rfl) rfl ?_
  intro p e s m args below meth c Q A hQ hA C0 hr hnm hsz hM ls hl
  have hx := C0.1
  have hb := C0.2.1
  have hown := C0.2.2.2.1
  unfold wp_X10_append at h
  refine lv_aload_n hx hb dX10_append_0 rfl (lv_at hl 0 rfl) ?_
  refine m_get (C := RX10) (T := TX10) (N := 9) (ci := 9) (ref := "LoweredPowers$Texts") (v := .int I_0_size) C0 hM 0 rfl rfl kt_X10_append_X10 0 (by decide) kw_X10_append_1 rfl rfl dX10_append_1 ?_
  refine lv_bipush (v := (60 : Int32)) hx hb dX10_append_4 (by decide) ?_
  refine lv_icmp_ge (tgt := 29) hx hb dX10_append_6 (by decide) (fun hq => ?_) (fun hq => ?_)
  · have h := h.1 hq
    subst hsz; subst hA; subst hQ
    exact m_vret C0 hr hM (I_0_size, A_0_3_tape) h rfl dX10_append_29
  · have h := h.2 hq
    refine lv_aload_n hx hb dX10_append_9 rfl (lv_at hl 0 rfl) ?_
    refine m_get (C := RX10) (T := TX10) (N := 9) (ci := 9) (ref := "LoweredPowers$Texts") (v := .ref (r0 3)) C0 hM 0 rfl rfl kt_X10_append_X10 3 (by decide) kw_X10_append_2 rfl rfl dX10_append_10 ?_
    refine lv_aload_n hx hb dX10_append_13 rfl (lv_at hl 0 rfl) ?_
    refine m_get (C := RX10) (T := TX10) (N := 9) (ci := 9) (ref := "LoweredPowers$Texts") (v := .int I_0_size) C0 hM 0 rfl rfl kt_X10_append_X10 0 (by decide) kw_X10_append_1 rfl rfl dX10_append_14 ?_
    refine lv_iload_n hx hb dX10_append_17 rfl (lv_at hl 1 rfl) ?_
    obtain ⟨hc1, h⟩ := h
    refine m_iast (ws' := [(h0, .inr (9, oX10 r0 I_0_size I_0_length I_0_sign I_0_number I_0_figures I_0_power)), ((r0 3), .inl (cI, 60, .inl (upd A_0_3_tape (I_0_size).toNatClampNeg x1)))]) C0 hM 1 rfl hc1 rfl dX10_append_18 (fun H locs hM => ?_)
    refine lv_aload_n hx hb dX10_append_19 rfl (lv_at hl 0 rfl) ?_
    refine lv_dup hx hb dX10_append_20 rfl ?_
    refine m_get (C := RX10) (T := TX10) (N := 9) (ci := 9) (ref := "LoweredPowers$Texts") (v := .int I_0_size) C0 hM 0 rfl rfl kt_X10_append_X10 0 (by decide) kw_X10_append_1 rfl rfl dX10_append_21 ?_
    refine lv_iconst (v := (1 : Int32)) hx hb dX10_append_24 (by decide) ?_
    refine lv_iadd hx hb dX10_append_25 ?_
    refine lv_topi (fun y2 ey2 => ?_)
    have h := h y2 ey2
    refine m_put (ws' := [(h0, .inr (9, oX10 r0 y2 I_0_length I_0_sign I_0_number I_0_figures I_0_power)), ((r0 3), .inl (cI, 60, .inl (upd A_0_3_tape (I_0_size).toNatClampNeg x1)))]) (C := RX10) (T := TX10) (N := 9) (ci := 9) (ref := "LoweredPowers$Texts") (v := .int y2) C0 hM 0 rfl rfl kt_X10_append_X10 tyX10 tyX10_ok nmX10 0 (by decide) kw_X10_append_1 rfl rfl rfl rfl (Nat.le_of_ble_eq_true rfl) rfl dX10_append_26 (fun H locs hM => ?_)
    subst hsz; subst hA; subst hQ
    exact m_vret C0 hr hM (y2, (upd A_0_3_tape (I_0_size).toNatClampNeg x1)) h rfl dX10_append_29
abbrev rm_X10_startTerm : Room := { frames := 0, cells := 0, slots := 0, locals := 0 }
set_option maxRecDepth 100000 in
set_option maxHeartbeats 4000000 in
theorem ct_X10_startTerm (l : Launch) (D : va_G) (cI cJ cZ : ClassId) (h0 : Nat) (r0 : Nat → Nat) (I_0_size : Int32) (I_0_length : Int32) (I_0_sign : Int32) (I_0_number : Int32) (I_0_figures : Int32) (I_0_power : Int32) (x1 : Int32) (sz : Nat) (K : Int32 → Int32 → Int32 → Int32 → Prop) (h : wp_X10_startTerm x1 I_0_sign I_0_number I_0_figures I_0_power K) : Met l yX10_startTerm wsX10_startTerm rm_X10_startTerm (va_Pc [.ref h0, .int x1] (WX D cI cJ cZ [(h0, .inr (9, oX10 r0 I_0_size I_0_length I_0_sign I_0_number I_0_figures I_0_power))] sz)) (va_Qv (fun (u : Int32 × Int32 × Int32 × Int32) => K u.1 u.2.1 u.2.2.1 u.2.2.2) (fun (u : Int32 × Int32 × Int32 × Int32) t => WY D (va_A [(h0, .inr (9, oX10 r0 I_0_size I_0_length I_0_sign I_0_number I_0_figures I_0_power))] sz) [(h0, .inr (9, oX10 r0 I_0_size I_0_length u.1 u.2.1 u.2.2.1 u.2.2.2))] t) (va_A [(h0, .inr (9, oX10 r0 I_0_size I_0_length I_0_sign I_0_number I_0_figures I_0_power))] sz)) 0 0 (va_A [(h0, .inr (9, oX10 r0 I_0_size I_0_length I_0_sign I_0_number I_0_figures I_0_power))] sz) := by
  refine m_met (own := RX10) (cc := cX10_startTerm) (maxL := 2) (ret := none) [.ref h0, .int x1] [(0, .ref h0), (1, .int x1)] (by decide) rfl rfl (Nat.le_of_ble_eq_true rfl) rfl ?_
  intro p e s m args below meth c Q A hQ hA C0 hr hnm hsz hM ls hl
  have hx := C0.1
  have hb := C0.2.1
  have hown := C0.2.2.2.1
  unfold wp_X10_startTerm at h
  refine lv_aload_n hx hb dX10_startTerm_0 rfl (lv_at hl 0 rfl) ?_
  refine lv_iload_n hx hb dX10_startTerm_1 rfl (lv_at hl 1 rfl) ?_
  refine m_put (ws' := [(h0, .inr (9, oX10 r0 I_0_size I_0_length x1 I_0_number I_0_figures I_0_power))]) (C := RX10) (T := TX10) (N := 9) (ci := 9) (ref := "LoweredPowers$Texts") (v := .int x1) C0 hM 0 rfl rfl kt_X10_startTerm_X10 tyX10 tyX10_ok nmX10 5 (by decide) kw_X10_startTerm_1 rfl rfl rfl rfl (Nat.le_of_ble_eq_true rfl) rfl dX10_startTerm_2 (fun H locs hM => ?_)
  refine lv_aload_n hx hb dX10_startTerm_5 rfl (lv_at hl 0 rfl) ?_
  refine lv_iconst (v := (0 : Int32)) hx hb dX10_startTerm_6 (by decide) ?_
  refine m_put (ws' := [(h0, .inr (9, oX10 r0 I_0_size I_0_length x1 (0 : Int32) I_0_figures I_0_power))]) (C := RX10) (T := TX10) (N := 9) (ci := 9) (ref := "LoweredPowers$Texts") (v := .int (0 : Int32)) C0 hM 0 rfl rfl kt_X10_startTerm_X10 tyX10 tyX10_ok nmX10 6 (by decide) kw_X10_startTerm_2 rfl rfl rfl rfl (Nat.le_of_ble_eq_true rfl) rfl dX10_startTerm_7 (fun H locs hM => ?_)
  refine lv_aload_n hx hb dX10_startTerm_10 rfl (lv_at hl 0 rfl) ?_
  refine lv_iconst (v := (0 : Int32)) hx hb dX10_startTerm_11 (by decide) ?_
  refine m_put (ws' := [(h0, .inr (9, oX10 r0 I_0_size I_0_length x1 (0 : Int32) (0 : Int32) I_0_power))]) (C := RX10) (T := TX10) (N := 9) (ci := 9) (ref := "LoweredPowers$Texts") (v := .int (0 : Int32)) C0 hM 0 rfl rfl kt_X10_startTerm_X10 tyX10 tyX10_ok nmX10 7 (by decide) kw_X10_startTerm_3 rfl rfl rfl rfl (Nat.le_of_ble_eq_true rfl) rfl dX10_startTerm_12 (fun H locs hM => ?_)
  refine lv_aload_n hx hb dX10_startTerm_15 rfl (lv_at hl 0 rfl) ?_
  refine lv_iconst (v := (0 : Int32)) hx hb dX10_startTerm_16 (by decide) ?_
  refine m_put (ws' := [(h0, .inr (9, oX10 r0 I_0_size I_0_length x1 (0 : Int32) (0 : Int32) (0 : Int32)))]) (C := RX10) (T := TX10) (N := 9) (ci := 9) (ref := "LoweredPowers$Texts") (v := .int (0 : Int32)) C0 hM 0 rfl rfl kt_X10_startTerm_X10 tyX10 tyX10_ok nmX10 8 (by decide) kw_X10_startTerm_4 rfl rfl rfl rfl (Nat.le_of_ble_eq_true rfl) rfl dX10_startTerm_17 (fun H locs hM => ?_)
  subst hsz; subst hA; subst hQ
  exact m_vret C0 hr hM (x1, (0 : Int32), (0 : Int32), (0 : Int32)) h rfl dX10_startTerm_20
abbrev rm_X10_stepFigure : Room := { frames := 0, cells := 0, slots := 0, locals := 0 }
set_option maxRecDepth 100000 in
set_option maxHeartbeats 4000000 in
theorem ct_X10_stepFigure (l : Launch) (D : va_G) (cI cJ cZ : ClassId) (h0 : Nat) (r0 : Nat → Nat) (I_0_size : Int32) (I_0_length : Int32) (I_0_sign : Int32) (I_0_number : Int32) (I_0_figures : Int32) (I_0_power : Int32) (x1 : Int32) (x2 : Int32) (sz : Nat) (K : Int32 → Int32 → Int32 → Int32 → Prop) (h : wp_X10_stepFigure x1 x2 I_0_number I_0_figures I_0_power K) : Met l yX10_stepFigure wsX10_stepFigure rm_X10_stepFigure (va_Pc [.ref h0, .int x1, .int x2] (WX D cI cJ cZ [(h0, .inr (9, oX10 r0 I_0_size I_0_length I_0_sign I_0_number I_0_figures I_0_power))] sz)) (va_Qi (fun (r : Int32) (u : Int32 × Int32 × Int32) => K r u.1 u.2.1 u.2.2) (fun (u : Int32 × Int32 × Int32) t => WY D (va_A [(h0, .inr (9, oX10 r0 I_0_size I_0_length I_0_sign I_0_number I_0_figures I_0_power))] sz) [(h0, .inr (9, oX10 r0 I_0_size I_0_length I_0_sign u.1 u.2.1 u.2.2))] t) (va_A [(h0, .inr (9, oX10 r0 I_0_size I_0_length I_0_sign I_0_number I_0_figures I_0_power))] sz)) 0 0 (va_A [(h0, .inr (9, oX10 r0 I_0_size I_0_length I_0_sign I_0_number I_0_figures I_0_power))] sz) := by
  refine m_met (own := RX10) (cc := cX10_stepFigure) (maxL := 3) (ret := some .int) [.ref h0, .int x1, .int x2] [(0, .ref h0), (1, .int x1), (2, .int x2)] (by decide) rfl rfl (Nat.le_of_ble_eq_true rfl) rfl ?_
  intro p e s m args below meth c Q A hQ hA C0 hr hnm hsz hM ls hl
  have hx := C0.1
  have hb := C0.2.1
  have hown := C0.2.2.2.1
  have jq44 : ∀ (I_0_number : Int32) (I_0_figures : Int32) (I_0_power : Int32) (H : Heap) (locs : List Loc) (ls : Array Slot) , jn_X10_stepFigure_44 x1 x2 K I_0_number I_0_figures I_0_power → MW D A s.heap [(h0, .inr (9, oX10 r0 I_0_size I_0_length I_0_sign I_0_number I_0_figures I_0_power))] H locs → lv_has ls 3 [(0, .ref h0), (2, .int x2)] → W p l e rm_X10_stepFigure s m args below meth c H locs 0 0 Q (F0 m 44 ls []) := by
    intro I_0_number I_0_figures I_0_power H locs ls h hM hl
    unfold jn_X10_stepFigure_44 at h
    refine lv_aload_n hx hb dX10_stepFigure_44 rfl (lv_at hl 0 rfl) ?_
    refine lv_aload_n hx hb dX10_stepFigure_45 rfl (lv_at hl 0 rfl) ?_
    refine m_get (C := RX10) (T := TX10) (N := 9) (ci := 9) (ref := "LoweredPowers$Texts") (v := .int I_0_number) C0 hM 0 rfl rfl kt_X10_stepFigure_X10 6 (by decide) kw_X10_stepFigure_3 rfl rfl dX10_stepFigure_46 ?_
    refine lv_bipush (v := (10 : Int32)) hx hb dX10_stepFigure_49 (by decide) ?_
    refine lv_imul hx hb dX10_stepFigure_51 ?_
    refine lv_iload_n hx hb dX10_stepFigure_52 rfl (lv_at hl 1 rfl) ?_
    refine lv_iadd hx hb dX10_stepFigure_53 ?_
    refine lv_topi (fun y1 ey1 => ?_)
    have h := h y1 ey1
    refine m_put (ws' := [(h0, .inr (9, oX10 r0 I_0_size I_0_length I_0_sign y1 I_0_figures I_0_power))]) (C := RX10) (T := TX10) (N := 9) (ci := 9) (ref := "LoweredPowers$Texts") (v := .int y1) C0 hM 0 rfl rfl kt_X10_stepFigure_X10 tyX10 tyX10_ok nmX10 6 (by decide) kw_X10_stepFigure_3 rfl rfl rfl rfl (Nat.le_of_ble_eq_true rfl) rfl dX10_stepFigure_54 (fun H locs hM => ?_)
    refine lv_aload_n hx hb dX10_stepFigure_57 rfl (lv_at hl 0 rfl) ?_
    refine lv_dup hx hb dX10_stepFigure_58 rfl ?_
    refine m_get (C := RX10) (T := TX10) (N := 9) (ci := 9) (ref := "LoweredPowers$Texts") (v := .int I_0_figures) C0 hM 0 rfl rfl kt_X10_stepFigure_X10 7 (by decide) kw_X10_stepFigure_2 rfl rfl dX10_stepFigure_59 ?_
    refine lv_iconst (v := (1 : Int32)) hx hb dX10_stepFigure_62 (by decide) ?_
    refine lv_iadd hx hb dX10_stepFigure_63 ?_
    refine lv_topi (fun y2 ey2 => ?_)
    have h := h y2 ey2
    refine m_put (ws' := [(h0, .inr (9, oX10 r0 I_0_size I_0_length I_0_sign y1 y2 I_0_power))]) (C := RX10) (T := TX10) (N := 9) (ci := 9) (ref := "LoweredPowers$Texts") (v := .int y2) C0 hM 0 rfl rfl kt_X10_stepFigure_X10 tyX10 tyX10_ok nmX10 7 (by decide) kw_X10_stepFigure_2 rfl rfl rfl rfl (Nat.le_of_ble_eq_true rfl) rfl dX10_stepFigure_64 (fun H locs hM => ?_)
    refine lv_iconst (v := (2 : Int32)) hx hb dX10_stepFigure_67 (by decide) ?_
    subst hsz; subst hA; subst hQ
    exact m_iret C0 hr hM (y1, y2, I_0_power) h rfl dX10_stepFigure_68
  unfold wp_X10_stepFigure at h
  refine lv_iload_n hx hb dX10_stepFigure_0 rfl (lv_at hl 1 rfl) ?_
  refine lv_iconst (v := (4 : Int32)) hx hb dX10_stepFigure_1 (by decide) ?_
  refine lv_icmp_ne (tgt := 22) hx hb dX10_stepFigure_2 (by decide) (fun hq => ?_) (fun hq => ?_)
  · have h := h.1 hq
    refine lv_iload_n hx hb dX10_stepFigure_22 rfl (lv_at hl 1 rfl) ?_
    refine lv_if_eq (tgt := 44) hx hb dX10_stepFigure_23 (by decide) (fun hq => ?_) (fun hq => ?_)
    · have h := h.1 hq
      exact jq44 _ _ _ _ _ _ h hM (lv_sub hl [0, 2] rfl)
    · have h := h.2 hq
      refine lv_iload_n hx hb dX10_stepFigure_26 rfl (lv_at hl 1 rfl) ?_
      refine lv_iconst (v := (1 : Int32)) hx hb dX10_stepFigure_27 (by decide) ?_
      refine lv_icmp_eq (tgt := 44) hx hb dX10_stepFigure_28 (by decide) (fun hq => ?_) (fun hq => ?_)
      · have h := h.1 hq
        exact jq44 _ _ _ _ _ _ h hM (lv_sub hl [0, 2] rfl)
      · have h := h.2 hq
        refine lv_iload_n hx hb dX10_stepFigure_31 rfl (lv_at hl 1 rfl) ?_
        refine lv_iconst (v := (2 : Int32)) hx hb dX10_stepFigure_32 (by decide) ?_
        refine lv_icmp_ne (tgt := 69) hx hb dX10_stepFigure_33 (by decide) (fun hq => ?_) (fun hq => ?_)
        · have h := h.1 hq
          refine lv_bipush (v := (6 : Int32)) hx hb dX10_stepFigure_69 (by decide) ?_
          subst hsz; subst hA; subst hQ
          exact m_iret C0 hr hM (I_0_number, I_0_figures, I_0_power) h rfl dX10_stepFigure_71
        · have h := h.2 hq
          refine lv_aload_n hx hb dX10_stepFigure_36 rfl (lv_at hl 0 rfl) ?_
          refine m_get (C := RX10) (T := TX10) (N := 9) (ci := 9) (ref := "LoweredPowers$Texts") (v := .int I_0_figures) C0 hM 0 rfl rfl kt_X10_stepFigure_X10 7 (by decide) kw_X10_stepFigure_2 rfl rfl dX10_stepFigure_37 ?_
          refine lv_iconst (v := (3 : Int32)) hx hb dX10_stepFigure_40 (by decide) ?_
          refine lv_icmp_ge (tgt := 69) hx hb dX10_stepFigure_41 (by decide) (fun hq => ?_) (fun hq => ?_)
          · have h := h.1 hq
            refine lv_bipush (v := (6 : Int32)) hx hb dX10_stepFigure_69 (by decide) ?_
            subst hsz; subst hA; subst hQ
            exact m_iret C0 hr hM (I_0_number, I_0_figures, I_0_power) h rfl dX10_stepFigure_71
          · have h := h.2 hq
            exact jq44 _ _ _ _ _ _ h hM (lv_sub hl [0, 2] rfl)
  · have h := h.2 hq
    refine lv_aload_n hx hb dX10_stepFigure_5 rfl (lv_at hl 0 rfl) ?_
    refine lv_iload_n hx hb dX10_stepFigure_6 rfl (lv_at hl 2 rfl) ?_
    refine m_put (ws' := [(h0, .inr (9, oX10 r0 I_0_size I_0_length I_0_sign I_0_number I_0_figures x2))]) (C := RX10) (T := TX10) (N := 9) (ci := 9) (ref := "LoweredPowers$Texts") (v := .int x2) C0 hM 0 rfl rfl kt_X10_stepFigure_X10 tyX10 tyX10_ok nmX10 8 (by decide) kw_X10_stepFigure_1 rfl rfl rfl rfl (Nat.le_of_ble_eq_true rfl) rfl dX10_stepFigure_7 (fun H locs hM => ?_)
    refine lv_iload_n hx hb dX10_stepFigure_10 rfl (lv_at hl 2 rfl) ?_
    refine lv_iconst (v := (4 : Int32)) hx hb dX10_stepFigure_11 (by decide) ?_
    refine lv_icmp_gt (tgt := 19) hx hb dX10_stepFigure_12 (by decide) (fun hq => ?_) (fun hq => ?_)
    · have h := h.1 hq
      refine lv_bipush (v := (6 : Int32)) hx hb dX10_stepFigure_19 (by decide) ?_
      subst hsz; subst hA; subst hQ
      exact m_iret C0 hr hM (I_0_number, I_0_figures, x2) h rfl dX10_stepFigure_21
    · have h := h.2 hq
      refine lv_iconst (v := (5 : Int32)) hx hb dX10_stepFigure_15 (by decide) ?_
      refine lv_goto (tgt := 21) hx hb dX10_stepFigure_16 (by decide) ?_
      subst hsz; subst hA; subst hQ
      exact m_iret C0 hr hM (I_0_number, I_0_figures, x2) h rfl dX10_stepFigure_21
abbrev rm_X10_stepUnknown : Room := { frames := 0, cells := 0, slots := 0, locals := 0 }
set_option maxRecDepth 100000 in
set_option maxHeartbeats 4000000 in
theorem ct_X10_stepUnknown (l : Launch) (D : va_G) (cI cJ cZ : ClassId) (h0 : Nat) (r0 : Nat → Nat) (I_0_size : Int32) (I_0_length : Int32) (I_0_sign : Int32) (I_0_number : Int32) (I_0_figures : Int32) (I_0_power : Int32) (x1 : Int32) (sz : Nat) (K : Int32 → Int32 → Int32 → Prop) (h : wp_X10_stepUnknown x1 I_0_number I_0_power K) : Met l yX10_stepUnknown wsX10_stepUnknown rm_X10_stepUnknown (va_Pc [.ref h0, .int x1] (WX D cI cJ cZ [(h0, .inr (9, oX10 r0 I_0_size I_0_length I_0_sign I_0_number I_0_figures I_0_power))] sz)) (va_Qi (fun (r : Int32) (u : Int32 × Int32) => K r u.1 u.2) (fun (u : Int32 × Int32) t => WY D (va_A [(h0, .inr (9, oX10 r0 I_0_size I_0_length I_0_sign I_0_number I_0_figures I_0_power))] sz) [(h0, .inr (9, oX10 r0 I_0_size I_0_length I_0_sign u.1 I_0_figures u.2))] t) (va_A [(h0, .inr (9, oX10 r0 I_0_size I_0_length I_0_sign I_0_number I_0_figures I_0_power))] sz)) 0 0 (va_A [(h0, .inr (9, oX10 r0 I_0_size I_0_length I_0_sign I_0_number I_0_figures I_0_power))] sz) := by
  refine m_met (own := RX10) (cc := cX10_stepUnknown) (maxL := 2) (ret := some .int) [.ref h0, .int x1] [(0, .ref h0), (1, .int x1)] (by decide) rfl rfl (Nat.le_of_ble_eq_true rfl) rfl ?_
  intro p e s m args below meth c Q A hQ hA C0 hr hnm hsz hM ls hl
  have hx := C0.1
  have hb := C0.2.1
  have hown := C0.2.2.2.1
  have jq25 : ∀ (I_0_number : Int32) (I_0_power : Int32) (H : Heap) (locs : List Loc) (ls : Array Slot) , jn_X10_stepUnknown_25 x1 K I_0_number I_0_power → MW D A s.heap [(h0, .inr (9, oX10 r0 I_0_size I_0_length I_0_sign I_0_number I_0_figures I_0_power))] H locs → lv_has ls 2 [(0, .ref h0)] → W p l e rm_X10_stepUnknown s m args below meth c H locs 0 0 Q (F0 m 25 ls []) := by
    intro I_0_number I_0_power H locs ls h hM hl
    unfold jn_X10_stepUnknown_25 at h
    refine lv_aload_n hx hb dX10_stepUnknown_25 rfl (lv_at hl 0 rfl) ?_
    refine lv_iconst (v := (1 : Int32)) hx hb dX10_stepUnknown_26 (by decide) ?_
    refine m_put (ws' := [(h0, .inr (9, oX10 r0 I_0_size I_0_length I_0_sign I_0_number I_0_figures (1 : Int32)))]) (C := RX10) (T := TX10) (N := 9) (ci := 9) (ref := "LoweredPowers$Texts") (v := .int (1 : Int32)) C0 hM 0 rfl rfl kt_X10_stepUnknown_X10 tyX10 tyX10_ok nmX10 8 (by decide) kw_X10_stepUnknown_2 rfl rfl rfl rfl (Nat.le_of_ble_eq_true rfl) rfl dX10_stepUnknown_27 (fun H locs hM => ?_)
    refine lv_iconst (v := (3 : Int32)) hx hb dX10_stepUnknown_30 (by decide) ?_
    subst hsz; subst hA; subst hQ
    exact m_iret C0 hr hM (I_0_number, (1 : Int32)) h rfl dX10_stepUnknown_31
  have jq9 : ∀ (I_0_number : Int32) (I_0_power : Int32) (H : Heap) (locs : List Loc) (ls : Array Slot) , jn_X10_stepUnknown_9 x1 K I_0_number I_0_power → MW D A s.heap [(h0, .inr (9, oX10 r0 I_0_size I_0_length I_0_sign I_0_number I_0_figures I_0_power))] H locs → lv_has ls 2 [(0, .ref h0)] → W p l e rm_X10_stepUnknown s m args below meth c H locs 0 0 Q (F0 m 9 ls []) := by
    intro I_0_number I_0_power H locs ls h hM hl
    unfold jn_X10_stepUnknown_9 at h
    refine lv_aload_n hx hb dX10_stepUnknown_9 rfl (lv_at hl 0 rfl) ?_
    refine lv_iconst (v := (1 : Int32)) hx hb dX10_stepUnknown_10 (by decide) ?_
    refine m_put (ws' := [(h0, .inr (9, oX10 r0 I_0_size I_0_length I_0_sign (1 : Int32) I_0_figures I_0_power))]) (C := RX10) (T := TX10) (N := 9) (ci := 9) (ref := "LoweredPowers$Texts") (v := .int (1 : Int32)) C0 hM 0 rfl rfl kt_X10_stepUnknown_X10 tyX10 tyX10_ok nmX10 6 (by decide) kw_X10_stepUnknown_1 rfl rfl rfl rfl (Nat.le_of_ble_eq_true rfl) rfl dX10_stepUnknown_11 (fun H locs hM => ?_)
    refine lv_goto (tgt := 25) hx hb dX10_stepUnknown_14 (by decide) ?_
    exact jq25 _ _ _ _ _ h hM (lv_sub hl [0] rfl)
  unfold wp_X10_stepUnknown at h
  refine lv_iload_n hx hb dX10_stepUnknown_0 rfl (lv_at hl 1 rfl) ?_
  refine lv_if_eq (tgt := 9) hx hb dX10_stepUnknown_1 (by decide) (fun hq => ?_) (fun hq => ?_)
  · have h := h.1 hq
    exact jq9 _ _ _ _ _ h hM (lv_sub hl [0] rfl)
  · have h := h.2 hq
    refine lv_iload_n hx hb dX10_stepUnknown_4 rfl (lv_at hl 1 rfl) ?_
    refine lv_iconst (v := (1 : Int32)) hx hb dX10_stepUnknown_5 (by decide) ?_
    refine lv_icmp_ne (tgt := 17) hx hb dX10_stepUnknown_6 (by decide) (fun hq => ?_) (fun hq => ?_)
    · have h := h.1 hq
      refine lv_iload_n hx hb dX10_stepUnknown_17 rfl (lv_at hl 1 rfl) ?_
      refine lv_iconst (v := (2 : Int32)) hx hb dX10_stepUnknown_18 (by decide) ?_
      refine lv_icmp_eq (tgt := 25) hx hb dX10_stepUnknown_19 (by decide) (fun hq => ?_) (fun hq => ?_)
      · have h := h.1 hq
        exact jq25 _ _ _ _ _ h hM (lv_sub hl [0] rfl)
      · have h := h.2 hq
        refine lv_bipush (v := (6 : Int32)) hx hb dX10_stepUnknown_22 (by decide) ?_
        subst hsz; subst hA; subst hQ
        exact m_iret C0 hr hM (I_0_number, I_0_power) h rfl dX10_stepUnknown_24
    · have h := h.2 hq
      exact jq9 _ _ _ _ _ h hM (lv_sub hl [0] rfl)
abbrev rm_X10_mayEnd : Room := { frames := 0, cells := 0, slots := 0, locals := 0 }
set_option maxRecDepth 100000 in
set_option maxHeartbeats 4000000 in
theorem ct_X10_mayEnd (l : Launch) (D : va_G) (cI cJ cZ : ClassId) (x0 : Int32) (sz : Nat) (K : Int32 → Prop) (h : wp_X10_mayEnd x0 K) : Met l yX10_mayEnd wsX10_mayEnd rm_X10_mayEnd (va_Pc [.int x0] (WX D cI cJ cZ [] sz)) (va_Qi (fun (r : Int32) (_ : Unit) => K r ) (fun (_ : Unit) t => WY D (va_A [] sz) [] t) (va_A [] sz)) 0 0 (va_A [] sz) := by
  refine m_met (own := RX10) (cc := cX10_mayEnd) (maxL := 1) (ret := some .boolean) [.int x0] [(0, .int x0)] (by decide) rfl rfl (Nat.le_of_ble_eq_true rfl) rfl ?_
  intro p e s m args below meth c Q A hQ hA C0 hr hnm hsz hM ls hl
  have hx := C0.1
  have hb := C0.2.1
  have hown := C0.2.2.2.1
  unfold wp_X10_mayEnd at h
  refine lv_iload_n hx hb dX10_mayEnd_0 rfl (lv_at hl 0 rfl) ?_
  refine lv_iconst (v := (2 : Int32)) hx hb dX10_mayEnd_1 (by decide) ?_
  refine lv_icmp_eq (tgt := 15) hx hb dX10_mayEnd_2 (by decide) (fun hq => ?_) (fun hq => ?_)
  · have h := h.1 hq
    refine lv_iconst (v := (1 : Int32)) hx hb dX10_mayEnd_15 (by decide) ?_
    refine lv_goto (tgt := 20) hx hb dX10_mayEnd_16 (by decide) ?_
    subst hsz; subst hA; subst hQ
    exact m_zret C0 hr hM rfl () h rfl dX10_mayEnd_20
  · have h := h.2 hq
    refine lv_iload_n hx hb dX10_mayEnd_5 rfl (lv_at hl 0 rfl) ?_
    refine lv_iconst (v := (3 : Int32)) hx hb dX10_mayEnd_6 (by decide) ?_
    refine lv_icmp_eq (tgt := 15) hx hb dX10_mayEnd_7 (by decide) (fun hq => ?_) (fun hq => ?_)
    · have h := h.1 hq
      refine lv_iconst (v := (1 : Int32)) hx hb dX10_mayEnd_15 (by decide) ?_
      refine lv_goto (tgt := 20) hx hb dX10_mayEnd_16 (by decide) ?_
      subst hsz; subst hA; subst hQ
      exact m_zret C0 hr hM rfl () h rfl dX10_mayEnd_20
    · have h := h.2 hq
      refine lv_iload_n hx hb dX10_mayEnd_10 rfl (lv_at hl 0 rfl) ?_
      refine lv_iconst (v := (5 : Int32)) hx hb dX10_mayEnd_11 (by decide) ?_
      refine lv_icmp_ne (tgt := 19) hx hb dX10_mayEnd_12 (by decide) (fun hq => ?_) (fun hq => ?_)
      · have h := h.1 hq
        refine lv_iconst (v := (0 : Int32)) hx hb dX10_mayEnd_19 (by decide) ?_
        subst hsz; subst hA; subst hQ
        exact m_zret C0 hr hM rfl () h rfl dX10_mayEnd_20
      · have h := h.2 hq
        refine lv_iconst (v := (1 : Int32)) hx hb dX10_mayEnd_15 (by decide) ?_
        refine lv_goto (tgt := 20) hx hb dX10_mayEnd_16 (by decide) ?_
        subst hsz; subst hA; subst hQ
        exact m_zret C0 hr hM rfl () h rfl dX10_mayEnd_20
abbrev rm_X10_endTerm : Room := { frames := 1, cells := 0, slots := 0, locals := 22 }
set_option maxRecDepth 100000 in
set_option maxHeartbeats 4000000 in
theorem ct_X10_endTerm (l : Launch) (D : va_G) (cI cJ cZ : ClassId) (h0 : Nat) (r0 : Nat → Nat) (I_0_size : Int32) (I_0_length : Int32) (I_0_sign : Int32) (I_0_number : Int32) (I_0_figures : Int32) (I_0_power : Int32) (A_0_1_told : (Nat → Int32)) (sz : Nat) (K : (Nat → Int32) → Prop) (h : wp_X10_endTerm I_0_sign I_0_number I_0_power A_0_1_told K) : Met l yX10_endTerm wsX10_endTerm rm_X10_endTerm (va_Pc [.ref h0] (WX D cI cJ cZ [(h0, .inr (9, oX10 r0 I_0_size I_0_length I_0_sign I_0_number I_0_figures I_0_power)), ((r0 1), .inl (cI, 5, .inl A_0_1_told))] sz)) (va_Qv (fun (u : (Nat → Int32)) => K u) (fun (u : (Nat → Int32)) t => WY D (va_A [(h0, .inr (9, oX10 r0 I_0_size I_0_length I_0_sign I_0_number I_0_figures I_0_power)), ((r0 1), .inl (cI, 5, .inl A_0_1_told))] sz) [(h0, .inr (9, oX10 r0 I_0_size I_0_length I_0_sign I_0_number I_0_figures I_0_power)), ((r0 1), .inl (cI, 5, .inl u))] t) (va_A [(h0, .inr (9, oX10 r0 I_0_size I_0_length I_0_sign I_0_number I_0_figures I_0_power)), ((r0 1), .inl (cI, 5, .inl A_0_1_told))] sz)) 0 0 (va_A [(h0, .inr (9, oX10 r0 I_0_size I_0_length I_0_sign I_0_number I_0_figures I_0_power)), ((r0 1), .inl (cI, 5, .inl A_0_1_told))] sz) := by
  refine m_met (own := RX10) (cc := cX10_endTerm) (maxL := 1) (ret := none) [.ref h0] [(0, .ref h0)] (by decide) rfl rfl (Nat.le_of_ble_eq_true rfl) rfl ?_
  intro p e s m args below meth c Q A hQ hA C0 hr hnm hsz hM ls hl
  have hx := C0.1
  have hb := C0.2.1
  have hown := C0.2.2.2.1
  unfold wp_X10_endTerm at h
  refine lv_aload_n hx hb dX10_endTerm_0 rfl (lv_at hl 0 rfl) ?_
  refine m_get (C := RX10) (T := TX10) (N := 9) (ci := 9) (ref := "LoweredPowers$Texts") (v := .int I_0_power) C0 hM 0 rfl rfl kt_X10_endTerm_X10 8 (by decide) kw_X10_endTerm_1 rfl rfl dX10_endTerm_1 ?_
  refine lv_iconst (v := (0 : Int32)) hx hb dX10_endTerm_4 (by decide) ?_
  refine lv_iconst (v := (4 : Int32)) hx hb dX10_endTerm_5 (by decide) ?_
  refine m_calli (wc := []) C0 hM [] rfl (m_runSN (wc := []) (As := [.int I_0_power, .int (0 : Int32), .int (4 : Int32)]) (rest := []) C0 hM (ct_X11_within l D cI cJ cZ I_0_power (0 : Int32) (4 : Int32) _ _ h) [] rfl (by decide) gX10_endTerm_X11_within_n71 rfl rfl rfl (C0.2.2.2.2.2.2.2.1).2.2.2.2.2.2.2.2 kw_X10_endTerm_6 kw_X10_endTerm_5 hd_X11_within ⟨Nat.le_of_ble_eq_true rfl, Nat.le_of_ble_eq_true rfl⟩ rfl hl.1 rfl (Nat.le_of_ble_eq_true rfl) dX10_endTerm_6 ⟨Nat.le_of_ble_eq_true rfl, Nat.le_of_ble_eq_true rfl⟩) (fun _ => [(h0, .inr (9, oX10 r0 I_0_size I_0_length I_0_sign I_0_number I_0_figures I_0_power)), ((r0 1), .inl (cI, 5, .inl A_0_1_told))]) (fun _ => rfl) (fun _ => rfl) (fun y1 _ H locs h hM => ?_)
  refine lv_if_eq (tgt := 46) hx hb dX10_endTerm_9 (by decide) (fun hq => ?_) (fun hq => ?_)
  · have h := h.1 hq
    subst hsz; subst hA; subst hQ
    exact m_vret C0 hr hM A_0_1_told h rfl dX10_endTerm_46
  · have h := h.2 hq
    refine lv_aload_n hx hb dX10_endTerm_12 rfl (lv_at hl 0 rfl) ?_
    refine m_get (C := RX10) (T := TX10) (N := 9) (ci := 9) (ref := "LoweredPowers$Texts") (v := .ref (r0 1)) C0 hM 0 rfl rfl kt_X10_endTerm_X10 1 (by decide) kw_X10_endTerm_2 rfl rfl dX10_endTerm_13 ?_
    refine lv_aload_n hx hb dX10_endTerm_16 rfl (lv_at hl 0 rfl) ?_
    refine m_get (C := RX10) (T := TX10) (N := 9) (ci := 9) (ref := "LoweredPowers$Texts") (v := .int I_0_power) C0 hM 0 rfl rfl kt_X10_endTerm_X10 8 (by decide) kw_X10_endTerm_1 rfl rfl dX10_endTerm_17 ?_
    refine lv_aload_n hx hb dX10_endTerm_20 rfl (lv_at hl 0 rfl) ?_
    refine m_get (C := RX10) (T := TX10) (N := 9) (ci := 9) (ref := "LoweredPowers$Texts") (v := .ref (r0 1)) C0 hM 0 rfl rfl kt_X10_endTerm_X10 1 (by decide) kw_X10_endTerm_2 rfl rfl dX10_endTerm_21 ?_
    refine lv_aload_n hx hb dX10_endTerm_24 rfl (lv_at hl 0 rfl) ?_
    refine m_get (C := RX10) (T := TX10) (N := 9) (ci := 9) (ref := "LoweredPowers$Texts") (v := .int I_0_power) C0 hM 0 rfl rfl kt_X10_endTerm_X10 8 (by decide) kw_X10_endTerm_1 rfl rfl dX10_endTerm_25 ?_
    obtain ⟨hc2, h⟩ := h
    refine m_iald C0 hM 1 rfl hc2 dX10_endTerm_28 ?_
    refine lv_i2l hx hb dX10_endTerm_29 rfl ?_
    refine lv_aload_n hx hb dX10_endTerm_30 rfl (lv_at hl 0 rfl) ?_
    refine m_get (C := RX10) (T := TX10) (N := 9) (ci := 9) (ref := "LoweredPowers$Texts") (v := .int I_0_sign) C0 hM 0 rfl rfl kt_X10_endTerm_X10 5 (by decide) kw_X10_endTerm_3 rfl rfl dX10_endTerm_31 ?_
    refine lv_i2l hx hb dX10_endTerm_34 rfl ?_
    refine lv_aload_n hx hb dX10_endTerm_35 rfl (lv_at hl 0 rfl) ?_
    refine m_get (C := RX10) (T := TX10) (N := 9) (ci := 9) (ref := "LoweredPowers$Texts") (v := .int I_0_number) C0 hM 0 rfl rfl kt_X10_endTerm_X10 6 (by decide) kw_X10_endTerm_4 rfl rfl dX10_endTerm_36 ?_
    refine lv_i2l hx hb dX10_endTerm_39 rfl ?_
    refine lv_lmul hx hb dX10_endTerm_40 ?_
    refine lv_ladd hx hb dX10_endTerm_41 ?_
    refine m_calli (wc := []) C0 hM [] rfl (m_runS (wc := []) (As := [.long (((A_0_1_told (I_0_power).toNatClampNeg).toInt64) + ((I_0_sign.toInt64) * (I_0_number.toInt64)))]) (rest := [.int I_0_power, .ref (r0 1)]) C0 hM (ct_X3_fold l D cI cJ cZ (((A_0_1_told (I_0_power).toNatClampNeg).toInt64) + ((I_0_sign.toInt64) * (I_0_number.toInt64))) _ _ h) [] rfl (by decide) gX10_endTerm_X3_fold rfl rfl rfl hd_X3_fold ⟨Nat.le_of_ble_eq_true rfl, Nat.le_of_ble_eq_true rfl⟩ rfl hl.1 rfl (Nat.le_of_ble_eq_true rfl) dX10_endTerm_42 ⟨Nat.le_of_ble_eq_true rfl, Nat.le_of_ble_eq_true rfl⟩) (fun _ => [(h0, .inr (9, oX10 r0 I_0_size I_0_length I_0_sign I_0_number I_0_figures I_0_power)), ((r0 1), .inl (cI, 5, .inl A_0_1_told))]) (fun _ => rfl) (fun _ => rfl) (fun y3 _ H locs h hM => ?_)
    refine m_iast (ws' := [(h0, .inr (9, oX10 r0 I_0_size I_0_length I_0_sign I_0_number I_0_figures I_0_power)), ((r0 1), .inl (cI, 5, .inl (upd A_0_1_told (I_0_power).toNatClampNeg y3)))]) C0 hM 1 rfl hc2 rfl dX10_endTerm_45 (fun H locs hM => ?_)
    subst hsz; subst hA; subst hQ
    exact m_vret C0 hr hM (upd A_0_1_told (I_0_power).toNatClampNeg y3) h rfl dX10_endTerm_46
abbrev rm_X10_stepSign : Room := { frames := 2, cells := 0, slots := 0, locals := 42 }
set_option maxRecDepth 100000 in
set_option maxHeartbeats 4000000 in
theorem ct_X10_stepSign (l : Launch) (D : va_G) (cI cJ cZ : ClassId) (h0 : Nat) (r0 : Nat → Nat) (I_0_size : Int32) (I_0_length : Int32) (I_0_sign : Int32) (I_0_number : Int32) (I_0_figures : Int32) (I_0_power : Int32) (A_0_1_told : (Nat → Int32)) (x1 : Int32) (x2 : Int32) (sz : Nat) (K : Int32 → Int32 → Int32 → Int32 → Int32 → (Nat → Int32) → Prop) (h : wp_X10_stepSign x1 x2 I_0_sign I_0_number I_0_figures I_0_power A_0_1_told K) : Met l yX10_stepSign wsX10_stepSign rm_X10_stepSign (va_Pc [.ref h0, .int x1, .int x2] (WX D cI cJ cZ [(h0, .inr (9, oX10 r0 I_0_size I_0_length I_0_sign I_0_number I_0_figures I_0_power)), ((r0 1), .inl (cI, 5, .inl A_0_1_told))] sz)) (va_Qi (fun (r : Int32) (u : Int32 × Int32 × Int32 × Int32 × (Nat → Int32)) => K r u.1 u.2.1 u.2.2.1 u.2.2.2.1 u.2.2.2.2) (fun (u : Int32 × Int32 × Int32 × Int32 × (Nat → Int32)) t => WY D (va_A [(h0, .inr (9, oX10 r0 I_0_size I_0_length I_0_sign I_0_number I_0_figures I_0_power)), ((r0 1), .inl (cI, 5, .inl A_0_1_told))] sz) [(h0, .inr (9, oX10 r0 I_0_size I_0_length u.1 u.2.1 u.2.2.1 u.2.2.2.1)), ((r0 1), .inl (cI, 5, .inl u.2.2.2.2))] t) (va_A [(h0, .inr (9, oX10 r0 I_0_size I_0_length I_0_sign I_0_number I_0_figures I_0_power)), ((r0 1), .inl (cI, 5, .inl A_0_1_told))] sz)) 0 0 (va_A [(h0, .inr (9, oX10 r0 I_0_size I_0_length I_0_sign I_0_number I_0_figures I_0_power)), ((r0 1), .inl (cI, 5, .inl A_0_1_told))] sz) := by
  refine m_met (own := RX10) (cc := cX10_stepSign) (maxL := 3) (ret := some .int) [.ref h0, .int x1, .int x2] [(0, .ref h0), (1, .int x1), (2, .int x2)] (by decide) rfl rfl (Nat.le_of_ble_eq_true rfl) rfl ?_
  intro p e s m args below meth c Q A hQ hA C0 hr hnm hsz hM ls hl
  have hx := C0.1
  have hb := C0.2.1
  have hown := C0.2.2.2.1
  have jq25 : ∀ (I_0_sign : Int32) (I_0_number : Int32) (I_0_figures : Int32) (I_0_power : Int32) (A_0_1_told : (Nat → Int32)) (H : Heap) (locs : List Loc) (ls : Array Slot) , jn_X10_stepSign_25 x1 x2 K I_0_sign I_0_number I_0_figures I_0_power A_0_1_told → MW D A s.heap [(h0, .inr (9, oX10 r0 I_0_size I_0_length I_0_sign I_0_number I_0_figures I_0_power)), ((r0 1), .inl (cI, 5, .inl A_0_1_told))] H locs → lv_has ls 3 [(0, .ref h0), (2, .int x2)] → W p l e rm_X10_stepSign s m args below meth c H locs 0 0 Q (F0 m 25 ls []) := by
    intro I_0_sign I_0_number I_0_figures I_0_power A_0_1_told H locs ls h hM hl
    unfold jn_X10_stepSign_25 at h
    refine lv_aload_n hx hb dX10_stepSign_25 rfl (lv_at hl 0 rfl) ?_
    refine lv_iload_n hx hb dX10_stepSign_26 rfl (lv_at hl 1 rfl) ?_
    refine m_callv (wc := [(h0, .inr (9, oX10 r0 I_0_size I_0_length I_0_sign I_0_number I_0_figures I_0_power))]) C0 hM [0] rfl (m_runV (wc := [(h0, .inr (9, oX10 r0 I_0_size I_0_length I_0_sign I_0_number I_0_figures I_0_power))]) (As := [.int x2]) (rest := []) (ci := 9) C0 hM (ct_X10_startTerm l D cI cJ cZ h0 r0 I_0_size I_0_length I_0_sign I_0_number I_0_figures I_0_power x2 _ _ h) [0] rfl (by decide) gX10_stepSign_X10_startTerm rfl rfl rfl rfl rfl hd_X10_startTerm ⟨Nat.le_of_ble_eq_true rfl, Nat.le_of_ble_eq_true rfl⟩ rfl hl.1 rfl (Nat.le_of_ble_eq_true rfl) dX10_stepSign_27 ⟨Nat.le_of_ble_eq_true rfl, Nat.le_of_ble_eq_true rfl⟩) (fun u => [(h0, .inr (9, oX10 r0 I_0_size I_0_length u.1 u.2.1 u.2.2.1 u.2.2.2)), ((r0 1), .inl (cI, 5, .inl A_0_1_told))]) (fun _ => rfl) (fun _ => rfl) (fun u H locs h hM => ?_)
    obtain ⟨b1, b2, b3, b4⟩ := u
    dsimp only at h
    have hM : MW D A s.heap [(h0, .inr (9, oX10 r0 I_0_size I_0_length b1 b2 b3 b4)), ((r0 1), .inl (cI, 5, .inl A_0_1_told))] H locs := hM
    refine lv_iconst (v := (1 : Int32)) hx hb dX10_stepSign_30 (by decide) ?_
    subst hsz; subst hA; subst hQ
    exact m_iret C0 hr hM (b1, b2, b3, b4, A_0_1_told) h rfl dX10_stepSign_31
  unfold wp_X10_stepSign at h
  refine lv_iload_n hx hb dX10_stepSign_0 rfl (lv_at hl 1 rfl) ?_
  refine m_calli (wc := []) C0 hM [] rfl (m_runS (wc := []) (As := [.int x1]) (rest := []) C0 hM (ct_X10_mayEnd l D cI cJ cZ x1 _ _ h) [] rfl (by decide) gX10_stepSign_X10_mayEnd rfl rfl rfl hd_X10_mayEnd ⟨Nat.le_of_ble_eq_true rfl, Nat.le_of_ble_eq_true rfl⟩ rfl hl.1 rfl (Nat.le_of_ble_eq_true rfl) dX10_stepSign_1 ⟨Nat.le_of_ble_eq_true rfl, Nat.le_of_ble_eq_true rfl⟩) (fun _ => [(h0, .inr (9, oX10 r0 I_0_size I_0_length I_0_sign I_0_number I_0_figures I_0_power)), ((r0 1), .inl (cI, 5, .inl A_0_1_told))]) (fun _ => rfl) (fun _ => rfl) (fun y5 _ H locs h hM => ?_)
  refine lv_if_eq (tgt := 14) hx hb dX10_stepSign_4 (by decide) (fun hq => ?_) (fun hq => ?_)
  · have h := h.1 hq
    refine lv_iload_n hx hb dX10_stepSign_14 rfl (lv_at hl 1 rfl) ?_
    refine lv_if_ne (tgt := 22) hx hb dX10_stepSign_15 (by decide) (fun hq => ?_) (fun hq => ?_)
    · have h := h.1 hq
      refine lv_bipush (v := (6 : Int32)) hx hb dX10_stepSign_22 (by decide) ?_
      subst hsz; subst hA; subst hQ
      exact m_iret C0 hr hM (I_0_sign, I_0_number, I_0_figures, I_0_power, A_0_1_told) h rfl dX10_stepSign_24
    · have h := h.2 hq
      refine lv_iload_n hx hb dX10_stepSign_18 rfl (lv_at hl 2 rfl) ?_
      refine lv_if_le (tgt := 25) hx hb dX10_stepSign_19 (by decide) (fun hq => ?_) (fun hq => ?_)
      · have h := h.1 hq
        exact jq25 _ _ _ _ _ _ _ _ h hM (lv_sub hl [0, 2] rfl)
      · have h := h.2 hq
        refine lv_bipush (v := (6 : Int32)) hx hb dX10_stepSign_22 (by decide) ?_
        subst hsz; subst hA; subst hQ
        exact m_iret C0 hr hM (I_0_sign, I_0_number, I_0_figures, I_0_power, A_0_1_told) h rfl dX10_stepSign_24
  · have h := h.2 hq
    refine lv_aload_n hx hb dX10_stepSign_7 rfl (lv_at hl 0 rfl) ?_
    refine m_callv (wc := [(h0, .inr (9, oX10 r0 I_0_size I_0_length I_0_sign I_0_number I_0_figures I_0_power)), ((r0 1), .inl (cI, 5, .inl A_0_1_told))]) C0 hM [0, 1] rfl (m_runV (wc := [(h0, .inr (9, oX10 r0 I_0_size I_0_length I_0_sign I_0_number I_0_figures I_0_power)), ((r0 1), .inl (cI, 5, .inl A_0_1_told))]) (As := []) (rest := []) (ci := 9) C0 hM (ct_X10_endTerm l D cI cJ cZ h0 r0 I_0_size I_0_length I_0_sign I_0_number I_0_figures I_0_power A_0_1_told _ _ h) [0, 1] rfl (by decide) gX10_stepSign_X10_endTerm rfl rfl rfl rfl rfl hd_X10_endTerm ⟨Nat.le_of_ble_eq_true rfl, Nat.le_of_ble_eq_true rfl⟩ rfl hl.1 rfl (Nat.le_of_ble_eq_true rfl) dX10_stepSign_8 ⟨Nat.le_of_ble_eq_true rfl, Nat.le_of_ble_eq_true rfl⟩) (fun u => [(h0, .inr (9, oX10 r0 I_0_size I_0_length I_0_sign I_0_number I_0_figures I_0_power)), ((r0 1), .inl (cI, 5, .inl u))]) (fun _ => rfl) (fun _ => rfl) (fun b6 H locs h hM => ?_)
    refine lv_goto (tgt := 25) hx hb dX10_stepSign_11 (by decide) ?_
    exact jq25 _ _ _ _ _ _ _ _ h hM (lv_sub hl [0, 2] rfl)
abbrev rm_X10_step : Room := { frames := 3, cells := 0, slots := 0, locals := 64 }
set_option maxRecDepth 100000 in
set_option maxHeartbeats 4000000 in
theorem ct_X10_step (l : Launch) (D : va_G) (cI cJ cZ : ClassId) (h0 : Nat) (r0 : Nat → Nat) (I_0_size : Int32) (I_0_length : Int32) (I_0_sign : Int32) (I_0_number : Int32) (I_0_figures : Int32) (I_0_power : Int32) (A_0_1_told : (Nat → Int32)) (x1 : Int32) (x2 : Int32) (sz : Nat) (K : Int32 → Int32 → Int32 → Int32 → Int32 → (Nat → Int32) → Prop) (h : wp_X10_step x1 x2 I_0_sign I_0_number I_0_figures I_0_power A_0_1_told K) : Met l yX10_step wsX10_step rm_X10_step (va_Pc [.ref h0, .int x1, .int x2] (WX D cI cJ cZ [(h0, .inr (9, oX10 r0 I_0_size I_0_length I_0_sign I_0_number I_0_figures I_0_power)), ((r0 1), .inl (cI, 5, .inl A_0_1_told))] sz)) (va_Qi (fun (r : Int32) (u : Int32 × Int32 × Int32 × Int32 × (Nat → Int32)) => K r u.1 u.2.1 u.2.2.1 u.2.2.2.1 u.2.2.2.2) (fun (u : Int32 × Int32 × Int32 × Int32 × (Nat → Int32)) t => WY D (va_A [(h0, .inr (9, oX10 r0 I_0_size I_0_length I_0_sign I_0_number I_0_figures I_0_power)), ((r0 1), .inl (cI, 5, .inl A_0_1_told))] sz) [(h0, .inr (9, oX10 r0 I_0_size I_0_length u.1 u.2.1 u.2.2.1 u.2.2.2.1)), ((r0 1), .inl (cI, 5, .inl u.2.2.2.2))] t) (va_A [(h0, .inr (9, oX10 r0 I_0_size I_0_length I_0_sign I_0_number I_0_figures I_0_power)), ((r0 1), .inl (cI, 5, .inl A_0_1_told))] sz)) 0 0 (va_A [(h0, .inr (9, oX10 r0 I_0_size I_0_length I_0_sign I_0_number I_0_figures I_0_power)), ((r0 1), .inl (cI, 5, .inl A_0_1_told))] sz) := by
  refine m_met (own := RX10) (cc := cX10_step) (maxL := 3) (ret := some .int) [.ref h0, .int x1, .int x2] [(0, .ref h0), (1, .int x1), (2, .int x2)] (by decide) rfl rfl (Nat.le_of_ble_eq_true rfl) rfl ?_
  intro p e s m args below meth c Q A hQ hA C0 hr hnm hsz hM ls hl
  have hx := C0.1
  have hb := C0.2.1
  have hown := C0.2.2.2.1
  have jq95 : ∀ (s1 : Int32) (s2 : Int32) (I_0_sign : Int32) (I_0_number : Int32) (I_0_figures : Int32) (I_0_power : Int32) (A_0_1_told : (Nat → Int32)) (H : Heap) (locs : List Loc) (ls : Array Slot) , jn_X10_step_95 x1 x2 K s1 s2 I_0_sign I_0_number I_0_figures I_0_power A_0_1_told → MW D A s.heap [(h0, .inr (9, oX10 r0 I_0_size I_0_length I_0_sign I_0_number I_0_figures I_0_power)), ((r0 1), .inl (cI, 5, .inl A_0_1_told))] H locs → lv_has ls 3 [] → W p l e rm_X10_step s m args below meth c H locs 0 0 Q (F0 m 95 ls [.int s2, .int s1, .ref h0]) := by
    intro s1 s2 I_0_sign I_0_number I_0_figures I_0_power A_0_1_told H locs ls h hM hl
    unfold jn_X10_step_95 at h
    refine m_calli (wc := [(h0, .inr (9, oX10 r0 I_0_size I_0_length I_0_sign I_0_number I_0_figures I_0_power)), ((r0 1), .inl (cI, 5, .inl A_0_1_told))]) C0 hM [0, 1] rfl (m_runV (wc := [(h0, .inr (9, oX10 r0 I_0_size I_0_length I_0_sign I_0_number I_0_figures I_0_power)), ((r0 1), .inl (cI, 5, .inl A_0_1_told))]) (As := [.int s1, .int s2]) (rest := []) (ci := 9) C0 hM (ct_X10_stepSign l D cI cJ cZ h0 r0 I_0_size I_0_length I_0_sign I_0_number I_0_figures I_0_power A_0_1_told s1 s2 _ _ h) [0, 1] rfl (by decide) gX10_step_X10_stepSign rfl rfl rfl rfl rfl hd_X10_stepSign ⟨Nat.le_of_ble_eq_true rfl, Nat.le_of_ble_eq_true rfl⟩ rfl hl.1 rfl (Nat.le_of_ble_eq_true rfl) dX10_step_95 ⟨Nat.le_of_ble_eq_true rfl, Nat.le_of_ble_eq_true rfl⟩) (fun u => [(h0, .inr (9, oX10 r0 I_0_size I_0_length u.1 u.2.1 u.2.2.1 u.2.2.2.1)), ((r0 1), .inl (cI, 5, .inl u.2.2.2.2))]) (fun _ => rfl) (fun _ => rfl) (fun y1 u H locs h hM => ?_)
    obtain ⟨b2, b3, b4, b5, b6⟩ := u
    dsimp only at h
    have hM : MW D A s.heap [(h0, .inr (9, oX10 r0 I_0_size I_0_length b2 b3 b4 b5)), ((r0 1), .inl (cI, 5, .inl b6))] H locs := hM
    subst hsz; subst hA; subst hQ
    exact m_iret C0 hr hM (b2, b3, b4, b5, b6) h rfl dX10_step_98
  have jq82 : ∀ (I_0_sign : Int32) (I_0_number : Int32) (I_0_figures : Int32) (I_0_power : Int32) (A_0_1_told : (Nat → Int32)) (H : Heap) (locs : List Loc) (ls : Array Slot) , jn_X10_step_82 x1 x2 K I_0_sign I_0_number I_0_figures I_0_power A_0_1_told → MW D A s.heap [(h0, .inr (9, oX10 r0 I_0_size I_0_length I_0_sign I_0_number I_0_figures I_0_power)), ((r0 1), .inl (cI, 5, .inl A_0_1_told))] H locs → lv_has ls 3 [(0, .ref h0), (1, .int x1), (2, .int x2)] → W p l e rm_X10_step s m args below meth c H locs 0 0 Q (F0 m 82 ls []) := by
    intro I_0_sign I_0_number I_0_figures I_0_power A_0_1_told H locs ls h hM hl
    unfold jn_X10_step_82 at h
    refine lv_aload_n hx hb dX10_step_82 rfl (lv_at hl 0 rfl) ?_
    refine lv_iload_n hx hb dX10_step_83 rfl (lv_at hl 1 rfl) ?_
    refine lv_iload_n hx hb dX10_step_84 rfl (lv_at hl 2 rfl) ?_
    refine lv_bipush (v := (45 : Int32)) hx hb dX10_step_85 (by decide) ?_
    refine lv_icmp_ne (tgt := 94) hx hb dX10_step_87 (by decide) (fun hq => ?_) (fun hq => ?_)
    · have h := h.1 hq
      refine lv_iconst (v := (1 : Int32)) hx hb dX10_step_94 (by decide) ?_
      exact jq95 _ _ _ _ _ _ _ _ _ _ h hM (lv_sub hl [] rfl)
    · have h := h.2 hq
      refine lv_iconst (v := (-1 : Int32)) hx hb dX10_step_90 (by decide) ?_
      refine lv_goto (tgt := 95) hx hb dX10_step_91 (by decide) ?_
      exact jq95 _ _ _ _ _ _ _ _ _ _ h hM (lv_sub hl [] rfl)
  have jq22 : ∀ (I_0_sign : Int32) (I_0_number : Int32) (I_0_figures : Int32) (I_0_power : Int32) (A_0_1_told : (Nat → Int32)) (H : Heap) (locs : List Loc) (ls : Array Slot) , jn_X10_step_22 x1 x2 K I_0_sign I_0_number I_0_figures I_0_power A_0_1_told → MW D A s.heap [(h0, .inr (9, oX10 r0 I_0_size I_0_length I_0_sign I_0_number I_0_figures I_0_power)), ((r0 1), .inl (cI, 5, .inl A_0_1_told))] H locs → lv_has ls 3 [(0, .ref h0), (1, .int x1), (2, .int x2)] → W p l e rm_X10_step s m args below meth c H locs 0 0 Q (F0 m 22 ls []) := by
    intro I_0_sign I_0_number I_0_figures I_0_power A_0_1_told H locs ls h hM hl
    unfold jn_X10_step_22 at h
    refine lv_iload_n hx hb dX10_step_22 rfl (lv_at hl 2 rfl) ?_
    by_cases hs43 : x2 = (43 : Int32)
    · refine lv_lookup (off := 59) (tgt := 82) hx hb dX10_step_23 (by decide) (by rw [hs43]; decide) (by decide) ?_
      have h := h.1 hs43
      exact jq82 _ _ _ _ _ _ _ _ h hM (lv_sub hl [0, 1, 2] rfl)
    replace h := h.2
    by_cases hs45 : x2 = (45 : Int32)
    · refine lv_lookup (off := 59) (tgt := 82) hx hb dX10_step_23 (by decide) (by rw [hs45]; decide) (by decide) ?_
      have h := h.1 hs45
      exact jq82 _ _ _ _ _ _ _ _ h hM (lv_sub hl [0, 1, 2] rfl)
    replace h := h.2
    by_cases hs94 : x2 = (94 : Int32)
    · refine lv_lookup (off := 47) (tgt := 70) hx hb dX10_step_23 (by decide) (by rw [hs94]; decide) (by decide) ?_
      have h := h.1 hs94
      refine lv_iload_n hx hb dX10_step_70 rfl (lv_at hl 1 rfl) ?_
      refine lv_iconst (v := (3 : Int32)) hx hb dX10_step_71 (by decide) ?_
      refine lv_icmp_ne (tgt := 79) hx hb dX10_step_72 (by decide) (fun hq => ?_) (fun hq => ?_)
      · have h := h.1 hq
        refine lv_bipush (v := (6 : Int32)) hx hb dX10_step_79 (by decide) ?_
        subst hsz; subst hA; subst hQ
        exact m_iret C0 hr hM (I_0_sign, I_0_number, I_0_figures, I_0_power, A_0_1_told) h rfl dX10_step_81
      · have h := h.2 hq
        refine lv_iconst (v := (4 : Int32)) hx hb dX10_step_75 (by decide) ?_
        refine lv_goto (tgt := 81) hx hb dX10_step_76 (by decide) ?_
        subst hsz; subst hA; subst hQ
        exact m_iret C0 hr hM (I_0_sign, I_0_number, I_0_figures, I_0_power, A_0_1_told) h rfl dX10_step_81
    replace h := h.2
    by_cases hs120 : x2 = (120 : Int32)
    · refine lv_lookup (off := 41) (tgt := 64) hx hb dX10_step_23 (by decide) (by rw [hs120]; decide) (by decide) ?_
      have h := h.1 hs120
      refine lv_aload_n hx hb dX10_step_64 rfl (lv_at hl 0 rfl) ?_
      refine lv_iload_n hx hb dX10_step_65 rfl (lv_at hl 1 rfl) ?_
      refine m_calli (wc := [(h0, .inr (9, oX10 r0 I_0_size I_0_length I_0_sign I_0_number I_0_figures I_0_power))]) C0 hM [0] rfl (m_runV (wc := [(h0, .inr (9, oX10 r0 I_0_size I_0_length I_0_sign I_0_number I_0_figures I_0_power))]) (As := [.int x1]) (rest := []) (ci := 9) C0 hM (ct_X10_stepUnknown l D cI cJ cZ h0 r0 I_0_size I_0_length I_0_sign I_0_number I_0_figures I_0_power x1 _ _ h) [0] rfl (by decide) gX10_step_X10_stepUnknown rfl rfl rfl rfl rfl hd_X10_stepUnknown ⟨Nat.le_of_ble_eq_true rfl, Nat.le_of_ble_eq_true rfl⟩ rfl hl.1 rfl (Nat.le_of_ble_eq_true rfl) dX10_step_66 ⟨Nat.le_of_ble_eq_true rfl, Nat.le_of_ble_eq_true rfl⟩) (fun u => [(h0, .inr (9, oX10 r0 I_0_size I_0_length I_0_sign u.1 I_0_figures u.2)), ((r0 1), .inl (cI, 5, .inl A_0_1_told))]) (fun _ => rfl) (fun _ => rfl) (fun y7 u H locs h hM => ?_)
      obtain ⟨b8, b9⟩ := u
      dsimp only at h
      have hM : MW D A s.heap [(h0, .inr (9, oX10 r0 I_0_size I_0_length I_0_sign b8 I_0_figures b9)), ((r0 1), .inl (cI, 5, .inl A_0_1_told))] H locs := hM
      subst hsz; subst hA; subst hQ
      exact m_iret C0 hr hM (I_0_sign, b8, I_0_figures, b9, A_0_1_told) h rfl dX10_step_69
    replace h := h.2
    replace h := h hs43 hs45 hs94 hs120
    have ehs43 : x2.toInt ≠ 43 := sw_ne hs43
    have ehs45 : x2.toInt ≠ 45 := sw_ne hs45
    have ehs94 : x2.toInt ≠ 94 := sw_ne hs94
    have ehs120 : x2.toInt ≠ 120 := sw_ne hs120
    refine lv_lookup (off := 76) (tgt := 99) hx hb dX10_step_23 (by decide) (by simp [Op.lookupswitch.offset, Ne.symm ehs43, Ne.symm ehs45, Ne.symm ehs94, Ne.symm ehs120]) (by decide) ?_
    refine lv_bipush (v := (6 : Int32)) hx hb dX10_step_99 (by decide) ?_
    subst hsz; subst hA; subst hQ
    exact m_iret C0 hr hM (I_0_sign, I_0_number, I_0_figures, I_0_power, A_0_1_told) h rfl dX10_step_101
  unfold wp_X10_step at h
  refine lv_iload_n hx hb dX10_step_0 rfl (lv_at hl 2 rfl) ?_
  refine lv_bipush (v := (48 : Int32)) hx hb dX10_step_1 (by decide) ?_
  refine lv_icmp_lt (tgt := 22) hx hb dX10_step_3 (by decide) (fun hq => ?_) (fun hq => ?_)
  · have h := h.1 hq
    exact jq22 _ _ _ _ _ _ _ _ h hM (lv_sub hl [0, 1, 2] rfl)
  · have h := h.2 hq
    refine lv_iload_n hx hb dX10_step_6 rfl (lv_at hl 2 rfl) ?_
    refine lv_bipush (v := (57 : Int32)) hx hb dX10_step_7 (by decide) ?_
    refine lv_icmp_gt (tgt := 22) hx hb dX10_step_9 (by decide) (fun hq => ?_) (fun hq => ?_)
    · have h := h.1 hq
      exact jq22 _ _ _ _ _ _ _ _ h hM (lv_sub hl [0, 1, 2] rfl)
    · have h := h.2 hq
      refine lv_aload_n hx hb dX10_step_12 rfl (lv_at hl 0 rfl) ?_
      refine lv_iload_n hx hb dX10_step_13 rfl (lv_at hl 1 rfl) ?_
      refine lv_iload_n hx hb dX10_step_14 rfl (lv_at hl 2 rfl) ?_
      refine lv_bipush (v := (48 : Int32)) hx hb dX10_step_15 (by decide) ?_
      refine lv_isub hx hb dX10_step_17 ?_
      refine m_calli (wc := [(h0, .inr (9, oX10 r0 I_0_size I_0_length I_0_sign I_0_number I_0_figures I_0_power))]) C0 hM [0] rfl (m_runV (wc := [(h0, .inr (9, oX10 r0 I_0_size I_0_length I_0_sign I_0_number I_0_figures I_0_power))]) (As := [.int x1, .int (x2 - (48 : Int32))]) (rest := []) (ci := 9) C0 hM (ct_X10_stepFigure l D cI cJ cZ h0 r0 I_0_size I_0_length I_0_sign I_0_number I_0_figures I_0_power x1 (x2 - (48 : Int32)) _ _ h) [0] rfl (by decide) gX10_step_X10_stepFigure rfl rfl rfl rfl rfl hd_X10_stepFigure ⟨Nat.le_of_ble_eq_true rfl, Nat.le_of_ble_eq_true rfl⟩ rfl hl.1 rfl (Nat.le_of_ble_eq_true rfl) dX10_step_18 ⟨Nat.le_of_ble_eq_true rfl, Nat.le_of_ble_eq_true rfl⟩) (fun u => [(h0, .inr (9, oX10 r0 I_0_size I_0_length I_0_sign u.1 u.2.1 u.2.2)), ((r0 1), .inl (cI, 5, .inl A_0_1_told))]) (fun _ => rfl) (fun _ => rfl) (fun y10 u H locs h hM => ?_)
      obtain ⟨b11, b12, b13⟩ := u
      dsimp only at h
      have hM : MW D A s.heap [(h0, .inr (9, oX10 r0 I_0_size I_0_length I_0_sign b11 b12 b13)), ((r0 1), .inl (cI, 5, .inl A_0_1_told))] H locs := hM
      subst hsz; subst hA; subst hQ
      exact m_iret C0 hr hM (I_0_sign, b11, b12, b13, A_0_1_told) h rfl dX10_step_21
abbrev rm_X10_fault : Room := { frames := 4, cells := 0, slots := 0, locals := 86 }
set_option maxRecDepth 100000 in
set_option maxHeartbeats 4000000 in
theorem ct_X10_fault (l : Launch) (D : va_G) (cI cJ cZ : ClassId) (h0 : Nat) (r0 : Nat → Nat) (I_0_size : Int32) (I_0_length : Int32) (I_0_sign : Int32) (I_0_number : Int32) (I_0_figures : Int32) (I_0_power : Int32) (A_0_1_told : (Nat → Int32)) (A_0_3_tape : (Nat → Int32)) (sz : Nat) (K : Int32 → Int32 → Int32 → Int32 → Int32 → (Nat → Int32) → Prop) (h : wp_X10_fault I_0_size I_0_sign I_0_number I_0_figures I_0_power A_0_1_told A_0_3_tape K) : Met l yX10_fault wsX10_fault rm_X10_fault (va_Pc [.ref h0] (WX D cI cJ cZ [(h0, .inr (9, oX10 r0 I_0_size I_0_length I_0_sign I_0_number I_0_figures I_0_power)), ((r0 1), .inl (cI, 5, .inl A_0_1_told)), ((r0 3), .inl (cI, 60, .inl A_0_3_tape))] sz)) (va_Qi (fun (r : Int32) (u : Int32 × Int32 × Int32 × Int32 × (Nat → Int32)) => K r u.1 u.2.1 u.2.2.1 u.2.2.2.1 u.2.2.2.2) (fun (u : Int32 × Int32 × Int32 × Int32 × (Nat → Int32)) t => WY D (va_A [(h0, .inr (9, oX10 r0 I_0_size I_0_length I_0_sign I_0_number I_0_figures I_0_power)), ((r0 1), .inl (cI, 5, .inl A_0_1_told)), ((r0 3), .inl (cI, 60, .inl A_0_3_tape))] sz) [(h0, .inr (9, oX10 r0 I_0_size I_0_length u.1 u.2.1 u.2.2.1 u.2.2.2.1)), ((r0 1), .inl (cI, 5, .inl u.2.2.2.2)), ((r0 3), .inl (cI, 60, .inl A_0_3_tape))] t) (va_A [(h0, .inr (9, oX10 r0 I_0_size I_0_length I_0_sign I_0_number I_0_figures I_0_power)), ((r0 1), .inl (cI, 5, .inl A_0_1_told)), ((r0 3), .inl (cI, 60, .inl A_0_3_tape))] sz)) 0 0 (va_A [(h0, .inr (9, oX10 r0 I_0_size I_0_length I_0_sign I_0_number I_0_figures I_0_power)), ((r0 1), .inl (cI, 5, .inl A_0_1_told)), ((r0 3), .inl (cI, 60, .inl A_0_3_tape))] sz) := by
  refine m_met (own := RX10) (cc := cX10_fault) (maxL := 3) (ret := some .int) [.ref h0] [(0, .ref h0)] (by decide) rfl rfl (Nat.le_of_ble_eq_true rfl) rfl ?_
  intro p e s m args below meth c Q A hQ hA C0 hr hnm hsz hM ls hl
  have hx := C0.1
  have hb := C0.2.1
  have hown := C0.2.2.2.1
  have jq57 : ∀ (x1 : Int32) (I_0_sign : Int32) (I_0_number : Int32) (I_0_figures : Int32) (I_0_power : Int32) (A_0_1_told : (Nat → Int32)) (H : Heap) (locs : List Loc) (ls : Array Slot) , jn_X10_fault_57 I_0_size A_0_3_tape K x1 I_0_sign I_0_number I_0_figures I_0_power A_0_1_told → MW D A s.heap [(h0, .inr (9, oX10 r0 I_0_size I_0_length I_0_sign I_0_number I_0_figures I_0_power)), ((r0 1), .inl (cI, 5, .inl A_0_1_told)), ((r0 3), .inl (cI, 60, .inl A_0_3_tape))] H locs → lv_has ls 3 [(0, .ref h0), (1, .int x1)] → W p l e rm_X10_fault s m args below meth c H locs 0 0 Q (F0 m 57 ls []) := by
    intro x1 I_0_sign I_0_number I_0_figures I_0_power A_0_1_told H locs ls h hM hl
    unfold jn_X10_fault_57 at h
    refine lv_iload_n hx hb dX10_fault_57 rfl (lv_at hl 1 rfl) ?_
    refine m_calli (wc := []) C0 hM [] rfl (m_runS (wc := []) (As := [.int x1]) (rest := []) C0 hM (ct_X10_mayEnd l D cI cJ cZ x1 _ _ h) [] rfl (by decide) gX10_fault_X10_mayEnd rfl rfl rfl hd_X10_mayEnd ⟨Nat.le_of_ble_eq_true rfl, Nat.le_of_ble_eq_true rfl⟩ rfl hl.1 rfl (Nat.le_of_ble_eq_true rfl) dX10_fault_58 ⟨Nat.le_of_ble_eq_true rfl, Nat.le_of_ble_eq_true rfl⟩) (fun _ => [(h0, .inr (9, oX10 r0 I_0_size I_0_length I_0_sign I_0_number I_0_figures I_0_power)), ((r0 1), .inl (cI, 5, .inl A_0_1_told)), ((r0 3), .inl (cI, 60, .inl A_0_3_tape))]) (fun _ => rfl) (fun _ => rfl) (fun y1 _ H locs h hM => ?_)
    refine lv_if_ne (tgt := 69) hx hb dX10_fault_61 (by decide) (fun hq => ?_) (fun hq => ?_)
    · have h := h.1 hq
      refine lv_aload_n hx hb dX10_fault_69 rfl (lv_at hl 0 rfl) ?_
      refine m_callv (wc := [(h0, .inr (9, oX10 r0 I_0_size I_0_length I_0_sign I_0_number I_0_figures I_0_power)), ((r0 1), .inl (cI, 5, .inl A_0_1_told))]) C0 hM [0, 1] rfl (m_runV (wc := [(h0, .inr (9, oX10 r0 I_0_size I_0_length I_0_sign I_0_number I_0_figures I_0_power)), ((r0 1), .inl (cI, 5, .inl A_0_1_told))]) (As := []) (rest := []) (ci := 9) C0 hM (ct_X10_endTerm l D cI cJ cZ h0 r0 I_0_size I_0_length I_0_sign I_0_number I_0_figures I_0_power A_0_1_told _ _ h) [0, 1] rfl (by decide) gX10_fault_X10_endTerm rfl rfl rfl rfl rfl hd_X10_endTerm ⟨Nat.le_of_ble_eq_true rfl, Nat.le_of_ble_eq_true rfl⟩ rfl hl.1 rfl (Nat.le_of_ble_eq_true rfl) dX10_fault_70 ⟨Nat.le_of_ble_eq_true rfl, Nat.le_of_ble_eq_true rfl⟩) (fun u => [(h0, .inr (9, oX10 r0 I_0_size I_0_length I_0_sign I_0_number I_0_figures I_0_power)), ((r0 1), .inl (cI, 5, .inl u)), ((r0 3), .inl (cI, 60, .inl A_0_3_tape))]) (fun _ => rfl) (fun _ => rfl) (fun b2 H locs h hM => ?_)
      refine lv_iconst (v := (-1 : Int32)) hx hb dX10_fault_73 (by decide) ?_
      subst hsz; subst hA; subst hQ
      exact m_iret C0 hr hM (I_0_sign, I_0_number, I_0_figures, I_0_power, b2) h rfl dX10_fault_74
    · have h := h.2 hq
      refine lv_aload_n hx hb dX10_fault_64 rfl (lv_at hl 0 rfl) ?_
      refine m_get (C := RX10) (T := TX10) (N := 9) (ci := 9) (ref := "LoweredPowers$Texts") (v := .int I_0_size) C0 hM 0 rfl rfl kt_X10_fault_X10 0 (by decide) kw_X10_fault_2 rfl rfl dX10_fault_65 ?_
      subst hsz; subst hA; subst hQ
      exact m_iret C0 hr hM (I_0_sign, I_0_number, I_0_figures, I_0_power, A_0_1_told) h rfl dX10_fault_68
  have lq17 : ∀ (k17 : Nat) (x1 : Int32) (x2 : Int32) (I_0_sign : Int32) (I_0_number : Int32) (I_0_figures : Int32) (I_0_power : Int32) (A_0_1_told : (Nat → Int32)) (H : Heap) (locs : List Loc) (ls : Array Slot) , lp_X10_fault_17 I_0_size A_0_3_tape (jn_X10_fault_57 I_0_size A_0_3_tape K) K k17 x1 x2 I_0_sign I_0_number I_0_figures I_0_power A_0_1_told → MW D A s.heap [(h0, .inr (9, oX10 r0 I_0_size I_0_length I_0_sign I_0_number I_0_figures I_0_power)), ((r0 1), .inl (cI, 5, .inl A_0_1_told)), ((r0 3), .inl (cI, 60, .inl A_0_3_tape))] H locs → lv_has ls 3 [(0, .ref h0), (1, .int x1), (2, .int x2)] → W p l e rm_X10_fault s m args below meth c H locs 0 0 Q (F0 m 17 ls []) := by
    intro k17
    induction k17 with
    | zero =>
      intro x1 x2 I_0_sign I_0_number I_0_figures I_0_power A_0_1_told H locs ls h
      unfold lp_X10_fault_17 at h
      exact h.elim
    | succ k17 ih17 =>
      intro x1 x2 I_0_sign I_0_number I_0_figures I_0_power A_0_1_told H locs ls h hM hl
      unfold lp_X10_fault_17 at h
      refine lv_iload_n hx hb dX10_fault_17 rfl (lv_at hl 2 rfl) ?_
      refine lv_aload_n hx hb dX10_fault_18 rfl (lv_at hl 0 rfl) ?_
      refine m_get (C := RX10) (T := TX10) (N := 9) (ci := 9) (ref := "LoweredPowers$Texts") (v := .int I_0_size) C0 hM 0 rfl rfl kt_X10_fault_X10 0 (by decide) kw_X10_fault_2 rfl rfl dX10_fault_19 ?_
      refine lv_icmp_ge (tgt := 57) hx hb dX10_fault_22 (by decide) (fun hq => ?_) (fun hq => ?_)
      · have h := h.1 hq
        exact jq57 _ _ _ _ _ _ _ _ _ h hM (lv_sub hl [0, 1] rfl)
      · have h := h.2 hq
        refine lv_iload_n hx hb dX10_fault_25 rfl (lv_at hl 2 rfl) ?_
        refine lv_bipush (v := (60 : Int32)) hx hb dX10_fault_26 (by decide) ?_
        refine lv_icmp_ge (tgt := 57) hx hb dX10_fault_28 (by decide) (fun hq => ?_) (fun hq => ?_)
        · have h := h.1 hq
          exact jq57 _ _ _ _ _ _ _ _ _ h hM (lv_sub hl [0, 1] rfl)
        · have h := h.2 hq
          refine lv_aload_n hx hb dX10_fault_31 rfl (lv_at hl 0 rfl) ?_
          refine lv_iload_n hx hb dX10_fault_32 rfl (lv_at hl 1 rfl) ?_
          refine lv_aload_n hx hb dX10_fault_33 rfl (lv_at hl 0 rfl) ?_
          refine m_get (C := RX10) (T := TX10) (N := 9) (ci := 9) (ref := "LoweredPowers$Texts") (v := .ref (r0 3)) C0 hM 0 rfl rfl kt_X10_fault_X10 3 (by decide) kw_X10_fault_3 rfl rfl dX10_fault_34 ?_
          refine lv_iload_n hx hb dX10_fault_37 rfl (lv_at hl 2 rfl) ?_
          obtain ⟨hc3, h⟩ := h
          refine m_iald C0 hM 2 rfl hc3 dX10_fault_38 ?_
          refine m_calli (wc := [(h0, .inr (9, oX10 r0 I_0_size I_0_length I_0_sign I_0_number I_0_figures I_0_power)), ((r0 1), .inl (cI, 5, .inl A_0_1_told))]) C0 hM [0, 1] rfl (m_runV (wc := [(h0, .inr (9, oX10 r0 I_0_size I_0_length I_0_sign I_0_number I_0_figures I_0_power)), ((r0 1), .inl (cI, 5, .inl A_0_1_told))]) (As := [.int x1, .int (A_0_3_tape (x2).toNatClampNeg)]) (rest := []) (ci := 9) C0 hM (ct_X10_step l D cI cJ cZ h0 r0 I_0_size I_0_length I_0_sign I_0_number I_0_figures I_0_power A_0_1_told x1 (A_0_3_tape (x2).toNatClampNeg) _ _ h) [0, 1] rfl (by decide) gX10_fault_X10_step rfl rfl rfl rfl rfl hd_X10_step ⟨Nat.le_of_ble_eq_true rfl, Nat.le_of_ble_eq_true rfl⟩ rfl hl.1 rfl (Nat.le_of_ble_eq_true rfl) dX10_fault_39 ⟨Nat.le_of_ble_eq_true rfl, Nat.le_of_ble_eq_true rfl⟩) (fun u => [(h0, .inr (9, oX10 r0 I_0_size I_0_length u.1 u.2.1 u.2.2.1 u.2.2.2.1)), ((r0 1), .inl (cI, 5, .inl u.2.2.2.2)), ((r0 3), .inl (cI, 60, .inl A_0_3_tape))]) (fun _ => rfl) (fun _ => rfl) (fun y4 u H locs h hM => ?_)
          obtain ⟨b5, b6, b7, b8, b9⟩ := u
          dsimp only at h
          have hM : MW D A s.heap [(h0, .inr (9, oX10 r0 I_0_size I_0_length b5 b6 b7 b8)), ((r0 1), .inl (cI, 5, .inl b9)), ((r0 3), .inl (cI, 60, .inl A_0_3_tape))] H locs := hM
          refine lv_istore_n (lv' := [(1, .int y4), (0, .ref h0), (2, .int x2)]) hx hb dX10_fault_42 rfl hl (by decide) rfl (fun ls hl => ?_)
          refine lv_iload_n hx hb dX10_fault_43 rfl (lv_at hl 0 rfl) ?_
          refine lv_bipush (v := (6 : Int32)) hx hb dX10_fault_44 (by decide) ?_
          refine lv_icmp_ne (tgt := 51) hx hb dX10_fault_46 (by decide) (fun hq => ?_) (fun hq => ?_)
          · have h := h.1 hq
            refine lv_iinc (v := (x2 + (1 : Int32))) (lv' := [(2, .int (x2 + (1 : Int32))), (1, .int y4), (0, .ref h0)]) hx hb dX10_fault_51 hl (k := 2) rfl rfl (by decide) rfl (fun ls hl => ?_)
            refine lv_goto (tgt := 17) hx hb dX10_fault_54 (by decide) ?_
            exact ih17 _ _ _ _ _ _ _ _ _ _ h hM (lv_sub hl [2, 1, 0] rfl)
          · have h := h.2 hq
            refine lv_iload_n hx hb dX10_fault_49 rfl (lv_at hl 2 rfl) ?_
            subst hsz; subst hA; subst hQ
            exact m_iret C0 hr hM (b5, b6, b7, b8, b9) h rfl dX10_fault_50
  unfold wp_X10_fault at h
  refine lv_aload_n hx hb dX10_fault_0 rfl (lv_at hl 0 rfl) ?_
  refine m_get (C := RX10) (T := TX10) (N := 9) (ci := 9) (ref := "LoweredPowers$Texts") (v := .ref (r0 1)) C0 hM 0 rfl rfl kt_X10_fault_X10 1 (by decide) kw_X10_fault_1 rfl rfl dX10_fault_1 ?_
  refine lv_iconst (v := (0 : Int32)) hx hb dX10_fault_4 (by decide) ?_
  refine m_callv (wc := [((r0 1), .inl (cI, 5, .inl A_0_1_told))]) C0 hM [1] rfl (m_runS (wc := [((r0 1), .inl (cI, 5, .inl A_0_1_told))]) (As := [.ref (r0 1), .int (0 : Int32)]) (rest := []) C0 hM (ct_J7_fill_53178 l D cI cJ cZ (r0 1) 5 A_0_1_told (0 : Int32) _ _ h) [1] rfl (by decide) gX10_fault_J7_fill_53178 rfl rfl rfl hd_J7_fill_53178 ⟨Nat.le_of_ble_eq_true rfl, Nat.le_of_ble_eq_true rfl⟩ rfl hl.1 rfl (Nat.le_of_ble_eq_true rfl) dX10_fault_5 ⟨Nat.le_of_ble_eq_true rfl, Nat.le_of_ble_eq_true rfl⟩) (fun u => [(h0, .inr (9, oX10 r0 I_0_size I_0_length I_0_sign I_0_number I_0_figures I_0_power)), ((r0 1), .inl (cI, 5, .inl u)), ((r0 3), .inl (cI, 60, .inl A_0_3_tape))]) (fun _ => rfl) (fun _ => rfl) (fun b10 H locs h hM => ?_)
  refine lv_aload_n hx hb dX10_fault_8 rfl (lv_at hl 0 rfl) ?_
  refine lv_iconst (v := (1 : Int32)) hx hb dX10_fault_9 (by decide) ?_
  refine m_callv (wc := [(h0, .inr (9, oX10 r0 I_0_size I_0_length I_0_sign I_0_number I_0_figures I_0_power))]) C0 hM [0] rfl (m_runV (wc := [(h0, .inr (9, oX10 r0 I_0_size I_0_length I_0_sign I_0_number I_0_figures I_0_power))]) (As := [.int (1 : Int32)]) (rest := []) (ci := 9) C0 hM (ct_X10_startTerm l D cI cJ cZ h0 r0 I_0_size I_0_length I_0_sign I_0_number I_0_figures I_0_power (1 : Int32) _ _ h) [0] rfl (by decide) gX10_fault_X10_startTerm rfl rfl rfl rfl rfl hd_X10_startTerm ⟨Nat.le_of_ble_eq_true rfl, Nat.le_of_ble_eq_true rfl⟩ rfl hl.1 rfl (Nat.le_of_ble_eq_true rfl) dX10_fault_10 ⟨Nat.le_of_ble_eq_true rfl, Nat.le_of_ble_eq_true rfl⟩) (fun u => [(h0, .inr (9, oX10 r0 I_0_size I_0_length u.1 u.2.1 u.2.2.1 u.2.2.2)), ((r0 1), .inl (cI, 5, .inl b10)), ((r0 3), .inl (cI, 60, .inl A_0_3_tape))]) (fun _ => rfl) (fun _ => rfl) (fun u H locs h hM => ?_)
  obtain ⟨b11, b12, b13, b14⟩ := u
  dsimp only at h
  have hM : MW D A s.heap [(h0, .inr (9, oX10 r0 I_0_size I_0_length b11 b12 b13 b14)), ((r0 1), .inl (cI, 5, .inl b10)), ((r0 3), .inl (cI, 60, .inl A_0_3_tape))] H locs := hM
  refine lv_iconst (v := (0 : Int32)) hx hb dX10_fault_13 (by decide) ?_
  refine lv_istore_n (lv' := [(1, .int (0 : Int32)), (0, .ref h0)]) hx hb dX10_fault_14 rfl hl (by decide) rfl (fun ls hl => ?_)
  refine lv_iconst (v := (0 : Int32)) hx hb dX10_fault_15 (by decide) ?_
  refine lv_istore_n (lv' := [(2, .int (0 : Int32)), (1, .int (0 : Int32)), (0, .ref h0)]) hx hb dX10_fault_16 rfl hl (by decide) rfl (fun ls hl => ?_)
  obtain ⟨k0, h⟩ := h
  exact lq17 k0 _ _ _ _ _ _ _ _ _ _ h hM (lv_sub hl [2, 1, 0] rfl)
abbrev rm_X10_writeByte : Room := { frames := 0, cells := 0, slots := 0, locals := 0 }
set_option maxRecDepth 100000 in
set_option maxHeartbeats 4000000 in
theorem ct_X10_writeByte (l : Launch) (D : va_G) (cI cJ cZ : ClassId) (h0 : Nat) (r0 : Nat → Nat) (I_0_size : Int32) (I_0_length : Int32) (I_0_sign : Int32) (I_0_number : Int32) (I_0_figures : Int32) (I_0_power : Int32) (A_0_2_line : (Nat → Int32)) (x1 : Int32) (sz : Nat) (K : Int32 → (Nat → Int32) → Prop) (h : wp_X10_writeByte x1 I_0_length A_0_2_line K) : Met l yX10_writeByte wsX10_writeByte rm_X10_writeByte (va_Pc [.ref h0, .int x1] (WX D cI cJ cZ [(h0, .inr (9, oX10 r0 I_0_size I_0_length I_0_sign I_0_number I_0_figures I_0_power)), ((r0 2), .inl (cI, 40, .inl A_0_2_line))] sz)) (va_Qv (fun (u : Int32 × (Nat → Int32)) => K u.1 u.2) (fun (u : Int32 × (Nat → Int32)) t => WY D (va_A [(h0, .inr (9, oX10 r0 I_0_size I_0_length I_0_sign I_0_number I_0_figures I_0_power)), ((r0 2), .inl (cI, 40, .inl A_0_2_line))] sz) [(h0, .inr (9, oX10 r0 I_0_size u.1 I_0_sign I_0_number I_0_figures I_0_power)), ((r0 2), .inl (cI, 40, .inl u.2))] t) (va_A [(h0, .inr (9, oX10 r0 I_0_size I_0_length I_0_sign I_0_number I_0_figures I_0_power)), ((r0 2), .inl (cI, 40, .inl A_0_2_line))] sz)) 0 0 (va_A [(h0, .inr (9, oX10 r0 I_0_size I_0_length I_0_sign I_0_number I_0_figures I_0_power)), ((r0 2), .inl (cI, 40, .inl A_0_2_line))] sz) := by
  refine m_met (own := RX10) (cc := cX10_writeByte) (maxL := 2) (ret := none) [.ref h0, .int x1] [(0, .ref h0), (1, .int x1)] (by decide) rfl rfl (Nat.le_of_ble_eq_true rfl) rfl ?_
  intro p e s m args below meth c Q A hQ hA C0 hr hnm hsz hM ls hl
  have hx := C0.1
  have hb := C0.2.1
  have hown := C0.2.2.2.1
  unfold wp_X10_writeByte at h
  refine lv_aload_n hx hb dX10_writeByte_0 rfl (lv_at hl 0 rfl) ?_
  refine m_get (C := RX10) (T := TX10) (N := 9) (ci := 9) (ref := "LoweredPowers$Texts") (v := .int I_0_length) C0 hM 0 rfl rfl kt_X10_writeByte_X10 4 (by decide) kw_X10_writeByte_1 rfl rfl dX10_writeByte_1 ?_
  refine lv_bipush (v := (40 : Int32)) hx hb dX10_writeByte_4 (by decide) ?_
  refine lv_icmp_ge (tgt := 29) hx hb dX10_writeByte_6 (by decide) (fun hq => ?_) (fun hq => ?_)
  · have h := h.1 hq
    subst hsz; subst hA; subst hQ
    exact m_vret C0 hr hM (I_0_length, A_0_2_line) h rfl dX10_writeByte_29
  · have h := h.2 hq
    refine lv_aload_n hx hb dX10_writeByte_9 rfl (lv_at hl 0 rfl) ?_
    refine m_get (C := RX10) (T := TX10) (N := 9) (ci := 9) (ref := "LoweredPowers$Texts") (v := .ref (r0 2)) C0 hM 0 rfl rfl kt_X10_writeByte_X10 2 (by decide) kw_X10_writeByte_2 rfl rfl dX10_writeByte_10 ?_
    refine lv_aload_n hx hb dX10_writeByte_13 rfl (lv_at hl 0 rfl) ?_
    refine m_get (C := RX10) (T := TX10) (N := 9) (ci := 9) (ref := "LoweredPowers$Texts") (v := .int I_0_length) C0 hM 0 rfl rfl kt_X10_writeByte_X10 4 (by decide) kw_X10_writeByte_1 rfl rfl dX10_writeByte_14 ?_
    refine lv_iload_n hx hb dX10_writeByte_17 rfl (lv_at hl 1 rfl) ?_
    obtain ⟨hc1, h⟩ := h
    refine m_iast (ws' := [(h0, .inr (9, oX10 r0 I_0_size I_0_length I_0_sign I_0_number I_0_figures I_0_power)), ((r0 2), .inl (cI, 40, .inl (upd A_0_2_line (I_0_length).toNatClampNeg x1)))]) C0 hM 1 rfl hc1 rfl dX10_writeByte_18 (fun H locs hM => ?_)
    refine lv_aload_n hx hb dX10_writeByte_19 rfl (lv_at hl 0 rfl) ?_
    refine lv_dup hx hb dX10_writeByte_20 rfl ?_
    refine m_get (C := RX10) (T := TX10) (N := 9) (ci := 9) (ref := "LoweredPowers$Texts") (v := .int I_0_length) C0 hM 0 rfl rfl kt_X10_writeByte_X10 4 (by decide) kw_X10_writeByte_1 rfl rfl dX10_writeByte_21 ?_
    refine lv_iconst (v := (1 : Int32)) hx hb dX10_writeByte_24 (by decide) ?_
    refine lv_iadd hx hb dX10_writeByte_25 ?_
    refine lv_topi (fun y2 ey2 => ?_)
    have h := h y2 ey2
    refine m_put (ws' := [(h0, .inr (9, oX10 r0 I_0_size y2 I_0_sign I_0_number I_0_figures I_0_power)), ((r0 2), .inl (cI, 40, .inl (upd A_0_2_line (I_0_length).toNatClampNeg x1)))]) (C := RX10) (T := TX10) (N := 9) (ci := 9) (ref := "LoweredPowers$Texts") (v := .int y2) C0 hM 0 rfl rfl kt_X10_writeByte_X10 tyX10 tyX10_ok nmX10 4 (by decide) kw_X10_writeByte_1 rfl rfl rfl rfl (Nat.le_of_ble_eq_true rfl) rfl dX10_writeByte_26 (fun H locs hM => ?_)
    subst hsz; subst hA; subst hQ
    exact m_vret C0 hr hM (y2, (upd A_0_2_line (I_0_length).toNatClampNeg x1)) h rfl dX10_writeByte_29
abbrev rm_X10_writeFigures : Room := { frames := 1, cells := 0, slots := 0, locals := 21 }
set_option maxRecDepth 100000 in
set_option maxHeartbeats 4000000 in
theorem ct_X10_writeFigures (l : Launch) (D : va_G) (cI cJ cZ : ClassId) (h0 : Nat) (r0 : Nat → Nat) (I_0_size : Int32) (I_0_length : Int32) (I_0_sign : Int32) (I_0_number : Int32) (I_0_figures : Int32) (I_0_power : Int32) (A_0_2_line : (Nat → Int32)) (x1 : Int32) (sz : Nat) (K : Int32 → (Nat → Int32) → Prop) (h : wp_X10_writeFigures x1 I_0_length A_0_2_line K) : Met l yX10_writeFigures wsX10_writeFigures rm_X10_writeFigures (va_Pc [.ref h0, .int x1] (WX D cI cJ cZ [(h0, .inr (9, oX10 r0 I_0_size I_0_length I_0_sign I_0_number I_0_figures I_0_power)), ((r0 2), .inl (cI, 40, .inl A_0_2_line))] sz)) (va_Qv (fun (u : Int32 × (Nat → Int32)) => K u.1 u.2) (fun (u : Int32 × (Nat → Int32)) t => WY D (va_A [(h0, .inr (9, oX10 r0 I_0_size I_0_length I_0_sign I_0_number I_0_figures I_0_power)), ((r0 2), .inl (cI, 40, .inl A_0_2_line))] sz) [(h0, .inr (9, oX10 r0 I_0_size u.1 I_0_sign I_0_number I_0_figures I_0_power)), ((r0 2), .inl (cI, 40, .inl u.2))] t) (va_A [(h0, .inr (9, oX10 r0 I_0_size I_0_length I_0_sign I_0_number I_0_figures I_0_power)), ((r0 2), .inl (cI, 40, .inl A_0_2_line))] sz)) 0 0 (va_A [(h0, .inr (9, oX10 r0 I_0_size I_0_length I_0_sign I_0_number I_0_figures I_0_power)), ((r0 2), .inl (cI, 40, .inl A_0_2_line))] sz) := by
  refine m_met (own := RX10) (cc := cX10_writeFigures) (maxL := 3) (ret := none) [.ref h0, .int x1] [(0, .ref h0), (1, .int x1)] (by decide) rfl rfl (Nat.le_of_ble_eq_true rfl) rfl ?_
  intro p e s m args below meth c Q A hQ hA C0 hr hnm hsz hM ls hl
  have hx := C0.1
  have hb := C0.2.1
  have hown := C0.2.2.2.1
  have lq4 : ∀ (k4 : Nat) (x2 : Int32) (I_0_length : Int32) (A_0_2_line : (Nat → Int32)) (H : Heap) (locs : List Loc) (ls : Array Slot) , lp_X10_writeFigures_4 x1 K k4 x2 I_0_length A_0_2_line → MW D A s.heap [(h0, .inr (9, oX10 r0 I_0_size I_0_length I_0_sign I_0_number I_0_figures I_0_power)), ((r0 2), .inl (cI, 40, .inl A_0_2_line))] H locs → lv_has ls 3 [(0, .ref h0), (1, .int x1), (2, .int x2)] → W p l e rm_X10_writeFigures s m args below meth c H locs 0 0 Q (F0 m 4 ls []) := by
    intro k4
    induction k4 with
    | zero =>
      intro x2 I_0_length A_0_2_line H locs ls h
      unfold lp_X10_writeFigures_4 at h
      exact h.elim
    | succ k4 ih4 =>
      have jq26 : ∀ (x2 : Int32) (I_0_length : Int32) (A_0_2_line : (Nat → Int32)) (H : Heap) (locs : List Loc) (ls : Array Slot) , jn_X10_writeFigures_26 x1 (fun x2 I_0_length A_0_2_line => lp_X10_writeFigures_4 x1 K k4 x2 I_0_length A_0_2_line) K x2 I_0_length A_0_2_line → MW D A s.heap [(h0, .inr (9, oX10 r0 I_0_size I_0_length I_0_sign I_0_number I_0_figures I_0_power)), ((r0 2), .inl (cI, 40, .inl A_0_2_line))] H locs → lv_has ls 3 [(0, .ref h0), (1, .int x1), (2, .int x2)] → W p l e rm_X10_writeFigures s m args below meth c H locs 0 0 Q (F0 m 26 ls []) := by
        intro x2 I_0_length A_0_2_line H locs ls h hM hl
        unfold jn_X10_writeFigures_26 at h
        refine lv_iload_n hx hb dX10_writeFigures_26 rfl (lv_at hl 2 rfl) ?_
        refine lv_bipush (v := (10 : Int32)) hx hb dX10_writeFigures_27 (by decide) ?_
        refine lv_idiv hx hb dX10_writeFigures_29 (by decide) ?_
        refine lv_topi (fun y1 ey1 => ?_)
        have h := h y1 ey1
        refine lv_istore_n (lv' := [(2, .int y1), (0, .ref h0), (1, .int x1)]) hx hb dX10_writeFigures_30 rfl hl (by decide) rfl (fun ls hl => ?_)
        refine lv_goto (tgt := 4) hx hb dX10_writeFigures_31 (by decide) ?_
        exact ih4 _ _ _ _ _ _ h hM (lv_sub hl [1, 2, 0] rfl)
      intro x2 I_0_length A_0_2_line H locs ls h hM hl
      unfold lp_X10_writeFigures_4 at h
      refine lv_iload_n hx hb dX10_writeFigures_4 rfl (lv_at hl 2 rfl) ?_
      refine lv_if_le (tgt := 34) hx hb dX10_writeFigures_5 (by decide) (fun hq => ?_) (fun hq => ?_)
      · have h := h.1 hq
        subst hsz; subst hA; subst hQ
        exact m_vret C0 hr hM (I_0_length, A_0_2_line) h rfl dX10_writeFigures_34
      · have h := h.2 hq
        refine lv_iload_n hx hb dX10_writeFigures_8 rfl (lv_at hl 1 rfl) ?_
        refine lv_iload_n hx hb dX10_writeFigures_9 rfl (lv_at hl 2 rfl) ?_
        refine lv_icmp_lt (tgt := 26) hx hb dX10_writeFigures_10 (by decide) (fun hq => ?_) (fun hq => ?_)
        · have h := h.1 hq
          exact jq26 _ _ _ _ _ _ h hM (lv_sub hl [0, 1, 2] rfl)
        · have h := h.2 hq
          refine lv_aload_n hx hb dX10_writeFigures_13 rfl (lv_at hl 0 rfl) ?_
          refine lv_bipush (v := (48 : Int32)) hx hb dX10_writeFigures_14 (by decide) ?_
          refine lv_iload_n hx hb dX10_writeFigures_16 rfl (lv_at hl 1 rfl) ?_
          refine lv_iload_n hx hb dX10_writeFigures_17 rfl (lv_at hl 2 rfl) ?_
          obtain ⟨hc2, h⟩ := h
          refine lv_idiv hx hb dX10_writeFigures_18 hc2 ?_
          refine lv_bipush (v := (10 : Int32)) hx hb dX10_writeFigures_19 (by decide) ?_
          refine lv_irem hx hb dX10_writeFigures_21 (by decide) ?_
          refine lv_iadd hx hb dX10_writeFigures_22 ?_
          refine m_callv (wc := [(h0, .inr (9, oX10 r0 I_0_size I_0_length I_0_sign I_0_number I_0_figures I_0_power)), ((r0 2), .inl (cI, 40, .inl A_0_2_line))]) C0 hM [0, 1] rfl (m_runV (wc := [(h0, .inr (9, oX10 r0 I_0_size I_0_length I_0_sign I_0_number I_0_figures I_0_power)), ((r0 2), .inl (cI, 40, .inl A_0_2_line))]) (As := [.int ((48 : Int32) + ((x1 / x2) - (x1 / x2) / (10 : Int32) * (10 : Int32)))]) (rest := []) (ci := 9) C0 hM (ct_X10_writeByte l D cI cJ cZ h0 r0 I_0_size I_0_length I_0_sign I_0_number I_0_figures I_0_power A_0_2_line ((48 : Int32) + ((x1 / x2) - (x1 / x2) / (10 : Int32) * (10 : Int32))) _ _ h) [0, 1] rfl (by decide) gX10_writeFigures_X10_writeByte rfl rfl rfl rfl rfl hd_X10_writeByte ⟨Nat.le_of_ble_eq_true rfl, Nat.le_of_ble_eq_true rfl⟩ rfl hl.1 rfl (Nat.le_of_ble_eq_true rfl) dX10_writeFigures_23 ⟨Nat.le_of_ble_eq_true rfl, Nat.le_of_ble_eq_true rfl⟩) (fun u => [(h0, .inr (9, oX10 r0 I_0_size u.1 I_0_sign I_0_number I_0_figures I_0_power)), ((r0 2), .inl (cI, 40, .inl u.2))]) (fun _ => rfl) (fun _ => rfl) (fun u H locs h hM => ?_)
          obtain ⟨b3, b4⟩ := u
          dsimp only at h
          have hM : MW D A s.heap [(h0, .inr (9, oX10 r0 I_0_size b3 I_0_sign I_0_number I_0_figures I_0_power)), ((r0 2), .inl (cI, 40, .inl b4))] H locs := hM
          exact jq26 _ _ _ _ _ _ h hM (lv_sub hl [0, 1, 2] rfl)
  unfold wp_X10_writeFigures at h
  refine lv_sipush (v := (1000 : Int32)) hx hb dX10_writeFigures_0 (by decide) ?_
  refine lv_istore_n (lv' := [(2, .int (1000 : Int32)), (0, .ref h0), (1, .int x1)]) hx hb dX10_writeFigures_3 rfl hl (by decide) rfl (fun ls hl => ?_)
  obtain ⟨k0, h⟩ := h
  exact lq4 k0 _ _ _ _ _ _ h hM (lv_sub hl [1, 2, 0] rfl)
abbrev rm_X10_writeTerm : Room := { frames := 2, cells := 0, slots := 0, locals := 43 }
set_option maxRecDepth 100000 in
set_option maxHeartbeats 4000000 in
theorem ct_X10_writeTerm (l : Launch) (D : va_G) (cI cJ cZ : ClassId) (h0 : Nat) (r0 : Nat → Nat) (I_0_size : Int32) (I_0_length : Int32) (I_0_sign : Int32) (I_0_number : Int32) (I_0_figures : Int32) (I_0_power : Int32) (A_0_2_line : (Nat → Int32)) (x1 : Int32) (x2 : Int32) (sz : Nat) (K : Int32 → (Nat → Int32) → Prop) (h : wp_X10_writeTerm x1 x2 I_0_length A_0_2_line K) : Met l yX10_writeTerm wsX10_writeTerm rm_X10_writeTerm (va_Pc [.ref h0, .int x1, .int x2] (WX D cI cJ cZ [(h0, .inr (9, oX10 r0 I_0_size I_0_length I_0_sign I_0_number I_0_figures I_0_power)), ((r0 2), .inl (cI, 40, .inl A_0_2_line))] sz)) (va_Qv (fun (u : Int32 × (Nat → Int32)) => K u.1 u.2) (fun (u : Int32 × (Nat → Int32)) t => WY D (va_A [(h0, .inr (9, oX10 r0 I_0_size I_0_length I_0_sign I_0_number I_0_figures I_0_power)), ((r0 2), .inl (cI, 40, .inl A_0_2_line))] sz) [(h0, .inr (9, oX10 r0 I_0_size u.1 I_0_sign I_0_number I_0_figures I_0_power)), ((r0 2), .inl (cI, 40, .inl u.2))] t) (va_A [(h0, .inr (9, oX10 r0 I_0_size I_0_length I_0_sign I_0_number I_0_figures I_0_power)), ((r0 2), .inl (cI, 40, .inl A_0_2_line))] sz)) 0 0 (va_A [(h0, .inr (9, oX10 r0 I_0_size I_0_length I_0_sign I_0_number I_0_figures I_0_power)), ((r0 2), .inl (cI, 40, .inl A_0_2_line))] sz) := by
  refine m_met (own := RX10) (cc := cX10_writeTerm) (maxL := 4) (ret := none) [.ref h0, .int x1, .int x2] [(0, .ref h0), (1, .int x1), (2, .int x2)] (by decide) rfl rfl (Nat.le_of_ble_eq_true rfl) rfl ?_
  intro p e s m args below meth c Q A hQ hA C0 hr hnm hsz hM ls hl
  have hx := C0.1
  have hb := C0.2.1
  have hown := C0.2.2.2.1
  have jq61 : ∀ (I_0_length : Int32) (A_0_2_line : (Nat → Int32)) (H : Heap) (locs : List Loc) (ls : Array Slot) , jn_X10_writeTerm_61 x1 x2 K I_0_length A_0_2_line → MW D A s.heap [(h0, .inr (9, oX10 r0 I_0_size I_0_length I_0_sign I_0_number I_0_figures I_0_power)), ((r0 2), .inl (cI, 40, .inl A_0_2_line))] H locs → lv_has ls 4 [(0, .ref h0), (2, .int x2)] → W p l e rm_X10_writeTerm s m args below meth c H locs 0 0 Q (F0 m 61 ls []) := by
    intro I_0_length A_0_2_line H locs ls h hM hl
    unfold jn_X10_writeTerm_61 at h
    refine lv_iload_n hx hb dX10_writeTerm_61 rfl (lv_at hl 1 rfl) ?_
    refine lv_iconst (v := (1 : Int32)) hx hb dX10_writeTerm_62 (by decide) ?_
    refine lv_icmp_le (tgt := 80) hx hb dX10_writeTerm_63 (by decide) (fun hq => ?_) (fun hq => ?_)
    · have h := h.1 hq
      subst hsz; subst hA; subst hQ
      exact m_vret C0 hr hM (I_0_length, A_0_2_line) h rfl dX10_writeTerm_80
    · have h := h.2 hq
      refine lv_aload_n hx hb dX10_writeTerm_66 rfl (lv_at hl 0 rfl) ?_
      refine lv_bipush (v := (94 : Int32)) hx hb dX10_writeTerm_67 (by decide) ?_
      refine m_callv (wc := [(h0, .inr (9, oX10 r0 I_0_size I_0_length I_0_sign I_0_number I_0_figures I_0_power)), ((r0 2), .inl (cI, 40, .inl A_0_2_line))]) C0 hM [0, 1] rfl (m_runV (wc := [(h0, .inr (9, oX10 r0 I_0_size I_0_length I_0_sign I_0_number I_0_figures I_0_power)), ((r0 2), .inl (cI, 40, .inl A_0_2_line))]) (As := [.int (94 : Int32)]) (rest := []) (ci := 9) C0 hM (ct_X10_writeByte l D cI cJ cZ h0 r0 I_0_size I_0_length I_0_sign I_0_number I_0_figures I_0_power A_0_2_line (94 : Int32) _ _ h) [0, 1] rfl (by decide) gX10_writeTerm_X10_writeByte rfl rfl rfl rfl rfl hd_X10_writeByte ⟨Nat.le_of_ble_eq_true rfl, Nat.le_of_ble_eq_true rfl⟩ rfl hl.1 rfl (Nat.le_of_ble_eq_true rfl) dX10_writeTerm_69 ⟨Nat.le_of_ble_eq_true rfl, Nat.le_of_ble_eq_true rfl⟩) (fun u => [(h0, .inr (9, oX10 r0 I_0_size u.1 I_0_sign I_0_number I_0_figures I_0_power)), ((r0 2), .inl (cI, 40, .inl u.2))]) (fun _ => rfl) (fun _ => rfl) (fun u H locs h hM => ?_)
      obtain ⟨b1, b2⟩ := u
      dsimp only at h
      have hM : MW D A s.heap [(h0, .inr (9, oX10 r0 I_0_size b1 I_0_sign I_0_number I_0_figures I_0_power)), ((r0 2), .inl (cI, 40, .inl b2))] H locs := hM
      refine lv_aload_n hx hb dX10_writeTerm_72 rfl (lv_at hl 0 rfl) ?_
      refine lv_bipush (v := (48 : Int32)) hx hb dX10_writeTerm_73 (by decide) ?_
      refine lv_iload_n hx hb dX10_writeTerm_75 rfl (lv_at hl 1 rfl) ?_
      refine lv_iadd hx hb dX10_writeTerm_76 ?_
      refine m_callv (wc := [(h0, .inr (9, oX10 r0 I_0_size b1 I_0_sign I_0_number I_0_figures I_0_power)), ((r0 2), .inl (cI, 40, .inl b2))]) C0 hM [0, 1] rfl (m_runV (wc := [(h0, .inr (9, oX10 r0 I_0_size b1 I_0_sign I_0_number I_0_figures I_0_power)), ((r0 2), .inl (cI, 40, .inl b2))]) (As := [.int ((48 : Int32) + x2)]) (rest := []) (ci := 9) C0 hM (ct_X10_writeByte l D cI cJ cZ h0 r0 I_0_size b1 I_0_sign I_0_number I_0_figures I_0_power b2 ((48 : Int32) + x2) _ _ h) [0, 1] rfl (by decide) gX10_writeTerm_X10_writeByte rfl rfl rfl rfl rfl hd_X10_writeByte ⟨Nat.le_of_ble_eq_true rfl, Nat.le_of_ble_eq_true rfl⟩ rfl hl.1 rfl (Nat.le_of_ble_eq_true rfl) dX10_writeTerm_77 ⟨Nat.le_of_ble_eq_true rfl, Nat.le_of_ble_eq_true rfl⟩) (fun u => [(h0, .inr (9, oX10 r0 I_0_size u.1 I_0_sign I_0_number I_0_figures I_0_power)), ((r0 2), .inl (cI, 40, .inl u.2))]) (fun _ => rfl) (fun _ => rfl) (fun u H locs h hM => ?_)
      obtain ⟨b3, b4⟩ := u
      dsimp only at h
      have hM : MW D A s.heap [(h0, .inr (9, oX10 r0 I_0_size b3 I_0_sign I_0_number I_0_figures I_0_power)), ((r0 2), .inl (cI, 40, .inl b4))] H locs := hM
      subst hsz; subst hA; subst hQ
      exact m_vret C0 hr hM (b3, b4) h rfl dX10_writeTerm_80
  have jq51 : ∀ (I_0_length : Int32) (A_0_2_line : (Nat → Int32)) (H : Heap) (locs : List Loc) (ls : Array Slot) , jn_X10_writeTerm_51 x1 x2 K I_0_length A_0_2_line → MW D A s.heap [(h0, .inr (9, oX10 r0 I_0_size I_0_length I_0_sign I_0_number I_0_figures I_0_power)), ((r0 2), .inl (cI, 40, .inl A_0_2_line))] H locs → lv_has ls 4 [(0, .ref h0), (2, .int x2)] → W p l e rm_X10_writeTerm s m args below meth c H locs 0 0 Q (F0 m 51 ls []) := by
    intro I_0_length A_0_2_line H locs ls h hM hl
    unfold jn_X10_writeTerm_51 at h
    refine lv_iload_n hx hb dX10_writeTerm_51 rfl (lv_at hl 1 rfl) ?_
    refine lv_if_le (tgt := 61) hx hb dX10_writeTerm_52 (by decide) (fun hq => ?_) (fun hq => ?_)
    · have h := h.1 hq
      exact jq61 _ _ _ _ _ h hM (lv_sub hl [0, 1] rfl)
    · have h := h.2 hq
      refine lv_aload_n hx hb dX10_writeTerm_55 rfl (lv_at hl 0 rfl) ?_
      refine lv_bipush (v := (120 : Int32)) hx hb dX10_writeTerm_56 (by decide) ?_
      refine m_callv (wc := [(h0, .inr (9, oX10 r0 I_0_size I_0_length I_0_sign I_0_number I_0_figures I_0_power)), ((r0 2), .inl (cI, 40, .inl A_0_2_line))]) C0 hM [0, 1] rfl (m_runV (wc := [(h0, .inr (9, oX10 r0 I_0_size I_0_length I_0_sign I_0_number I_0_figures I_0_power)), ((r0 2), .inl (cI, 40, .inl A_0_2_line))]) (As := [.int (120 : Int32)]) (rest := []) (ci := 9) C0 hM (ct_X10_writeByte l D cI cJ cZ h0 r0 I_0_size I_0_length I_0_sign I_0_number I_0_figures I_0_power A_0_2_line (120 : Int32) _ _ h) [0, 1] rfl (by decide) gX10_writeTerm_X10_writeByte rfl rfl rfl rfl rfl hd_X10_writeByte ⟨Nat.le_of_ble_eq_true rfl, Nat.le_of_ble_eq_true rfl⟩ rfl hl.1 rfl (Nat.le_of_ble_eq_true rfl) dX10_writeTerm_58 ⟨Nat.le_of_ble_eq_true rfl, Nat.le_of_ble_eq_true rfl⟩) (fun u => [(h0, .inr (9, oX10 r0 I_0_size u.1 I_0_sign I_0_number I_0_figures I_0_power)), ((r0 2), .inl (cI, 40, .inl u.2))]) (fun _ => rfl) (fun _ => rfl) (fun u H locs h hM => ?_)
      obtain ⟨b5, b6⟩ := u
      dsimp only at h
      have hM : MW D A s.heap [(h0, .inr (9, oX10 r0 I_0_size b5 I_0_sign I_0_number I_0_figures I_0_power)), ((r0 2), .inl (cI, 40, .inl b6))] H locs := hM
      exact jq61 _ _ _ _ _ h hM (lv_sub hl [0, 1] rfl)
  have jq46 : ∀ (x3 : Int32) (I_0_length : Int32) (A_0_2_line : (Nat → Int32)) (H : Heap) (locs : List Loc) (ls : Array Slot) , jn_X10_writeTerm_46 x1 x2 K x3 I_0_length A_0_2_line → MW D A s.heap [(h0, .inr (9, oX10 r0 I_0_size I_0_length I_0_sign I_0_number I_0_figures I_0_power)), ((r0 2), .inl (cI, 40, .inl A_0_2_line))] H locs → lv_has ls 4 [(0, .ref h0), (2, .int x2), (3, .int x3)] → W p l e rm_X10_writeTerm s m args below meth c H locs 0 0 Q (F0 m 46 ls []) := by
    intro x3 I_0_length A_0_2_line H locs ls h hM hl
    unfold jn_X10_writeTerm_46 at h
    refine lv_aload_n hx hb dX10_writeTerm_46 rfl (lv_at hl 0 rfl) ?_
    refine lv_iload_n hx hb dX10_writeTerm_47 rfl (lv_at hl 2 rfl) ?_
    refine m_callv (wc := [(h0, .inr (9, oX10 r0 I_0_size I_0_length I_0_sign I_0_number I_0_figures I_0_power)), ((r0 2), .inl (cI, 40, .inl A_0_2_line))]) C0 hM [0, 1] rfl (m_runV (wc := [(h0, .inr (9, oX10 r0 I_0_size I_0_length I_0_sign I_0_number I_0_figures I_0_power)), ((r0 2), .inl (cI, 40, .inl A_0_2_line))]) (As := [.int x3]) (rest := []) (ci := 9) C0 hM (ct_X10_writeFigures l D cI cJ cZ h0 r0 I_0_size I_0_length I_0_sign I_0_number I_0_figures I_0_power A_0_2_line x3 _ _ h) [0, 1] rfl (by decide) gX10_writeTerm_X10_writeFigures rfl rfl rfl rfl rfl hd_X10_writeFigures ⟨Nat.le_of_ble_eq_true rfl, Nat.le_of_ble_eq_true rfl⟩ rfl hl.1 rfl (Nat.le_of_ble_eq_true rfl) dX10_writeTerm_48 ⟨Nat.le_of_ble_eq_true rfl, Nat.le_of_ble_eq_true rfl⟩) (fun u => [(h0, .inr (9, oX10 r0 I_0_size u.1 I_0_sign I_0_number I_0_figures I_0_power)), ((r0 2), .inl (cI, 40, .inl u.2))]) (fun _ => rfl) (fun _ => rfl) (fun u H locs h hM => ?_)
    obtain ⟨b7, b8⟩ := u
    dsimp only at h
    have hM : MW D A s.heap [(h0, .inr (9, oX10 r0 I_0_size b7 I_0_sign I_0_number I_0_figures I_0_power)), ((r0 2), .inl (cI, 40, .inl b8))] H locs := hM
    exact jq51 _ _ _ _ _ h hM (lv_sub hl [0, 1] rfl)
  have jq36 : ∀ (s0 : Int32) (I_0_length : Int32) (A_0_2_line : (Nat → Int32)) (H : Heap) (locs : List Loc) (ls : Array Slot) , jn_X10_writeTerm_36 x1 x2 K s0 I_0_length A_0_2_line → MW D A s.heap [(h0, .inr (9, oX10 r0 I_0_size I_0_length I_0_sign I_0_number I_0_figures I_0_power)), ((r0 2), .inl (cI, 40, .inl A_0_2_line))] H locs → lv_has ls 4 [(0, .ref h0), (2, .int x2)] → W p l e rm_X10_writeTerm s m args below meth c H locs 0 0 Q (F0 m 36 ls [.int s0]) := by
    intro s0 I_0_length A_0_2_line H locs ls h hM hl
    unfold jn_X10_writeTerm_36 at h
    refine lv_istore_n (lv' := [(3, .int s0), (0, .ref h0), (2, .int x2)]) hx hb dX10_writeTerm_36 rfl hl (by decide) rfl (fun ls hl => ?_)
    refine lv_iload_n hx hb dX10_writeTerm_37 rfl (lv_at hl 0 rfl) ?_
    refine lv_iconst (v := (1 : Int32)) hx hb dX10_writeTerm_38 (by decide) ?_
    refine lv_icmp_ne (tgt := 46) hx hb dX10_writeTerm_39 (by decide) (fun hq => ?_) (fun hq => ?_)
    · have h := h.1 hq
      exact jq46 _ _ _ _ _ _ h hM (lv_sub hl [1, 2, 0] rfl)
    · have h := h.2 hq
      refine lv_iload_n hx hb dX10_writeTerm_42 rfl (lv_at hl 2 rfl) ?_
      refine lv_if_ne (tgt := 51) hx hb dX10_writeTerm_43 (by decide) (fun hq => ?_) (fun hq => ?_)
      · have h := h.1 hq
        exact jq51 _ _ _ _ _ h hM (lv_sub hl [1, 2] rfl)
      · have h := h.2 hq
        exact jq46 _ _ _ _ _ _ h hM (lv_sub hl [1, 2, 0] rfl)
  have jq26 : ∀ (I_0_length : Int32) (A_0_2_line : (Nat → Int32)) (H : Heap) (locs : List Loc) (ls : Array Slot) , jn_X10_writeTerm_26 x1 x2 K I_0_length A_0_2_line → MW D A s.heap [(h0, .inr (9, oX10 r0 I_0_size I_0_length I_0_sign I_0_number I_0_figures I_0_power)), ((r0 2), .inl (cI, 40, .inl A_0_2_line))] H locs → lv_has ls 4 [(0, .ref h0), (1, .int x1), (2, .int x2)] → W p l e rm_X10_writeTerm s m args below meth c H locs 0 0 Q (F0 m 26 ls []) := by
    intro I_0_length A_0_2_line H locs ls h hM hl
    unfold jn_X10_writeTerm_26 at h
    refine lv_iload_n hx hb dX10_writeTerm_26 rfl (lv_at hl 1 rfl) ?_
    refine lv_if_ge (tgt := 35) hx hb dX10_writeTerm_27 (by decide) (fun hq => ?_) (fun hq => ?_)
    · have h := h.1 hq
      refine lv_iload_n hx hb dX10_writeTerm_35 rfl (lv_at hl 1 rfl) ?_
      exact jq36 _ _ _ _ _ _ h hM (lv_sub hl [0, 2] rfl)
    · have h := h.2 hq
      refine lv_iload_n hx hb dX10_writeTerm_30 rfl (lv_at hl 1 rfl) ?_
      refine lv_ineg hx hb dX10_writeTerm_31 ?_
      refine lv_goto (tgt := 36) hx hb dX10_writeTerm_32 (by decide) ?_
      exact jq36 _ _ _ _ _ _ h hM (lv_sub hl [0, 2] rfl)
  unfold wp_X10_writeTerm at h
  refine lv_iload_n hx hb dX10_writeTerm_0 rfl (lv_at hl 1 rfl) ?_
  refine lv_if_ge (tgt := 13) hx hb dX10_writeTerm_1 (by decide) (fun hq => ?_) (fun hq => ?_)
  · have h := h.1 hq
    refine lv_aload_n hx hb dX10_writeTerm_13 rfl (lv_at hl 0 rfl) ?_
    refine m_get (C := RX10) (T := TX10) (N := 9) (ci := 9) (ref := "LoweredPowers$Texts") (v := .int I_0_length) C0 hM 0 rfl rfl kt_X10_writeTerm_X10 4 (by decide) kw_X10_writeTerm_1 rfl rfl dX10_writeTerm_14 ?_
    refine lv_if_le (tgt := 26) hx hb dX10_writeTerm_17 (by decide) (fun hq => ?_) (fun hq => ?_)
    · have h := h.1 hq
      exact jq26 _ _ _ _ _ h hM (lv_sub hl [0, 1, 2] rfl)
    · have h := h.2 hq
      refine lv_aload_n hx hb dX10_writeTerm_20 rfl (lv_at hl 0 rfl) ?_
      refine lv_bipush (v := (43 : Int32)) hx hb dX10_writeTerm_21 (by decide) ?_
      refine m_callv (wc := [(h0, .inr (9, oX10 r0 I_0_size I_0_length I_0_sign I_0_number I_0_figures I_0_power)), ((r0 2), .inl (cI, 40, .inl A_0_2_line))]) C0 hM [0, 1] rfl (m_runV (wc := [(h0, .inr (9, oX10 r0 I_0_size I_0_length I_0_sign I_0_number I_0_figures I_0_power)), ((r0 2), .inl (cI, 40, .inl A_0_2_line))]) (As := [.int (43 : Int32)]) (rest := []) (ci := 9) C0 hM (ct_X10_writeByte l D cI cJ cZ h0 r0 I_0_size I_0_length I_0_sign I_0_number I_0_figures I_0_power A_0_2_line (43 : Int32) _ _ h) [0, 1] rfl (by decide) gX10_writeTerm_X10_writeByte rfl rfl rfl rfl rfl hd_X10_writeByte ⟨Nat.le_of_ble_eq_true rfl, Nat.le_of_ble_eq_true rfl⟩ rfl hl.1 rfl (Nat.le_of_ble_eq_true rfl) dX10_writeTerm_23 ⟨Nat.le_of_ble_eq_true rfl, Nat.le_of_ble_eq_true rfl⟩) (fun u => [(h0, .inr (9, oX10 r0 I_0_size u.1 I_0_sign I_0_number I_0_figures I_0_power)), ((r0 2), .inl (cI, 40, .inl u.2))]) (fun _ => rfl) (fun _ => rfl) (fun u H locs h hM => ?_)
      obtain ⟨b9, b10⟩ := u
      dsimp only at h
      have hM : MW D A s.heap [(h0, .inr (9, oX10 r0 I_0_size b9 I_0_sign I_0_number I_0_figures I_0_power)), ((r0 2), .inl (cI, 40, .inl b10))] H locs := hM
      exact jq26 _ _ _ _ _ h hM (lv_sub hl [0, 1, 2] rfl)
  · have h := h.2 hq
    refine lv_aload_n hx hb dX10_writeTerm_4 rfl (lv_at hl 0 rfl) ?_
    refine lv_bipush (v := (45 : Int32)) hx hb dX10_writeTerm_5 (by decide) ?_
    refine m_callv (wc := [(h0, .inr (9, oX10 r0 I_0_size I_0_length I_0_sign I_0_number I_0_figures I_0_power)), ((r0 2), .inl (cI, 40, .inl A_0_2_line))]) C0 hM [0, 1] rfl (m_runV (wc := [(h0, .inr (9, oX10 r0 I_0_size I_0_length I_0_sign I_0_number I_0_figures I_0_power)), ((r0 2), .inl (cI, 40, .inl A_0_2_line))]) (As := [.int (45 : Int32)]) (rest := []) (ci := 9) C0 hM (ct_X10_writeByte l D cI cJ cZ h0 r0 I_0_size I_0_length I_0_sign I_0_number I_0_figures I_0_power A_0_2_line (45 : Int32) _ _ h) [0, 1] rfl (by decide) gX10_writeTerm_X10_writeByte rfl rfl rfl rfl rfl hd_X10_writeByte ⟨Nat.le_of_ble_eq_true rfl, Nat.le_of_ble_eq_true rfl⟩ rfl hl.1 rfl (Nat.le_of_ble_eq_true rfl) dX10_writeTerm_7 ⟨Nat.le_of_ble_eq_true rfl, Nat.le_of_ble_eq_true rfl⟩) (fun u => [(h0, .inr (9, oX10 r0 I_0_size u.1 I_0_sign I_0_number I_0_figures I_0_power)), ((r0 2), .inl (cI, 40, .inl u.2))]) (fun _ => rfl) (fun _ => rfl) (fun u H locs h hM => ?_)
    obtain ⟨b11, b12⟩ := u
    dsimp only at h
    have hM : MW D A s.heap [(h0, .inr (9, oX10 r0 I_0_size b11 I_0_sign I_0_number I_0_figures I_0_power)), ((r0 2), .inl (cI, 40, .inl b12))] H locs := hM
    refine lv_goto (tgt := 26) hx hb dX10_writeTerm_10 (by decide) ?_
    exact jq26 _ _ _ _ _ h hM (lv_sub hl [0, 1, 2] rfl)
abbrev rm_X10_write : Room := { frames := 3, cells := 0, slots := 0, locals := 66 }
set_option maxRecDepth 100000 in
set_option maxHeartbeats 4000000 in
theorem ct_X10_write (l : Launch) (D : va_G) (cI cJ cZ : ClassId) (h0 : Nat) (h1 : Nat) (r0 : Nat → Nat) (I_0_size : Int32) (I_0_length : Int32) (I_0_sign : Int32) (I_0_number : Int32) (I_0_figures : Int32) (I_0_power : Int32) (A_0_2_line : (Nat → Int32)) (A1 : (Nat → Int32)) (sz : Nat) (K : Int32 → Int32 → (Nat → Int32) → Prop) (h : wp_X10_write I_0_length A_0_2_line A1 K) : Met l yX10_write wsX10_write rm_X10_write (va_Pc [.ref h0, .ref h1] (WX D cI cJ cZ [(h0, .inr (9, oX10 r0 I_0_size I_0_length I_0_sign I_0_number I_0_figures I_0_power)), ((r0 2), .inl (cI, 40, .inl A_0_2_line)), (h1, .inl (cI, 5, .inl A1))] sz)) (va_Qi (fun (r : Int32) (u : Int32 × (Nat → Int32)) => K r u.1 u.2) (fun (u : Int32 × (Nat → Int32)) t => WY D (va_A [(h0, .inr (9, oX10 r0 I_0_size I_0_length I_0_sign I_0_number I_0_figures I_0_power)), ((r0 2), .inl (cI, 40, .inl A_0_2_line)), (h1, .inl (cI, 5, .inl A1))] sz) [(h0, .inr (9, oX10 r0 I_0_size u.1 I_0_sign I_0_number I_0_figures I_0_power)), ((r0 2), .inl (cI, 40, .inl u.2)), (h1, .inl (cI, 5, .inl A1))] t) (va_A [(h0, .inr (9, oX10 r0 I_0_size I_0_length I_0_sign I_0_number I_0_figures I_0_power)), ((r0 2), .inl (cI, 40, .inl A_0_2_line)), (h1, .inl (cI, 5, .inl A1))] sz)) 0 0 (va_A [(h0, .inr (9, oX10 r0 I_0_size I_0_length I_0_sign I_0_number I_0_figures I_0_power)), ((r0 2), .inl (cI, 40, .inl A_0_2_line)), (h1, .inl (cI, 5, .inl A1))] sz) := by
  refine m_met (own := RX10) (cc := cX10_write) (maxL := 3) (ret := some .int) [.ref h0, .ref h1] [(0, .ref h0), (1, .ref h1)] (by decide) rfl rfl (Nat.le_of_ble_eq_true rfl) rfl ?_
  intro p e s m args below meth c Q A hQ hA C0 hr hnm hsz hM ls hl
  have hx := C0.1
  have hb := C0.2.1
  have hown := C0.2.2.2.1
  have jq44 : ∀ (I_0_length : Int32) (A_0_2_line : (Nat → Int32)) (H : Heap) (locs : List Loc) (ls : Array Slot) , jn_X10_write_44 A1 K I_0_length A_0_2_line → MW D A s.heap [(h0, .inr (9, oX10 r0 I_0_size I_0_length I_0_sign I_0_number I_0_figures I_0_power)), ((r0 2), .inl (cI, 40, .inl A_0_2_line)), (h1, .inl (cI, 5, .inl A1))] H locs → lv_has ls 3 [(0, .ref h0)] → W p l e rm_X10_write s m args below meth c H locs 0 0 Q (F0 m 44 ls []) := by
    intro I_0_length A_0_2_line H locs ls h hM hl
    unfold jn_X10_write_44 at h
    refine lv_aload_n hx hb dX10_write_44 rfl (lv_at hl 0 rfl) ?_
    refine m_get (C := RX10) (T := TX10) (N := 9) (ci := 9) (ref := "LoweredPowers$Texts") (v := .int I_0_length) C0 hM 0 rfl rfl kt_X10_write_X10 4 (by decide) kw_X10_write_1 rfl rfl dX10_write_45 ?_
    subst hsz; subst hA; subst hQ
    exact m_iret C0 hr hM (I_0_length, A_0_2_line) h rfl dX10_write_48
  have jq31 : ∀ (I_0_length : Int32) (A_0_2_line : (Nat → Int32)) (H : Heap) (locs : List Loc) (ls : Array Slot) , jn_X10_write_31 A1 K I_0_length A_0_2_line → MW D A s.heap [(h0, .inr (9, oX10 r0 I_0_size I_0_length I_0_sign I_0_number I_0_figures I_0_power)), ((r0 2), .inl (cI, 40, .inl A_0_2_line)), (h1, .inl (cI, 5, .inl A1))] H locs → lv_has ls 3 [(0, .ref h0)] → W p l e rm_X10_write s m args below meth c H locs 0 0 Q (F0 m 31 ls []) := by
    intro I_0_length A_0_2_line H locs ls h hM hl
    unfold jn_X10_write_31 at h
    refine lv_aload_n hx hb dX10_write_31 rfl (lv_at hl 0 rfl) ?_
    refine m_get (C := RX10) (T := TX10) (N := 9) (ci := 9) (ref := "LoweredPowers$Texts") (v := .int I_0_length) C0 hM 0 rfl rfl kt_X10_write_X10 4 (by decide) kw_X10_write_1 rfl rfl dX10_write_32 ?_
    refine lv_if_ne (tgt := 44) hx hb dX10_write_35 (by decide) (fun hq => ?_) (fun hq => ?_)
    · have h := h.1 hq
      exact jq44 _ _ _ _ _ h hM (lv_sub hl [0] rfl)
    · have h := h.2 hq
      refine lv_aload_n hx hb dX10_write_38 rfl (lv_at hl 0 rfl) ?_
      refine lv_bipush (v := (48 : Int32)) hx hb dX10_write_39 (by decide) ?_
      refine m_callv (wc := [(h0, .inr (9, oX10 r0 I_0_size I_0_length I_0_sign I_0_number I_0_figures I_0_power)), ((r0 2), .inl (cI, 40, .inl A_0_2_line))]) C0 hM [0, 1] rfl (m_runV (wc := [(h0, .inr (9, oX10 r0 I_0_size I_0_length I_0_sign I_0_number I_0_figures I_0_power)), ((r0 2), .inl (cI, 40, .inl A_0_2_line))]) (As := [.int (48 : Int32)]) (rest := []) (ci := 9) C0 hM (ct_X10_writeByte l D cI cJ cZ h0 r0 I_0_size I_0_length I_0_sign I_0_number I_0_figures I_0_power A_0_2_line (48 : Int32) _ _ h) [0, 1] rfl (by decide) gX10_write_X10_writeByte rfl rfl rfl rfl rfl hd_X10_writeByte ⟨Nat.le_of_ble_eq_true rfl, Nat.le_of_ble_eq_true rfl⟩ rfl hl.1 rfl (Nat.le_of_ble_eq_true rfl) dX10_write_41 ⟨Nat.le_of_ble_eq_true rfl, Nat.le_of_ble_eq_true rfl⟩) (fun u => [(h0, .inr (9, oX10 r0 I_0_size u.1 I_0_sign I_0_number I_0_figures I_0_power)), ((r0 2), .inl (cI, 40, .inl u.2)), (h1, .inl (cI, 5, .inl A1))]) (fun _ => rfl) (fun _ => rfl) (fun u H locs h hM => ?_)
      obtain ⟨b1, b2⟩ := u
      dsimp only at h
      have hM : MW D A s.heap [(h0, .inr (9, oX10 r0 I_0_size b1 I_0_sign I_0_number I_0_figures I_0_power)), ((r0 2), .inl (cI, 40, .inl b2)), (h1, .inl (cI, 5, .inl A1))] H locs := hM
      exact jq44 _ _ _ _ _ h hM (lv_sub hl [0] rfl)
  have lq7 : ∀ (k7 : Nat) (x2 : Int32) (I_0_length : Int32) (A_0_2_line : (Nat → Int32)) (H : Heap) (locs : List Loc) (ls : Array Slot) , lp_X10_write_7 A1 (jn_X10_write_31 A1 K) K k7 x2 I_0_length A_0_2_line → MW D A s.heap [(h0, .inr (9, oX10 r0 I_0_size I_0_length I_0_sign I_0_number I_0_figures I_0_power)), ((r0 2), .inl (cI, 40, .inl A_0_2_line)), (h1, .inl (cI, 5, .inl A1))] H locs → lv_has ls 3 [(0, .ref h0), (1, .ref h1), (2, .int x2)] → W p l e rm_X10_write s m args below meth c H locs 0 0 Q (F0 m 7 ls []) := by
    intro k7
    induction k7 with
    | zero =>
      intro x2 I_0_length A_0_2_line H locs ls h
      unfold lp_X10_write_7 at h
      exact h.elim
    | succ k7 ih7 =>
      have jq25 : ∀ (x2 : Int32) (I_0_length : Int32) (A_0_2_line : (Nat → Int32)) (H : Heap) (locs : List Loc) (ls : Array Slot) , jn_X10_write_25 A1 (fun x2 I_0_length A_0_2_line => lp_X10_write_7 A1 (jn_X10_write_31 A1 K) K k7 x2 I_0_length A_0_2_line) (jn_X10_write_31 A1 K) K x2 I_0_length A_0_2_line → MW D A s.heap [(h0, .inr (9, oX10 r0 I_0_size I_0_length I_0_sign I_0_number I_0_figures I_0_power)), ((r0 2), .inl (cI, 40, .inl A_0_2_line)), (h1, .inl (cI, 5, .inl A1))] H locs → lv_has ls 3 [(0, .ref h0), (1, .ref h1), (2, .int x2)] → W p l e rm_X10_write s m args below meth c H locs 0 0 Q (F0 m 25 ls []) := by
        intro x2 I_0_length A_0_2_line H locs ls h hM hl
        unfold jn_X10_write_25 at h
        refine lv_iinc (v := (x2 + (-1 : Int32))) (lv' := [(2, .int (x2 + (-1 : Int32))), (0, .ref h0), (1, .ref h1)]) hx hb dX10_write_25 hl (k := 2) rfl rfl (by decide) rfl (fun ls hl => ?_)
        refine lv_goto (tgt := 7) hx hb dX10_write_28 (by decide) ?_
        exact ih7 _ _ _ _ _ _ h hM (lv_sub hl [1, 2, 0] rfl)
      intro x2 I_0_length A_0_2_line H locs ls h hM hl
      unfold lp_X10_write_7 at h
      refine lv_iload_n hx hb dX10_write_7 rfl (lv_at hl 2 rfl) ?_
      refine lv_if_lt (tgt := 31) hx hb dX10_write_8 (by decide) (fun hq => ?_) (fun hq => ?_)
      · have h := h.1 hq
        exact jq31 _ _ _ _ _ h hM (lv_sub hl [0] rfl)
      · have h := h.2 hq
        refine lv_aload_n hx hb dX10_write_11 rfl (lv_at hl 1 rfl) ?_
        refine lv_iload_n hx hb dX10_write_12 rfl (lv_at hl 2 rfl) ?_
        obtain ⟨hc3, h⟩ := h
        refine m_iald C0 hM 2 rfl hc3 dX10_write_13 ?_
        refine lv_if_eq (tgt := 25) hx hb dX10_write_14 (by decide) (fun hq => ?_) (fun hq => ?_)
        · have h := h.1 hq
          exact jq25 _ _ _ _ _ _ h hM (lv_sub hl [0, 1, 2] rfl)
        · have h := h.2 hq
          refine lv_aload_n hx hb dX10_write_17 rfl (lv_at hl 0 rfl) ?_
          refine lv_aload_n hx hb dX10_write_18 rfl (lv_at hl 1 rfl) ?_
          refine lv_iload_n hx hb dX10_write_19 rfl (lv_at hl 2 rfl) ?_
          refine m_iald C0 hM 2 rfl hc3 dX10_write_20 ?_
          refine lv_iload_n hx hb dX10_write_21 rfl (lv_at hl 2 rfl) ?_
          refine m_callv (wc := [(h0, .inr (9, oX10 r0 I_0_size I_0_length I_0_sign I_0_number I_0_figures I_0_power)), ((r0 2), .inl (cI, 40, .inl A_0_2_line))]) C0 hM [0, 1] rfl (m_runV (wc := [(h0, .inr (9, oX10 r0 I_0_size I_0_length I_0_sign I_0_number I_0_figures I_0_power)), ((r0 2), .inl (cI, 40, .inl A_0_2_line))]) (As := [.int (A1 (x2).toNatClampNeg), .int x2]) (rest := []) (ci := 9) C0 hM (ct_X10_writeTerm l D cI cJ cZ h0 r0 I_0_size I_0_length I_0_sign I_0_number I_0_figures I_0_power A_0_2_line (A1 (x2).toNatClampNeg) x2 _ _ h) [0, 1] rfl (by decide) gX10_write_X10_writeTerm rfl rfl rfl rfl rfl hd_X10_writeTerm ⟨Nat.le_of_ble_eq_true rfl, Nat.le_of_ble_eq_true rfl⟩ rfl hl.1 rfl (Nat.le_of_ble_eq_true rfl) dX10_write_22 ⟨Nat.le_of_ble_eq_true rfl, Nat.le_of_ble_eq_true rfl⟩) (fun u => [(h0, .inr (9, oX10 r0 I_0_size u.1 I_0_sign I_0_number I_0_figures I_0_power)), ((r0 2), .inl (cI, 40, .inl u.2)), (h1, .inl (cI, 5, .inl A1))]) (fun _ => rfl) (fun _ => rfl) (fun u H locs h hM => ?_)
          obtain ⟨b4, b5⟩ := u
          dsimp only at h
          have hM : MW D A s.heap [(h0, .inr (9, oX10 r0 I_0_size b4 I_0_sign I_0_number I_0_figures I_0_power)), ((r0 2), .inl (cI, 40, .inl b5)), (h1, .inl (cI, 5, .inl A1))] H locs := hM
          exact jq25 _ _ _ _ _ _ h hM (lv_sub hl [0, 1, 2] rfl)
  unfold wp_X10_write at h
  refine lv_aload_n hx hb dX10_write_0 rfl (lv_at hl 0 rfl) ?_
  refine lv_iconst (v := (0 : Int32)) hx hb dX10_write_1 (by decide) ?_
  refine m_put (ws' := [(h0, .inr (9, oX10 r0 I_0_size (0 : Int32) I_0_sign I_0_number I_0_figures I_0_power)), ((r0 2), .inl (cI, 40, .inl A_0_2_line)), (h1, .inl (cI, 5, .inl A1))]) (C := RX10) (T := TX10) (N := 9) (ci := 9) (ref := "LoweredPowers$Texts") (v := .int (0 : Int32)) C0 hM 0 rfl rfl kt_X10_write_X10 tyX10 tyX10_ok nmX10 4 (by decide) kw_X10_write_1 rfl rfl rfl rfl (Nat.le_of_ble_eq_true rfl) rfl dX10_write_2 (fun H locs hM => ?_)
  refine lv_iconst (v := (4 : Int32)) hx hb dX10_write_5 (by decide) ?_
  refine lv_istore_n (lv' := [(2, .int (4 : Int32)), (0, .ref h0), (1, .ref h1)]) hx hb dX10_write_6 rfl hl (by decide) rfl (fun ls hl => ?_)
  obtain ⟨k0, h⟩ := h
  exact lq7 k0 _ _ _ _ _ _ h hM (lv_sub hl [1, 2, 0] rfl)
