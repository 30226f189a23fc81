theorem hd_X0_isThere : yX0_isThere.cls = RX0 ∧ yX0_isThere.cls ≠ "java/lang/invoke/MethodHandle" ∧ yX0_isThere.cls ≠ "java/lang/invoke/VarHandle" ∧ (parseMethodDescriptor yX0_isThere.desc).map (fun d => d.parameters.length) = some 0 := by decide +kernel
theorem hd_X4_become : yX4_become.cls = RX4 ∧ yX4_become.cls ≠ "java/lang/invoke/MethodHandle" ∧ yX4_become.cls ≠ "java/lang/invoke/VarHandle" ∧ (parseMethodDescriptor yX4_become.desc).map (fun d => d.parameters.length) = some 1 := by decide +kernel
theorem hd_X0_become : yX0_become.cls = RX0 ∧ yX0_become.cls ≠ "java/lang/invoke/MethodHandle" ∧ yX0_become.cls ≠ "java/lang/invoke/VarHandle" ∧ (parseMethodDescriptor yX0_become.desc).map (fun d => d.parameters.length) = some 1 := by decide +kernel
theorem hd_X0_forget : yX0_forget.cls = RX0 ∧ yX0_forget.cls ≠ "java/lang/invoke/MethodHandle" ∧ yX0_forget.cls ≠ "java/lang/invoke/VarHandle" ∧ (parseMethodDescriptor yX0_forget.desc).map (fun d => d.parameters.length) = some 0 := by decide +kernel
theorem hd_X0_at : yX0_at.cls = RX0 ∧ yX0_at.cls ≠ "java/lang/invoke/MethodHandle" ∧ yX0_at.cls ≠ "java/lang/invoke/VarHandle" ∧ (parseMethodDescriptor yX0_at.desc).map (fun d => d.parameters.length) = some 1 := by decide +kernel
theorem hd_X0_lowest : yX0_lowest.cls ≠ "java/lang/invoke/MethodHandle" ∧ yX0_lowest.cls ≠ "java/lang/invoke/VarHandle" ∧ (parseMethodDescriptor yX0_lowest.desc).map (fun d => d.parameters.length) = some 2 := by decide +kernel
theorem hd_X0_dividesRest : yX0_dividesRest.cls = RX0 ∧ yX0_dividesRest.cls ≠ "java/lang/invoke/MethodHandle" ∧ yX0_dividesRest.cls ≠ "java/lang/invoke/VarHandle" ∧ (parseMethodDescriptor yX0_dividesRest.desc).map (fun d => d.parameters.length) = some 1 := by decide +kernel
theorem hd_X0_timesDivided : yX0_timesDivided.cls = RX0 ∧ yX0_timesDivided.cls ≠ "java/lang/invoke/MethodHandle" ∧ yX0_timesDivided.cls ≠ "java/lang/invoke/VarHandle" ∧ (parseMethodDescriptor yX0_timesDivided.desc).map (fun d => d.parameters.length) = some 1 := by decide +kernel
theorem hd_X0_gatherRoots : yX0_gatherRoots.cls = RX0 ∧ yX0_gatherRoots.cls ≠ "java/lang/invoke/MethodHandle" ∧ yX0_gatherRoots.cls ≠ "java/lang/invoke/VarHandle" ∧ (parseMethodDescriptor yX0_gatherRoots.desc).map (fun d => d.parameters.length) = some 0 := by decide +kernel
theorem hd_X1_make : yX1_make.cls = RX1 ∧ yX1_make.cls ≠ "java/lang/invoke/MethodHandle" ∧ yX1_make.cls ≠ "java/lang/invoke/VarHandle" ∧ (parseMethodDescriptor yX1_make.desc).map (fun d => d.parameters.length) = some 2 := by decide +kernel
theorem hd_X1_compare : yX1_compare.cls = RX1 ∧ yX1_compare.cls ≠ "java/lang/invoke/MethodHandle" ∧ yX1_compare.cls ≠ "java/lang/invoke/VarHandle" ∧ (parseMethodDescriptor yX1_compare.desc).map (fun d => d.parameters.length) = some 2 := by decide +kernel
theorem hd_X4_topDerivative : yX4_topDerivative.cls = RX4 ∧ yX4_topDerivative.cls ≠ "java/lang/invoke/MethodHandle" ∧ yX4_topDerivative.cls ≠ "java/lang/invoke/VarHandle" ∧ (parseMethodDescriptor yX4_topDerivative.desc).map (fun d => d.parameters.length) = some 0 := by decide +kernel
theorem hd_X4_index : yX4_index.cls ≠ "java/lang/invoke/MethodHandle" ∧ yX4_index.cls ≠ "java/lang/invoke/VarHandle" ∧ (parseMethodDescriptor yX4_index.desc).map (fun d => d.parameters.length) = some 3 := by decide +kernel
theorem hd_X4_names : yX4_names.cls ≠ "java/lang/invoke/MethodHandle" ∧ yX4_names.cls ≠ "java/lang/invoke/VarHandle" ∧ (parseMethodDescriptor yX4_names.desc).map (fun d => d.parameters.length) = some 3 := by decide +kernel
theorem hd_X5_append : yX5_append.cls = RX5 ∧ yX5_append.cls ≠ "java/lang/invoke/MethodHandle" ∧ yX5_append.cls ≠ "java/lang/invoke/VarHandle" ∧ (parseMethodDescriptor yX5_append.desc).map (fun d => d.parameters.length) = some 2 := by decide +kernel
theorem hd_X5_become : yX5_become.cls = RX5 ∧ yX5_become.cls ≠ "java/lang/invoke/MethodHandle" ∧ yX5_become.cls ≠ "java/lang/invoke/VarHandle" ∧ (parseMethodDescriptor yX5_become.desc).map (fun d => d.parameters.length) = some 1 := by decide +kernel
theorem hd_X5_turn : yX5_turn.cls ≠ "java/lang/invoke/MethodHandle" ∧ yX5_turn.cls ≠ "java/lang/invoke/VarHandle" ∧ (parseMethodDescriptor yX5_turn.desc).map (fun d => d.parameters.length) = some 1 := by decide +kernel
theorem hd_X5_stretch : yX5_stretch.cls ≠ "java/lang/invoke/MethodHandle" ∧ yX5_stretch.cls ≠ "java/lang/invoke/VarHandle" ∧ (parseMethodDescriptor yX5_stretch.desc).map (fun d => d.parameters.length) = some 3 := by decide +kernel
theorem hd_X5_move : yX5_move.cls ≠ "java/lang/invoke/MethodHandle" ∧ yX5_move.cls ≠ "java/lang/invoke/VarHandle" ∧ (parseMethodDescriptor yX5_move.desc).map (fun d => d.parameters.length) = some 2 := by decide +kernel
theorem hd_X5_changeOnce : yX5_changeOnce.cls ≠ "java/lang/invoke/MethodHandle" ∧ yX5_changeOnce.cls ≠ "java/lang/invoke/VarHandle" ∧ (parseMethodDescriptor yX5_changeOnce.desc).map (fun d => d.parameters.length) = some 3 := by decide +kernel
theorem kt_X0_at_X0 : ∀ w ∈ u_ws RX0 TX0 7, w ∈ wsX0_at := fun _ h => List.mem_cons_of_mem _ (List.mem_append_right _ (h))
theorem kt_X0_become_X0 : ∀ w ∈ u_ws RX0 TX0 7, w ∈ wsX0_become := fun _ h => List.mem_cons_of_mem _ (List.mem_append_left _ (List.mem_append_right _ (h)))
theorem kt_X0_dividesRest_X0 : ∀ w ∈ u_ws RX0 TX0 7, w ∈ wsX0_dividesRest := fun _ h => List.mem_cons_of_mem _ (List.mem_append_right _ (h))
theorem kt_X0_forget_X0 : ∀ w ∈ u_ws RX0 TX0 7, w ∈ wsX0_forget := fun _ h => List.mem_cons_of_mem _ (List.mem_append_left _ (List.mem_append_right _ (h)))
theorem kt_X0_forget_X4 : ∀ w ∈ u_ws RX4 TX4 1, w ∈ wsX0_forget := fun _ h => List.mem_cons_of_mem _ (List.mem_append_right _ (h))
theorem kt_X0_gatherRoots_X0 : ∀ w ∈ u_ws RX0 TX0 7, w ∈ wsX0_gatherRoots := fun _ h => List.mem_cons_of_mem _ (List.mem_append_right _ (h))
theorem kt_X0_isThere_X0 : ∀ w ∈ u_ws RX0 TX0 7, w ∈ wsX0_isThere := fun _ h => List.mem_cons_of_mem _ (List.mem_append_right _ (h))
theorem kt_X0_timesDivided_X0 : ∀ w ∈ u_ws RX0 TX0 7, w ∈ wsX0_timesDivided := fun _ h => List.mem_cons_of_mem _ (List.mem_append_right _ (h))
theorem kt_X1_compare_X0 : ∀ w ∈ u_ws RX0 TX0 7, w ∈ wsX1_compare := fun _ h => List.mem_cons_of_mem _ (List.mem_append_right _ (h))
theorem kt_X1_compare_X1 : ∀ w ∈ u_ws RX1 TX1 2, w ∈ wsX1_compare := fun _ h => List.mem_cons_of_mem _ (List.mem_append_left _ (List.mem_append_right _ (h)))
theorem kt_X1_make_X1 : ∀ w ∈ u_ws RX1 TX1 2, w ∈ wsX1_make := fun _ h => List.mem_cons_of_mem _ (List.mem_append_right _ (h))
theorem kt_X4_become_X4 : ∀ w ∈ u_ws RX4 TX4 1, w ∈ wsX4_become := fun _ h => List.mem_cons_of_mem _ (List.mem_append_right _ (h))
theorem kt_X4_topDerivative_X4 : ∀ w ∈ u_ws RX4 TX4 1, w ∈ wsX4_topDerivative := fun _ h => List.mem_cons_of_mem _ (List.mem_append_right _ (h))
theorem kt_X5_append_X5 : ∀ w ∈ u_ws RX5 TX5 3, w ∈ wsX5_append := fun _ h => List.mem_cons_of_mem _ (List.mem_append_right _ (h))
theorem kt_X5_become_X5 : ∀ w ∈ u_ws RX5 TX5 3, w ∈ wsX5_become := fun _ h => List.mem_cons_of_mem _ (List.mem_append_right _ (h))
theorem kw_X0_isThere_1 : Cond.fieldLink RX0 22 "LoweredPowers$Found" "top" "I" ∈ wsX0_isThere := List.mem_of_getElem? (i := 1) rfl
theorem kw_X4_become_1 : Cond.fieldLink RX4 9 "LoweredPowers$Operator" "numbers" "[I" ∈ wsX4_become := List.mem_of_getElem? (i := 1) rfl
theorem kw_X4_become_2 : Cond.methodLink RX4 25 arraycopyName ∈ wsX4_become := List.mem_of_getElem? (i := 2) rfl
theorem kw_X4_become_3 : Cond.native arraycopyName ∈ wsX4_become := List.mem_of_getElem? (i := 3) rfl
theorem kw_X4_become_4 : Cond.static arraycopyName ∈ wsX4_become := List.mem_of_getElem? (i := 4) rfl
theorem kw_X4_become_5 : Cond.initialized RJ10 ∈ wsX4_become := List.mem_of_getElem? (i := 5) rfl
theorem kw_X0_become_1 : Cond.fieldLink RX0 12 "LoweredPowers$Found" "operator" "LLoweredPowers$Operator;" ∈ wsX0_become := List.mem_of_getElem? (i := 1) rfl
theorem kw_X0_become_2 : Cond.fieldLink RX0 18 "LoweredPowers$Found" "b" "[I" ∈ wsX0_become := List.mem_of_getElem? (i := 2) rfl
theorem kw_X0_become_3 : Cond.methodLink RX0 42 arraycopyName ∈ wsX0_become := List.mem_of_getElem? (i := 3) rfl
theorem kw_X0_become_4 : Cond.native arraycopyName ∈ wsX0_become := List.mem_of_getElem? (i := 4) rfl
theorem kw_X0_become_5 : Cond.static arraycopyName ∈ wsX0_become := List.mem_of_getElem? (i := 5) rfl
theorem kw_X0_become_6 : Cond.initialized RJ10 ∈ wsX0_become := List.mem_of_getElem? (i := 6) rfl
theorem kw_X0_become_7 : Cond.fieldLink RX0 22 "LoweredPowers$Found" "top" "I" ∈ wsX0_become := List.mem_of_getElem? (i := 7) rfl
theorem kw_X0_forget_1 : Cond.fieldLink RX0 12 "LoweredPowers$Found" "operator" "LLoweredPowers$Operator;" ∈ wsX0_forget := List.mem_of_getElem? (i := 1) rfl
theorem kw_X0_forget_2 : Cond.fieldLink RX0 48 "LoweredPowers$Operator" "numbers" "[I" ∈ wsX0_forget := List.mem_of_getElem? (i := 2) rfl
theorem kw_X0_forget_3 : Cond.fieldLink RX0 18 "LoweredPowers$Found" "b" "[I" ∈ wsX0_forget := List.mem_of_getElem? (i := 3) rfl
theorem kw_X0_forget_4 : Cond.fieldLink RX0 22 "LoweredPowers$Found" "top" "I" ∈ wsX0_forget := List.mem_of_getElem? (i := 4) rfl
theorem kw_X0_at_1 : Cond.fieldLink RX0 18 "LoweredPowers$Found" "b" "[I" ∈ wsX0_at := List.mem_of_getElem? (i := 1) rfl
theorem kw_X0_dividesRest_1 : Cond.fieldLink RX0 35 "LoweredPowers$Found" "rest" "[I" ∈ wsX0_dividesRest := List.mem_of_getElem? (i := 1) rfl
theorem kw_X0_dividesRest_2 : Cond.methodLink RX0 42 arraycopyName ∈ wsX0_dividesRest := List.mem_of_getElem? (i := 2) rfl
theorem kw_X0_dividesRest_3 : Cond.native arraycopyName ∈ wsX0_dividesRest := List.mem_of_getElem? (i := 3) rfl
theorem kw_X0_dividesRest_4 : Cond.static arraycopyName ∈ wsX0_dividesRest := List.mem_of_getElem? (i := 4) rfl
theorem kw_X0_dividesRest_5 : Cond.initialized RJ10 ∈ wsX0_dividesRest := List.mem_of_getElem? (i := 5) rfl
theorem kw_X0_timesDivided_7 : Cond.fieldLink RX0 22 "LoweredPowers$Found" "top" "I" ∈ wsX0_timesDivided := List.mem_of_getElem? (i := 7) rfl
theorem kw_X0_timesDivided_1 : Cond.fieldLink RX0 18 "LoweredPowers$Found" "b" "[I" ∈ wsX0_timesDivided := List.mem_of_getElem? (i := 1) rfl
theorem kw_X0_timesDivided_2 : Cond.fieldLink RX0 35 "LoweredPowers$Found" "rest" "[I" ∈ wsX0_timesDivided := List.mem_of_getElem? (i := 2) rfl
theorem kw_X0_timesDivided_3 : Cond.methodLink RX0 42 arraycopyName ∈ wsX0_timesDivided := List.mem_of_getElem? (i := 3) rfl
theorem kw_X0_timesDivided_4 : Cond.native arraycopyName ∈ wsX0_timesDivided := List.mem_of_getElem? (i := 4) rfl
theorem kw_X0_timesDivided_5 : Cond.static arraycopyName ∈ wsX0_timesDivided := List.mem_of_getElem? (i := 5) rfl
theorem kw_X0_timesDivided_6 : Cond.initialized RJ10 ∈ wsX0_timesDivided := List.mem_of_getElem? (i := 6) rfl
theorem kw_X0_gatherRoots_1 : Cond.fieldLink RX0 26 "LoweredPowers$Found" "above" "[I" ∈ wsX0_gatherRoots := List.mem_of_getElem? (i := 1) rfl
theorem kw_X0_gatherRoots_2 : Cond.fieldLink RX0 29 "LoweredPowers$Found" "below" "[I" ∈ wsX0_gatherRoots := List.mem_of_getElem? (i := 2) rfl
theorem kw_X0_gatherRoots_3 : Cond.fieldLink RX0 32 "LoweredPowers$Found" "often" "[I" ∈ wsX0_gatherRoots := List.mem_of_getElem? (i := 3) rfl
theorem kw_X1_make_2 : Cond.fieldLink RX1 15 "LoweredPowers$Lists" "longs" "[J" ∈ wsX1_make := List.mem_of_getElem? (i := 2) rfl
theorem kw_X1_make_1 : Cond.fieldLink RX1 11 "LoweredPowers$Lists" "sizes" "[I" ∈ wsX1_make := List.mem_of_getElem? (i := 1) rfl
theorem kw_X1_compare_2 : Cond.fieldLink RX1 25 "LoweredPowers$Found" "top" "I" ∈ wsX1_compare := List.mem_of_getElem? (i := 2) rfl
theorem kw_X1_compare_3 : Cond.fieldLink RX1 15 "LoweredPowers$Lists" "longs" "[J" ∈ wsX1_compare := List.mem_of_getElem? (i := 3) rfl
theorem kw_X1_compare_4 : Cond.fieldLink RX1 31 "LoweredPowers$Found" "b" "[I" ∈ wsX1_compare := List.mem_of_getElem? (i := 4) rfl
theorem kw_X1_compare_1 : Cond.fieldLink RX1 11 "LoweredPowers$Lists" "sizes" "[I" ∈ wsX1_compare := List.mem_of_getElem? (i := 1) rfl
theorem kw_X4_topDerivative_1 : Cond.fieldLink RX4 9 "LoweredPowers$Operator" "numbers" "[I" ∈ wsX4_topDerivative := List.mem_of_getElem? (i := 1) rfl
theorem kw_X4_names_2 : Cond.initialized RX11 ∈ wsX4_names := List.mem_of_getElem? (i := 2) rfl
theorem kw_X4_names_1 : Cond.static yX11_within ∈ wsX4_names := List.mem_of_getElem? (i := 1) rfl
theorem kw_X5_append_1 : Cond.fieldLink RX5 18 "LoweredPowers$Plan" "size" "I" ∈ wsX5_append := List.mem_of_getElem? (i := 1) rfl
theorem kw_X5_append_2 : Cond.fieldLink RX5 11 "LoweredPowers$Plan" "kinds" "[I" ∈ wsX5_append := List.mem_of_getElem? (i := 2) rfl
theorem kw_X5_append_3 : Cond.fieldLink RX5 15 "LoweredPowers$Plan" "amounts" "[I" ∈ wsX5_append := List.mem_of_getElem? (i := 3) rfl
theorem kw_X5_become_1 : Cond.fieldLink RX5 11 "LoweredPowers$Plan" "kinds" "[I" ∈ wsX5_become := List.mem_of_getElem? (i := 1) rfl
theorem kw_X5_become_2 : Cond.methodLink RX5 22 arraycopyName ∈ wsX5_become := List.mem_of_getElem? (i := 2) rfl
theorem kw_X5_become_3 : Cond.native arraycopyName ∈ wsX5_become := List.mem_of_getElem? (i := 3) rfl
theorem kw_X5_become_4 : Cond.static arraycopyName ∈ wsX5_become := List.mem_of_getElem? (i := 4) rfl
theorem kw_X5_become_5 : Cond.initialized RJ10 ∈ wsX5_become := List.mem_of_getElem? (i := 5) rfl
theorem kw_X5_become_6 : Cond.fieldLink RX5 15 "LoweredPowers$Plan" "amounts" "[I" ∈ wsX5_become := List.mem_of_getElem? (i := 6) rfl
theorem kw_X5_become_7 : Cond.fieldLink RX5 18 "LoweredPowers$Plan" "size" "I" ∈ wsX5_become := List.mem_of_getElem? (i := 7) rfl
abbrev rm_X0_isThere : Room := { frames := 0, cells := 0, slots := 0, locals := 0 }
set_option maxRecDepth 100000 in
set_option maxHeartbeats 4000000 in
theorem ct_X0_isThere (l : Launch) (D : va_G) (cI cJ cZ : ClassId) (h0 : Nat) (r0 : Nat → Nat) (I_0_top : Int32) (sz : Nat) (K : Int32 → Prop) (h : wp_X0_isThere I_0_top K) : Met l yX0_isThere wsX0_isThere rm_X0_isThere (va_Pc [.ref h0] (WX D cI cJ cZ [(h0, .inr (0, oX0 r0 I_0_top))] sz)) (va_Qi (fun (r : Int32) (_ : Unit) => K r ) (fun (_ : Unit) t => WY D (va_A [(h0, .inr (0, oX0 r0 I_0_top))] sz) [(h0, .inr (0, oX0 r0 I_0_top))] t) (va_A [(h0, .inr (0, oX0 r0 I_0_top))] sz)) 0 0 (va_A [(h0, .inr (0, oX0 r0 I_0_top))] sz) := by
  refine m_met (own := RX0) (cc := cX0_isThere) (maxL := 1) (ret := some .boolean) [.ref h0] [(0, .ref h0)] (by decide) rfl rfl (Nat.le_of_ble_eq_true rfl) rfl ?_
  intro p e s m args below meth c Q A hQ hA C0 hr hnm hsz hM ls hl
  have hx := C0.1
  have hb := C0.2.1
  have hown := C0.2.2.2.1
  unfold wp_X0_isThere at h
  refine lv_aload_n hx hb dX0_isThere_0 rfl (lv_at hl 0 rfl) ?_
  refine m_get (C := RX0) (T := TX0) (N := 7) (ci := 0) (ref := "LoweredPowers$Found") (v := .int I_0_top) C0 hM 0 rfl rfl kt_X0_isThere_X0 2 (by decide) kw_X0_isThere_1 rfl rfl dX0_isThere_1 ?_
  refine lv_if_lt (tgt := 11) hx hb dX0_isThere_4 (by decide) (fun hq => ?_) (fun hq => ?_)
  · have h := h.1 hq
    refine lv_iconst (v := (0 : Int32)) hx hb dX0_isThere_11 (by decide) ?_
    subst hsz; subst hA; subst hQ
    exact m_zret C0 hr hM rfl () h rfl dX0_isThere_12
  · have h := h.2 hq
    refine lv_iconst (v := (1 : Int32)) hx hb dX0_isThere_7 (by decide) ?_
    refine lv_goto (tgt := 12) hx hb dX0_isThere_8 (by decide) ?_
    subst hsz; subst hA; subst hQ
    exact m_zret C0 hr hM rfl () h rfl dX0_isThere_12
abbrev rm_X4_become : Room := { frames := 1, cells := 0, slots := 0, locals := 26 }
set_option maxRecDepth 100000 in
set_option maxHeartbeats 4000000 in
theorem ct_X4_become (l : Launch) (D : va_G) (cI cJ cZ : ClassId) (h0 : Nat) (h1 : Nat) (r0 : Nat → Nat) (r1 : Nat → Nat) (A_0_0_numbers : (Nat → Int32)) (A_1_0_numbers : (Nat → Int32)) (sz : Nat) (K : (Nat → Int32) → Prop) (h : wp_X4_become A_0_0_numbers A_1_0_numbers K) : Met l yX4_become wsX4_become rm_X4_become (va_Pc [.ref h0, .ref h1] (WX D cI cJ cZ [(h0, .inr (3, oX4 r0 )), ((r0 0), .inl (cI, 75, .inl A_0_0_numbers)), (h1, .inr (3, oX4 r1 )), ((r1 0), .inl (cI, 75, .inl A_1_0_numbers))] sz)) (va_Qv (fun (u : (Nat → Int32)) => K u) (fun (u : (Nat → Int32)) t => WY D (va_A [(h0, .inr (3, oX4 r0 )), ((r0 0), .inl (cI, 75, .inl A_0_0_numbers)), (h1, .inr (3, oX4 r1 )), ((r1 0), .inl (cI, 75, .inl A_1_0_numbers))] sz) [(h0, .inr (3, oX4 r0 )), ((r0 0), .inl (cI, 75, .inl u)), (h1, .inr (3, oX4 r1 )), ((r1 0), .inl (cI, 75, .inl A_1_0_numbers))] t) (va_A [(h0, .inr (3, oX4 r0 )), ((r0 0), .inl (cI, 75, .inl A_0_0_numbers)), (h1, .inr (3, oX4 r1 )), ((r1 0), .inl (cI, 75, .inl A_1_0_numbers))] sz)) 0 0 (va_A [(h0, .inr (3, oX4 r0 )), ((r0 0), .inl (cI, 75, .inl A_0_0_numbers)), (h1, .inr (3, oX4 r1 )), ((r1 0), .inl (cI, 75, .inl A_1_0_numbers))] sz) := by
  refine m_met (own := RX4) (cc := cX4_become) (maxL := 2) (ret := none) [.ref h0, .ref h1] [(0, .ref h0), (1, .ref h1)] (by decide) rfl rfl (Nat.le_of_ble_eq_true rfl) rfl ?_
  intro p e s m args below meth c Q A hQ hA C0 hr hnm hsz hM ls hl
  have hx := C0.1
  have hb := C0.2.1
  have hown := C0.2.2.2.1
  unfold wp_X4_become at h
  refine lv_aload_n hx hb dX4_become_0 rfl (lv_at hl 1 rfl) ?_
  refine m_get (C := RX4) (T := TX4) (N := 1) (ci := 3) (ref := "LoweredPowers$Operator") (v := .ref (r1 0)) C0 hM 2 rfl rfl kt_X4_become_X4 0 (by decide) kw_X4_become_1 rfl rfl dX4_become_1 ?_
  refine lv_iconst (v := (0 : Int32)) hx hb dX4_become_4 (by decide) ?_
  refine lv_aload_n hx hb dX4_become_5 rfl (lv_at hl 0 rfl) ?_
  refine m_get (C := RX4) (T := TX4) (N := 1) (ci := 3) (ref := "LoweredPowers$Operator") (v := .ref (r0 0)) C0 hM 0 rfl rfl kt_X4_become_X4 0 (by decide) kw_X4_become_1 rfl rfl dX4_become_6 ?_
  refine lv_iconst (v := (0 : Int32)) hx hb dX4_become_9 (by decide) ?_
  refine lv_bipush (v := (75 : Int32)) hx hb dX4_become_10 (by decide) ?_
  refine m_copyi (ws' := [(h0, .inr (3, oX4 r0 )), ((r0 0), .inl (cI, 75, .inl (va_cpy A_1_0_numbers A_0_0_numbers ((0 : Int32)).toNatClampNeg ((0 : Int32)).toNatClampNeg ((75 : Int32)).toNatClampNeg))), (h1, .inr (3, oX4 r1 )), ((r1 0), .inl (cI, 75, .inl A_1_0_numbers))]) C0 hM hl.1 kw_X4_become_2 kw_X4_become_3 kw_X4_become_4 kw_X4_become_5 3 1 rfl rfl (by decide) (Nat.le_of_ble_eq_true rfl) (Nat.le_of_ble_eq_true rfl) rfl dX4_become_12 (fun H locs hM => ?_)
  subst hsz; subst hA; subst hQ
  exact m_vret C0 hr hM (va_cpy A_1_0_numbers A_0_0_numbers ((0 : Int32)).toNatClampNeg ((0 : Int32)).toNatClampNeg ((75 : Int32)).toNatClampNeg) h rfl dX4_become_15
abbrev rm_X0_become : Room := { frames := 2, cells := 0, slots := 0, locals := 47 }
set_option maxRecDepth 100000 in
set_option maxHeartbeats 4000000 in
theorem ct_X0_become (l : Launch) (D : va_G) (cI cJ cZ : ClassId) (h0 : Nat) (h1 : Nat) (r0 : Nat → Nat) (r0_0 : Nat → Nat) (r1 : Nat → Nat) (r1_0 : Nat → Nat) (I_0_top : Int32) (A_0_0_0_numbers : (Nat → Int32)) (A_0_1_b : (Nat → Int32)) (I_1_top : Int32) (A_1_0_0_numbers : (Nat → Int32)) (A_1_1_b : (Nat → Int32)) (sz : Nat) (K : Int32 → (Nat → Int32) → (Nat → Int32) → Prop) (h : wp_X0_become I_0_top A_0_0_0_numbers A_0_1_b I_1_top A_1_0_0_numbers A_1_1_b K) : Met l yX0_become wsX0_become rm_X0_become (va_Pc [.ref h0, .ref h1] (WX D cI cJ cZ [(h0, .inr (0, oX0 r0 I_0_top)), ((r0 0), .inr (3, oX4 r0_0 )), ((r0_0 0), .inl (cI, 75, .inl A_0_0_0_numbers)), ((r0 1), .inl (cI, 9, .inl A_0_1_b)), (h1, .inr (0, oX0 r1 I_1_top)), ((r1 0), .inr (3, oX4 r1_0 )), ((r1_0 0), .inl (cI, 75, .inl A_1_0_0_numbers)), ((r1 1), .inl (cI, 9, .inl A_1_1_b))] sz)) (va_Qv (fun (u : Int32 × (Nat → Int32) × (Nat → Int32)) => K u.1 u.2.1 u.2.2) (fun (u : Int32 × (Nat → Int32) × (Nat → Int32)) t => WY D (va_A [(h0, .inr (0, oX0 r0 I_0_top)), ((r0 0), .inr (3, oX4 r0_0 )), ((r0_0 0), .inl (cI, 75, .inl A_0_0_0_numbers)), ((r0 1), .inl (cI, 9, .inl A_0_1_b)), (h1, .inr (0, oX0 r1 I_1_top)), ((r1 0), .inr (3, oX4 r1_0 )), ((r1_0 0), .inl (cI, 75, .inl A_1_0_0_numbers)), ((r1 1), .inl (cI, 9, .inl A_1_1_b))] sz) [(h0, .inr (0, oX0 r0 u.1)), ((r0 0), .inr (3, oX4 r0_0 )), ((r0_0 0), .inl (cI, 75, .inl u.2.1)), ((r0 1), .inl (cI, 9, .inl u.2.2)), (h1, .inr (0, oX0 r1 I_1_top)), ((r1 0), .inr (3, oX4 r1_0 )), ((r1_0 0), .inl (cI, 75, .inl A_1_0_0_numbers)), ((r1 1), .inl (cI, 9, .inl A_1_1_b))] t) (va_A [(h0, .inr (0, oX0 r0 I_0_top)), ((r0 0), .inr (3, oX4 r0_0 )), ((r0_0 0), .inl (cI, 75, .inl A_0_0_0_numbers)), ((r0 1), .inl (cI, 9, .inl A_0_1_b)), (h1, .inr (0, oX0 r1 I_1_top)), ((r1 0), .inr (3, oX4 r1_0 )), ((r1_0 0), .inl (cI, 75, .inl A_1_0_0_numbers)), ((r1 1), .inl (cI, 9, .inl A_1_1_b))] sz)) 0 0 (va_A [(h0, .inr (0, oX0 r0 I_0_top)), ((r0 0), .inr (3, oX4 r0_0 )), ((r0_0 0), .inl (cI, 75, .inl A_0_0_0_numbers)), ((r0 1), .inl (cI, 9, .inl A_0_1_b)), (h1, .inr (0, oX0 r1 I_1_top)), ((r1 0), .inr (3, oX4 r1_0 )), ((r1_0 0), .inl (cI, 75, .inl A_1_0_0_numbers)), ((r1 1), .inl (cI, 9, .inl A_1_1_b))] sz) := by
  refine m_met (own := RX0) (cc := cX0_become) (maxL := 2) (ret := none) [.ref h0, .ref h1] [(0, .ref h0), (1, .ref h1)] (by decide) rfl rfl (Nat.le_of_ble_eq_true rfl) rfl ?_
  intro p e s m args below meth c Q A hQ hA C0 hr hnm hsz hM ls hl
  have hx := C0.1
  have hb := C0.2.1
  have hown := C0.2.2.2.1
  unfold wp_X0_become at h
  refine lv_aload_n hx hb dX0_become_0 rfl (lv_at hl 0 rfl) ?_
  refine m_get (C := RX0) (T := TX0) (N := 7) (ci := 0) (ref := "LoweredPowers$Found") (v := .ref (r0 0)) C0 hM 0 rfl rfl kt_X0_become_X0 0 (by decide) kw_X0_become_1 rfl rfl dX0_become_1 ?_
  refine lv_aload_n hx hb dX0_become_4 rfl (lv_at hl 1 rfl) ?_
  refine m_get (C := RX0) (T := TX0) (N := 7) (ci := 0) (ref := "LoweredPowers$Found") (v := .ref (r1 0)) C0 hM 4 rfl rfl kt_X0_become_X0 0 (by decide) kw_X0_become_1 rfl rfl dX0_become_5 ?_
  refine m_callv (wc := [((r0 0), .inr (3, oX4 r0_0 )), ((r0_0 0), .inl (cI, 75, .inl A_0_0_0_numbers)), ((r1 0), .inr (3, oX4 r1_0 )), ((r1_0 0), .inl (cI, 75, .inl A_1_0_0_numbers))]) C0 hM [1, 2, 5, 6] rfl (m_runV (wc := [((r0 0), .inr (3, oX4 r0_0 )), ((r0_0 0), .inl (cI, 75, .inl A_0_0_0_numbers)), ((r1 0), .inr (3, oX4 r1_0 )), ((r1_0 0), .inl (cI, 75, .inl A_1_0_0_numbers))]) (As := [.ref (r1 0)]) (rest := []) (ci := 3) C0 hM (ct_X4_become l D cI cJ cZ (r0 0) (r1 0) r0_0 r1_0 A_0_0_0_numbers A_1_0_0_numbers _ _ h) [1, 2, 5, 6] rfl (by decide) gX0_become_X4_become rfl rfl rfl rfl rfl hd_X4_become ⟨Nat.le_of_ble_eq_true rfl, Nat.le_of_ble_eq_true rfl⟩ rfl hl.1 rfl (Nat.le_of_ble_eq_true rfl) dX0_become_8 ⟨Nat.le_of_ble_eq_true rfl, Nat.le_of_ble_eq_true rfl⟩) (fun u => [(h0, .inr (0, oX0 r0 I_0_top)), ((r0 0), .inr (3, oX4 r0_0 )), ((r0_0 0), .inl (cI, 75, .inl u)), ((r0 1), .inl (cI, 9, .inl A_0_1_b)), (h1, .inr (0, oX0 r1 I_1_top)), ((r1 0), .inr (3, oX4 r1_0 )), ((r1_0 0), .inl (cI, 75, .inl A_1_0_0_numbers)), ((r1 1), .inl (cI, 9, .inl A_1_1_b))]) (fun _ => rfl) (fun _ => rfl) (fun b1 H locs h hM => ?_)
  refine lv_aload_n hx hb dX0_become_11 rfl (lv_at hl 1 rfl) ?_
  refine m_get (C := RX0) (T := TX0) (N := 7) (ci := 0) (ref := "LoweredPowers$Found") (v := .ref (r1 1)) C0 hM 4 rfl rfl kt_X0_become_X0 1 (by decide) kw_X0_become_2 rfl rfl dX0_become_12 ?_
  refine lv_iconst (v := (0 : Int32)) hx hb dX0_become_15 (by decide) ?_
  refine lv_aload_n hx hb dX0_become_16 rfl (lv_at hl 0 rfl) ?_
  refine m_get (C := RX0) (T := TX0) (N := 7) (ci := 0) (ref := "LoweredPowers$Found") (v := .ref (r0 1)) C0 hM 0 rfl rfl kt_X0_become_X0 1 (by decide) kw_X0_become_2 rfl rfl dX0_become_17 ?_
  refine lv_iconst (v := (0 : Int32)) hx hb dX0_become_20 (by decide) ?_
  refine lv_bipush (v := (9 : Int32)) hx hb dX0_become_21 (by decide) ?_
  refine m_copyi (ws' := [(h0, .inr (0, oX0 r0 I_0_top)), ((r0 0), .inr (3, oX4 r0_0 )), ((r0_0 0), .inl (cI, 75, .inl b1)), ((r0 1), .inl (cI, 9, .inl (va_cpy A_1_1_b A_0_1_b ((0 : Int32)).toNatClampNeg ((0 : Int32)).toNatClampNeg ((9 : Int32)).toNatClampNeg))), (h1, .inr (0, oX0 r1 I_1_top)), ((r1 0), .inr (3, oX4 r1_0 )), ((r1_0 0), .inl (cI, 75, .inl A_1_0_0_numbers)), ((r1 1), .inl (cI, 9, .inl A_1_1_b))]) C0 hM hl.1 kw_X0_become_3 kw_X0_become_4 kw_X0_become_5 kw_X0_become_6 7 3 rfl rfl (by decide) (Nat.le_of_ble_eq_true rfl) (Nat.le_of_ble_eq_true rfl) rfl dX0_become_23 (fun H locs hM => ?_)
  refine lv_aload_n hx hb dX0_become_26 rfl (lv_at hl 0 rfl) ?_
  refine lv_aload_n hx hb dX0_become_27 rfl (lv_at hl 1 rfl) ?_
  refine m_get (C := RX0) (T := TX0) (N := 7) (ci := 0) (ref := "LoweredPowers$Found") (v := .int I_1_top) C0 hM 4 rfl rfl kt_X0_become_X0 2 (by decide) kw_X0_become_7 rfl rfl dX0_become_28 ?_
  refine m_put (ws' := [(h0, .inr (0, oX0 r0 I_1_top)), ((r0 0), .inr (3, oX4 r0_0 )), ((r0_0 0), .inl (cI, 75, .inl b1)), ((r0 1), .inl (cI, 9, .inl (va_cpy A_1_1_b A_0_1_b ((0 : Int32)).toNatClampNeg ((0 : Int32)).toNatClampNeg ((9 : Int32)).toNatClampNeg))), (h1, .inr (0, oX0 r1 I_1_top)), ((r1 0), .inr (3, oX4 r1_0 )), ((r1_0 0), .inl (cI, 75, .inl A_1_0_0_numbers)), ((r1 1), .inl (cI, 9, .inl A_1_1_b))]) (C := RX0) (T := TX0) (N := 7) (ci := 0) (ref := "LoweredPowers$Found") (v := .int I_1_top) C0 hM 0 rfl rfl kt_X0_become_X0 tyX0 tyX0_ok nmX0 2 (by decide) kw_X0_become_7 rfl rfl rfl rfl (Nat.le_of_ble_eq_true rfl) rfl dX0_become_31 (fun H locs hM => ?_)
  subst hsz; subst hA; subst hQ
  exact m_vret C0 hr hM (I_1_top, b1, (va_cpy A_1_1_b A_0_1_b ((0 : Int32)).toNatClampNeg ((0 : Int32)).toNatClampNeg ((9 : Int32)).toNatClampNeg)) h rfl dX0_become_34
abbrev rm_X0_forget : Room := { frames := 1, cells := 0, slots := 0, locals := 23 }
set_option maxRecDepth 100000 in
set_option maxHeartbeats 4000000 in
theorem ct_X0_forget (l : Launch) (D : va_G) (cI cJ cZ : ClassId) (h0 : Nat) (r0 : Nat → Nat) (r0_0 : Nat → Nat) (I_0_top : Int32) (A_0_0_0_numbers : (Nat → Int32)) (A_0_1_b : (Nat → Int32)) (sz : Nat) (K : Int32 → (Nat → Int32) → (Nat → Int32) → Prop) (h : wp_X0_forget I_0_top A_0_0_0_numbers A_0_1_b K) : Met l yX0_forget wsX0_forget rm_X0_forget (va_Pc [.ref h0] (WX D cI cJ cZ [(h0, .inr (0, oX0 r0 I_0_top)), ((r0 0), .inr (3, oX4 r0_0 )), ((r0_0 0), .inl (cI, 75, .inl A_0_0_0_numbers)), ((r0 1), .inl (cI, 9, .inl A_0_1_b))] sz)) (va_Qv (fun (u : Int32 × (Nat → Int32) × (Nat → Int32)) => K u.1 u.2.1 u.2.2) (fun (u : Int32 × (Nat → Int32) × (Nat → Int32)) t => WY D (va_A [(h0, .inr (0, oX0 r0 I_0_top)), ((r0 0), .inr (3, oX4 r0_0 )), ((r0_0 0), .inl (cI, 75, .inl A_0_0_0_numbers)), ((r0 1), .inl (cI, 9, .inl A_0_1_b))] sz) [(h0, .inr (0, oX0 r0 u.1)), ((r0 0), .inr (3, oX4 r0_0 )), ((r0_0 0), .inl (cI, 75, .inl u.2.1)), ((r0 1), .inl (cI, 9, .inl u.2.2))] t) (va_A [(h0, .inr (0, oX0 r0 I_0_top)), ((r0 0), .inr (3, oX4 r0_0 )), ((r0_0 0), .inl (cI, 75, .inl A_0_0_0_numbers)), ((r0 1), .inl (cI, 9, .inl A_0_1_b))] sz)) 0 0 (va_A [(h0, .inr (0, oX0 r0 I_0_top)), ((r0 0), .inr (3, oX4 r0_0 )), ((r0_0 0), .inl (cI, 75, .inl A_0_0_0_numbers)), ((r0 1), .inl (cI, 9, .inl A_0_1_b))] sz) := by
  refine m_met (own := RX0) (cc := cX0_forget) (maxL := 1) (ret := none) [.ref h0] [(0, .ref h0)] (by decide) rfl rfl (Nat.le_of_ble_eq_true rfl) rfl ?_
  intro p e s m args below meth c Q A hQ hA C0 hr hnm hsz hM ls hl
  have hx := C0.1
  have hb := C0.2.1
  have hown := C0.2.2.2.1
  unfold wp_X0_forget at h
  refine lv_aload_n hx hb dX0_forget_0 rfl (lv_at hl 0 rfl) ?_
  refine m_get (C := RX0) (T := TX0) (N := 7) (ci := 0) (ref := "LoweredPowers$Found") (v := .ref (r0 0)) C0 hM 0 rfl rfl kt_X0_forget_X0 0 (by decide) kw_X0_forget_1 rfl rfl dX0_forget_1 ?_
  refine m_get (C := RX4) (T := TX4) (N := 1) (ci := 3) (ref := "LoweredPowers$Operator") (v := .ref (r0_0 0)) C0 hM 1 rfl rfl kt_X0_forget_X4 0 (by decide) kw_X0_forget_2 rfl rfl dX0_forget_4 ?_
  refine lv_iconst (v := (0 : Int32)) hx hb dX0_forget_7 (by decide) ?_
  refine m_callv (wc := [((r0_0 0), .inl (cI, 75, .inl A_0_0_0_numbers))]) C0 hM [2] rfl (m_runS (wc := [((r0_0 0), .inl (cI, 75, .inl A_0_0_0_numbers))]) (As := [.ref (r0_0 0), .int (0 : Int32)]) (rest := []) C0 hM (ct_J7_fill_53178 l D cI cJ cZ (r0_0 0) 75 A_0_0_0_numbers (0 : Int32) _ _ h) [2] rfl (by decide) gX0_forget_J7_fill_53178 rfl rfl rfl hd_J7_fill_53178 ⟨Nat.le_of_ble_eq_true rfl, Nat.le_of_ble_eq_true rfl⟩ rfl hl.1 rfl (Nat.le_of_ble_eq_true rfl) dX0_forget_8 ⟨Nat.le_of_ble_eq_true rfl, Nat.le_of_ble_eq_true rfl⟩) (fun u => [(h0, .inr (0, oX0 r0 I_0_top)), ((r0 0), .inr (3, oX4 r0_0 )), ((r0_0 0), .inl (cI, 75, .inl u)), ((r0 1), .inl (cI, 9, .inl A_0_1_b))]) (fun _ => rfl) (fun _ => rfl) (fun b1 H locs h hM => ?_)
  refine lv_aload_n hx hb dX0_forget_11 rfl (lv_at hl 0 rfl) ?_
  refine m_get (C := RX0) (T := TX0) (N := 7) (ci := 0) (ref := "LoweredPowers$Found") (v := .ref (r0 1)) C0 hM 0 rfl rfl kt_X0_forget_X0 1 (by decide) kw_X0_forget_3 rfl rfl dX0_forget_12 ?_
  refine lv_iconst (v := (0 : Int32)) hx hb dX0_forget_15 (by decide) ?_
  refine m_callv (wc := [((r0 1), .inl (cI, 9, .inl A_0_1_b))]) C0 hM [3] rfl (m_runS (wc := [((r0 1), .inl (cI, 9, .inl A_0_1_b))]) (As := [.ref (r0 1), .int (0 : Int32)]) (rest := []) C0 hM (ct_J7_fill_53178 l D cI cJ cZ (r0 1) 9 A_0_1_b (0 : Int32) _ _ h) [3] rfl (by decide) gX0_forget_J7_fill_53178 rfl rfl rfl hd_J7_fill_53178 ⟨Nat.le_of_ble_eq_true rfl, Nat.le_of_ble_eq_true rfl⟩ rfl hl.1 rfl (Nat.le_of_ble_eq_true rfl) dX0_forget_16 ⟨Nat.le_of_ble_eq_true rfl, Nat.le_of_ble_eq_true rfl⟩) (fun u => [(h0, .inr (0, oX0 r0 I_0_top)), ((r0 0), .inr (3, oX4 r0_0 )), ((r0_0 0), .inl (cI, 75, .inl b1)), ((r0 1), .inl (cI, 9, .inl u))]) (fun _ => rfl) (fun _ => rfl) (fun b2 H locs h hM => ?_)
  refine lv_aload_n hx hb dX0_forget_19 rfl (lv_at hl 0 rfl) ?_
  refine lv_iconst (v := (-1 : Int32)) hx hb dX0_forget_20 (by decide) ?_
  refine m_put (ws' := [(h0, .inr (0, oX0 r0 (-1 : Int32))), ((r0 0), .inr (3, oX4 r0_0 )), ((r0_0 0), .inl (cI, 75, .inl b1)), ((r0 1), .inl (cI, 9, .inl b2))]) (C := RX0) (T := TX0) (N := 7) (ci := 0) (ref := "LoweredPowers$Found") (v := .int (-1 : Int32)) C0 hM 0 rfl rfl kt_X0_forget_X0 tyX0 tyX0_ok nmX0 2 (by decide) kw_X0_forget_4 rfl rfl rfl rfl (Nat.le_of_ble_eq_true rfl) rfl dX0_forget_21 (fun H locs hM => ?_)
  subst hsz; subst hA; subst hQ
  exact m_vret C0 hr hM ((-1 : Int32), b1, b2) h rfl dX0_forget_24
abbrev rm_X0_at : Room := { frames := 1, cells := 0, slots := 0, locals := 22 }
set_option maxRecDepth 100000 in
set_option maxHeartbeats 4000000 in
theorem ct_X0_at (l : Launch) (D : va_G) (cI cJ cZ : ClassId) (h0 : Nat) (r0 : Nat → Nat) (I_0_top : Int32) (A_0_1_b : (Nat → Int32)) (x1 : Int32) (sz : Nat) (K : Int32 → Prop) (h : wp_X0_at x1 A_0_1_b K) : Met l yX0_at wsX0_at rm_X0_at (va_Pc [.ref h0, .int x1] (WX D cI cJ cZ [(h0, .inr (0, oX0 r0 I_0_top)), ((r0 1), .inl (cI, 9, .inl A_0_1_b))] sz)) (va_Qi (fun (r : Int32) (_ : Unit) => K r ) (fun (_ : Unit) t => WY D (va_A [(h0, .inr (0, oX0 r0 I_0_top)), ((r0 1), .inl (cI, 9, .inl A_0_1_b))] sz) [(h0, .inr (0, oX0 r0 I_0_top)), ((r0 1), .inl (cI, 9, .inl A_0_1_b))] t) (va_A [(h0, .inr (0, oX0 r0 I_0_top)), ((r0 1), .inl (cI, 9, .inl A_0_1_b))] sz)) 0 0 (va_A [(h0, .inr (0, oX0 r0 I_0_top)), ((r0 1), .inl (cI, 9, .inl A_0_1_b))] sz) := by
  refine m_met (own := RX0) (cc := cX0_at) (maxL := 5) (ret := some .int) [.ref h0, .int x1] [(0, .ref h0), (1, .int x1)] (by decide) rfl rfl (Nat.le_of_ble_eq_true rfl) rfl ?_
  intro p e s m args below meth c Q A hQ hA C0 hr hnm hsz hM ls hl
  have hx := C0.1
  have hb := C0.2.1
  have hown := C0.2.2.2.1
  have lq6 : ∀ (k6 : Nat) (x2 : Int64) (x4 : Int32) (H : Heap) (locs : List Loc) (ls : Array Slot) , lp_X0_at_6 x1 A_0_1_b K k6 x2 x4 → MW D A s.heap [(h0, .inr (0, oX0 r0 I_0_top)), ((r0 1), .inl (cI, 9, .inl A_0_1_b))] H locs → lv_has ls 5 [(0, .ref h0), (1, .int x1), (2, .long x2), (4, .int x4)] → W p l e rm_X0_at s m args below meth c H locs 0 0 Q (F0 m 6 ls []) := by
    intro k6
    induction k6 with
    | zero =>
      intro x2 x4 H locs ls h
      unfold lp_X0_at_6 at h
      exact h.elim
    | succ k6 ih6 =>
      intro x2 x4 H locs ls h hM hl
      unfold lp_X0_at_6 at h
      refine lv_iload hx hb dX0_at_6 (lv_at hl 3 rfl) ?_
      refine lv_if_lt (tgt := 35) hx hb dX0_at_8 (by decide) (fun hq => ?_) (fun hq => ?_)
      · have h := h.1 hq
        refine lv_lload_n hx hb dX0_at_35 rfl (lv_at hl 2 rfl) ?_
        refine lv_l2i hx hb dX0_at_36 rfl ?_
        subst hsz; subst hA; subst hQ
        exact m_iret C0 hr hM () h rfl dX0_at_37
      · have h := h.2 hq
        refine lv_lload_n hx hb dX0_at_11 rfl (lv_at hl 2 rfl) ?_
        refine lv_iload_n hx hb dX0_at_12 rfl (lv_at hl 1 rfl) ?_
        refine lv_i2l hx hb dX0_at_13 rfl ?_
        refine lv_lmul hx hb dX0_at_14 ?_
        refine lv_aload_n hx hb dX0_at_15 rfl (lv_at hl 0 rfl) ?_
        refine m_get (C := RX0) (T := TX0) (N := 7) (ci := 0) (ref := "LoweredPowers$Found") (v := .ref (r0 1)) C0 hM 0 rfl rfl kt_X0_at_X0 1 (by decide) kw_X0_at_1 rfl rfl dX0_at_16 ?_
        refine lv_iload hx hb dX0_at_19 (lv_at hl 3 rfl) ?_
        obtain ⟨hc1, h⟩ := h
        refine m_iald C0 hM 1 rfl hc1 dX0_at_21 ?_
        refine lv_i2l hx hb dX0_at_22 rfl ?_
        refine lv_ladd hx hb dX0_at_23 ?_
        refine m_calli (wc := []) C0 hM [] rfl (m_runS (wc := []) (As := [.long ((x2 * (x1.toInt64)) + ((A_0_1_b (x4).toNatClampNeg).toInt64))]) (rest := []) C0 hM (ct_X3_fold l D cI cJ cZ ((x2 * (x1.toInt64)) + ((A_0_1_b (x4).toNatClampNeg).toInt64)) _ _ h) [] rfl (by decide) gX0_at_X3_fold rfl rfl rfl hd_X3_fold ⟨Nat.le_of_ble_eq_true rfl, Nat.le_of_ble_eq_true rfl⟩ rfl hl.1 rfl (Nat.le_of_ble_eq_true rfl) dX0_at_24 ⟨Nat.le_of_ble_eq_true rfl, Nat.le_of_ble_eq_true rfl⟩) (fun _ => [(h0, .inr (0, oX0 r0 I_0_top)), ((r0 1), .inl (cI, 9, .inl A_0_1_b))]) (fun _ => rfl) (fun _ => rfl) (fun y2 _ H locs h hM => ?_)
        refine lv_i2l hx hb dX0_at_27 rfl ?_
        refine lv_topl (fun y3 ey3 => ?_)
        have h := h y3 ey3
        refine lv_lstore_n (lv' := [(2, .long y3), (0, .ref h0), (1, .int x1), (4, .int x4)]) hx hb dX0_at_28 rfl hl (by decide) rfl (fun ls hl => ?_)
        refine lv_iinc (v := (x4 + (-1 : Int32))) (lv' := [(4, .int (x4 + (-1 : Int32))), (2, .long y3), (0, .ref h0), (1, .int x1)]) hx hb dX0_at_29 hl (k := 3) rfl rfl (by decide) rfl (fun ls hl => ?_)
        refine lv_goto (tgt := 6) hx hb dX0_at_32 (by decide) ?_
        exact ih6 _ _ _ _ _ h hM (lv_sub hl [2, 3, 1, 0] rfl)
  unfold wp_X0_at at h
  refine lv_lconst (v := (0 : Int64)) hx hb dX0_at_0 (by decide) ?_
  refine lv_lstore_n (lv' := [(2, .long (0 : Int64)), (0, .ref h0), (1, .int x1)]) hx hb dX0_at_1 rfl hl (by decide) rfl (fun ls hl => ?_)
  refine lv_bipush (v := (8 : Int32)) hx hb dX0_at_2 (by decide) ?_
  refine lv_istore (lv' := [(4, .int (8 : Int32)), (2, .long (0 : Int64)), (0, .ref h0), (1, .int x1)]) hx hb dX0_at_4 hl (by decide) rfl (fun ls hl => ?_)
  obtain ⟨k0, h⟩ := h
  exact lq6 k0 _ _ _ _ _ h hM (lv_sub hl [2, 3, 1, 0] rfl)
abbrev rm_X0_lowest : Room := { frames := 0, cells := 0, slots := 0, locals := 0 }
set_option maxRecDepth 100000 in
set_option maxHeartbeats 4000000 in
theorem ct_X0_lowest (l : Launch) (D : va_G) (cI cJ cZ : ClassId) (x0 : Int32) (x1 : Int32) (sz : Nat) (K : Int32 → Prop) (h : wp_X0_lowest x0 x1 K) : Met l yX0_lowest wsX0_lowest rm_X0_lowest (va_Pc [.int x0, .int x1] (WX D cI cJ cZ [] sz)) (va_Qi (fun (r : Int32) (_ : Unit) => K r ) (fun (_ : Unit) t => WY D (va_A [] sz) [] t) (va_A [] sz)) 0 0 (va_A [] sz) := by
  refine m_met (own := RX0) (cc := cX0_lowest) (maxL := 3) (ret := some .boolean) [.int x0, .int x1] [(0, .int x0), (1, .int x1)] (by decide) rfl rfl (Nat.le_of_ble_eq_true rfl) rfl ?_
  intro p e s m args below meth c Q A hQ hA C0 hr hnm hsz hM ls hl
  have hx := C0.1
  have hb := C0.2.1
  have hown := C0.2.2.2.1
  have lq2 : ∀ (k2 : Nat) (x2 : Int32) (H : Heap) (locs : List Loc) (ls : Array Slot) , lp_X0_lowest_2 x0 x1 K k2 x2 → MW D A s.heap [] H locs → lv_has ls 3 [(0, .int x0), (1, .int x1), (2, .int x2)] → W p l e rm_X0_lowest s m args below meth c H locs 0 0 Q (F0 m 2 ls []) := by
    intro k2
    induction k2 with
    | zero =>
      intro x2 H locs ls h
      unfold lp_X0_lowest_2 at h
      exact h.elim
    | succ k2 ih2 =>
      have jq21 : ∀ (x2 : Int32) (H : Heap) (locs : List Loc) (ls : Array Slot) , jn_X0_lowest_21 x0 x1 (fun x2 => lp_X0_lowest_2 x0 x1 K k2 x2) K x2 → MW D A s.heap [] H locs → lv_has ls 3 [(0, .int x0), (1, .int x1), (2, .int x2)] → W p l e rm_X0_lowest s m args below meth c H locs 0 0 Q (F0 m 21 ls []) := by
        intro x2 H locs ls h hM hl
        unfold jn_X0_lowest_21 at h
        refine lv_iinc (v := (x2 + (1 : Int32))) (lv' := [(2, .int (x2 + (1 : Int32))), (0, .int x0), (1, .int x1)]) hx hb dX0_lowest_21 hl (k := 2) rfl rfl (by decide) rfl (fun ls hl => ?_)
        refine lv_goto (tgt := 2) hx hb dX0_lowest_24 (by decide) ?_
        exact ih2 _ _ _ _ h hM (lv_sub hl [1, 2, 0] rfl)
      intro x2 H locs ls h hM hl
      unfold lp_X0_lowest_2 at h
      refine lv_iload_n hx hb dX0_lowest_2 rfl (lv_at hl 2 rfl) ?_
      refine lv_iload_n hx hb dX0_lowest_3 rfl (lv_at hl 1 rfl) ?_
      refine lv_icmp_gt (tgt := 27) hx hb dX0_lowest_4 (by decide) (fun hq => ?_) (fun hq => ?_)
      · have h := h.1 hq
        refine lv_iconst (v := (1 : Int32)) hx hb dX0_lowest_27 (by decide) ?_
        subst hsz; subst hA; subst hQ
        exact m_zret C0 hr hM rfl () h rfl dX0_lowest_28
      · have h := h.2 hq
        refine lv_iload_n hx hb dX0_lowest_7 rfl (lv_at hl 0 rfl) ?_
        refine lv_iload_n hx hb dX0_lowest_8 rfl (lv_at hl 2 rfl) ?_
        obtain ⟨hc1, h⟩ := h
        refine lv_irem hx hb dX0_lowest_9 hc1 ?_
        refine lv_if_ne (tgt := 21) hx hb dX0_lowest_10 (by decide) (fun hq => ?_) (fun hq => ?_)
        · have h := h.1 hq
          exact jq21 _ _ _ _ h hM (lv_sub hl [0, 1, 2] rfl)
        · have h := h.2 hq
          refine lv_iload_n hx hb dX0_lowest_13 rfl (lv_at hl 1 rfl) ?_
          refine lv_iload_n hx hb dX0_lowest_14 rfl (lv_at hl 2 rfl) ?_
          refine lv_irem hx hb dX0_lowest_15 hc1 ?_
          refine lv_if_ne (tgt := 21) hx hb dX0_lowest_16 (by decide) (fun hq => ?_) (fun hq => ?_)
          · have h := h.1 hq
            exact jq21 _ _ _ _ h hM (lv_sub hl [0, 1, 2] rfl)
          · have h := h.2 hq
            refine lv_iconst (v := (0 : Int32)) hx hb dX0_lowest_19 (by decide) ?_
            subst hsz; subst hA; subst hQ
            exact m_zret C0 hr hM rfl () h rfl dX0_lowest_20
  unfold wp_X0_lowest at h
  refine lv_iconst (v := (2 : Int32)) hx hb dX0_lowest_0 (by decide) ?_
  refine lv_istore_n (lv' := [(2, .int (2 : Int32)), (0, .int x0), (1, .int x1)]) hx hb dX0_lowest_1 rfl hl (by decide) rfl (fun ls hl => ?_)
  obtain ⟨k0, h⟩ := h
  exact lq2 k0 _ _ _ _ h hM (lv_sub hl [1, 2, 0] rfl)
abbrev rm_X0_dividesRest : Room := { frames := 1, cells := 0, slots := 0, locals := 26 }
set_option maxRecDepth 100000 in
set_option maxHeartbeats 4000000 in
theorem ct_X0_dividesRest (l : Launch) (D : va_G) (cI cJ cZ : ClassId) (h0 : Nat) (r0 : Nat → Nat) (I_0_top : Int32) (A_0_6_rest : (Nat → Int32)) (x1 : Int32) (sz : Nat) (K : Int32 → (Nat → Int32) → Prop) (h : wp_X0_dividesRest x1 A_0_6_rest K) : Met l yX0_dividesRest wsX0_dividesRest rm_X0_dividesRest (va_Pc [.ref h0, .int x1] (WX D cI cJ cZ [(h0, .inr (0, oX0 r0 I_0_top)), ((r0 6), .inl (cI, 9, .inl A_0_6_rest))] sz)) (va_Qi (fun (r : Int32) (u : (Nat → Int32)) => K r u) (fun (u : (Nat → Int32)) t => WY D (va_A [(h0, .inr (0, oX0 r0 I_0_top)), ((r0 6), .inl (cI, 9, .inl A_0_6_rest))] sz) [(h0, .inr (0, oX0 r0 I_0_top)), ((r0 6), .inl (cI, 9, .inl u))] t) (va_A [(h0, .inr (0, oX0 r0 I_0_top)), ((r0 6), .inl (cI, 9, .inl A_0_6_rest))] sz)) 0 0 (va_A [(h0, .inr (0, oX0 r0 I_0_top)), ((r0 6), .inl (cI, 9, .inl A_0_6_rest))] sz) := by
  refine m_met (own := RX0) (cc := cX0_dividesRest) (maxL := 3) (ret := some .boolean) [.ref h0, .int x1] [(0, .ref h0), (1, .int x1)] (by decide) rfl rfl (Nat.le_of_ble_eq_true rfl) rfl ?_
  intro p e s m args below meth c Q A hQ hA C0 hr hnm hsz hM ls hl
  have hx := C0.1
  have hb := C0.2.1
  have hown := C0.2.2.2.1
  have jq42 : ∀ (A_0_6_rest : (Nat → Int32)) (H : Heap) (locs : List Loc) (ls : Array Slot) , jn_X0_dividesRest_42 x1 K A_0_6_rest → MW D A s.heap [(h0, .inr (0, oX0 r0 I_0_top)), ((r0 6), .inl (cI, 9, .inl A_0_6_rest))] H locs → lv_has ls 3 [(0, .ref h0)] → W p l e rm_X0_dividesRest s m args below meth c H locs 0 0 Q (F0 m 42 ls []) := by
    intro A_0_6_rest H locs ls h hM hl
    unfold jn_X0_dividesRest_42 at h
    refine lv_aload_n hx hb dX0_dividesRest_42 rfl (lv_at hl 0 rfl) ?_
    refine m_get (C := RX0) (T := TX0) (N := 7) (ci := 0) (ref := "LoweredPowers$Found") (v := .ref (r0 6)) C0 hM 0 rfl rfl kt_X0_dividesRest_X0 6 (by decide) kw_X0_dividesRest_1 rfl rfl dX0_dividesRest_43 ?_
    refine lv_iconst (v := (0 : Int32)) hx hb dX0_dividesRest_46 (by decide) ?_
    refine m_iald C0 hM 1 rfl (by unfold vp_in; decide) dX0_dividesRest_47 ?_
    refine lv_if_eq (tgt := 53) hx hb dX0_dividesRest_48 (by decide) (fun hq => ?_) (fun hq => ?_)
    · have h := h.1 hq
      refine lv_aload_n hx hb dX0_dividesRest_53 rfl (lv_at hl 0 rfl) ?_
      refine m_get (C := RX0) (T := TX0) (N := 7) (ci := 0) (ref := "LoweredPowers$Found") (v := .ref (r0 6)) C0 hM 0 rfl rfl kt_X0_dividesRest_X0 6 (by decide) kw_X0_dividesRest_1 rfl rfl dX0_dividesRest_54 ?_
      refine lv_iconst (v := (1 : Int32)) hx hb dX0_dividesRest_57 (by decide) ?_
      refine lv_aload_n hx hb dX0_dividesRest_58 rfl (lv_at hl 0 rfl) ?_
      refine m_get (C := RX0) (T := TX0) (N := 7) (ci := 0) (ref := "LoweredPowers$Found") (v := .ref (r0 6)) C0 hM 0 rfl rfl kt_X0_dividesRest_X0 6 (by decide) kw_X0_dividesRest_1 rfl rfl dX0_dividesRest_59 ?_
      refine lv_iconst (v := (0 : Int32)) hx hb dX0_dividesRest_62 (by decide) ?_
      refine lv_bipush (v := (8 : Int32)) hx hb dX0_dividesRest_63 (by decide) ?_
      refine m_copyi (ws' := [(h0, .inr (0, oX0 r0 I_0_top)), ((r0 6), .inl (cI, 9, .inl (va_cpy A_0_6_rest A_0_6_rest ((1 : Int32)).toNatClampNeg ((0 : Int32)).toNatClampNeg ((8 : Int32)).toNatClampNeg)))]) C0 hM hl.1 kw_X0_dividesRest_2 kw_X0_dividesRest_3 kw_X0_dividesRest_4 kw_X0_dividesRest_5 1 1 rfl rfl (by decide) (Nat.le_of_ble_eq_true rfl) (Nat.le_of_ble_eq_true rfl) rfl dX0_dividesRest_65 (fun H locs hM => ?_)
      refine lv_aload_n hx hb dX0_dividesRest_68 rfl (lv_at hl 0 rfl) ?_
      refine m_get (C := RX0) (T := TX0) (N := 7) (ci := 0) (ref := "LoweredPowers$Found") (v := .ref (r0 6)) C0 hM 0 rfl rfl kt_X0_dividesRest_X0 6 (by decide) kw_X0_dividesRest_1 rfl rfl dX0_dividesRest_69 ?_
      refine lv_bipush (v := (8 : Int32)) hx hb dX0_dividesRest_72 (by decide) ?_
      refine lv_iconst (v := (0 : Int32)) hx hb dX0_dividesRest_74 (by decide) ?_
      refine m_iast (ws' := [(h0, .inr (0, oX0 r0 I_0_top)), ((r0 6), .inl (cI, 9, .inl (upd (va_cpy A_0_6_rest A_0_6_rest ((1 : Int32)).toNatClampNeg ((0 : Int32)).toNatClampNeg ((8 : Int32)).toNatClampNeg) ((8 : Int32)).toNatClampNeg (0 : Int32))))]) C0 hM 1 rfl (by unfold vp_in; decide) rfl dX0_dividesRest_75 (fun H locs hM => ?_)
      refine lv_iconst (v := (1 : Int32)) hx hb dX0_dividesRest_76 (by decide) ?_
      subst hsz; subst hA; subst hQ
      exact m_zret C0 hr hM rfl (upd (va_cpy A_0_6_rest A_0_6_rest ((1 : Int32)).toNatClampNeg ((0 : Int32)).toNatClampNeg ((8 : Int32)).toNatClampNeg) ((8 : Int32)).toNatClampNeg (0 : Int32)) h rfl dX0_dividesRest_77
    · have h := h.2 hq
      refine lv_iconst (v := (0 : Int32)) hx hb dX0_dividesRest_51 (by decide) ?_
      subst hsz; subst hA; subst hQ
      exact m_zret C0 hr hM rfl A_0_6_rest h rfl dX0_dividesRest_52
  have lq3 : ∀ (k3 : Nat) (x2 : Int32) (A_0_6_rest : (Nat → Int32)) (H : Heap) (locs : List Loc) (ls : Array Slot) , lp_X0_dividesRest_3 x1 (jn_X0_dividesRest_42 x1 K) K k3 x2 A_0_6_rest → MW D A s.heap [(h0, .inr (0, oX0 r0 I_0_top)), ((r0 6), .inl (cI, 9, .inl A_0_6_rest))] H locs → lv_has ls 3 [(0, .ref h0), (1, .int x1), (2, .int x2)] → W p l e rm_X0_dividesRest s m args below meth c H locs 0 0 Q (F0 m 3 ls []) := by
    intro k3
    induction k3 with
    | zero =>
      intro x2 A_0_6_rest H locs ls h
      unfold lp_X0_dividesRest_3 at h
      exact h.elim
    | succ k3 ih3 =>
      intro x2 A_0_6_rest H locs ls h hM hl
      unfold lp_X0_dividesRest_3 at h
      refine lv_iload_n hx hb dX0_dividesRest_3 rfl (lv_at hl 2 rfl) ?_
      refine lv_if_lt (tgt := 42) hx hb dX0_dividesRest_4 (by decide) (fun hq => ?_) (fun hq => ?_)
      · have h := h.1 hq
        exact jq42 _ _ _ _ h hM (lv_sub hl [0] rfl)
      · have h := h.2 hq
        refine lv_aload_n hx hb dX0_dividesRest_7 rfl (lv_at hl 0 rfl) ?_
        refine m_get (C := RX0) (T := TX0) (N := 7) (ci := 0) (ref := "LoweredPowers$Found") (v := .ref (r0 6)) C0 hM 0 rfl rfl kt_X0_dividesRest_X0 6 (by decide) kw_X0_dividesRest_1 rfl rfl dX0_dividesRest_8 ?_
        refine lv_iload_n hx hb dX0_dividesRest_11 rfl (lv_at hl 2 rfl) ?_
        refine lv_aload_n hx hb dX0_dividesRest_12 rfl (lv_at hl 0 rfl) ?_
        refine m_get (C := RX0) (T := TX0) (N := 7) (ci := 0) (ref := "LoweredPowers$Found") (v := .ref (r0 6)) C0 hM 0 rfl rfl kt_X0_dividesRest_X0 6 (by decide) kw_X0_dividesRest_1 rfl rfl dX0_dividesRest_13 ?_
        refine lv_iload_n hx hb dX0_dividesRest_16 rfl (lv_at hl 2 rfl) ?_
        obtain ⟨hc1, h⟩ := h
        refine m_iald C0 hM 1 rfl hc1 dX0_dividesRest_17 ?_
        refine lv_i2l hx hb dX0_dividesRest_18 rfl ?_
        refine lv_iload_n hx hb dX0_dividesRest_19 rfl (lv_at hl 1 rfl) ?_
        refine lv_i2l hx hb dX0_dividesRest_20 rfl ?_
        refine lv_aload_n hx hb dX0_dividesRest_21 rfl (lv_at hl 0 rfl) ?_
        refine m_get (C := RX0) (T := TX0) (N := 7) (ci := 0) (ref := "LoweredPowers$Found") (v := .ref (r0 6)) C0 hM 0 rfl rfl kt_X0_dividesRest_X0 6 (by decide) kw_X0_dividesRest_1 rfl rfl dX0_dividesRest_22 ?_
        refine lv_iload_n hx hb dX0_dividesRest_25 rfl (lv_at hl 2 rfl) ?_
        refine lv_iconst (v := (1 : Int32)) hx hb dX0_dividesRest_26 (by decide) ?_
        refine lv_iadd hx hb dX0_dividesRest_27 ?_
        obtain ⟨hc2, h⟩ := h
        refine m_iald C0 hM 1 rfl hc2 dX0_dividesRest_28 ?_
        refine lv_i2l hx hb dX0_dividesRest_29 rfl ?_
        refine lv_lmul hx hb dX0_dividesRest_30 ?_
        refine lv_ladd hx hb dX0_dividesRest_31 ?_
        refine m_calli (wc := []) C0 hM [] rfl (m_runS (wc := []) (As := [.long (((A_0_6_rest (x2).toNatClampNeg).toInt64) + ((x1.toInt64) * ((A_0_6_rest ((x2 + (1 : Int32))).toNatClampNeg).toInt64)))]) (rest := [.int x2, .ref (r0 6)]) C0 hM (ct_X3_fold l D cI cJ cZ (((A_0_6_rest (x2).toNatClampNeg).toInt64) + ((x1.toInt64) * ((A_0_6_rest ((x2 + (1 : Int32))).toNatClampNeg).toInt64))) _ _ h) [] rfl (by decide) gX0_dividesRest_X3_fold rfl rfl rfl hd_X3_fold ⟨Nat.le_of_ble_eq_true rfl, Nat.le_of_ble_eq_true rfl⟩ rfl hl.1 rfl (Nat.le_of_ble_eq_true rfl) dX0_dividesRest_32 ⟨Nat.le_of_ble_eq_true rfl, Nat.le_of_ble_eq_true rfl⟩) (fun _ => [(h0, .inr (0, oX0 r0 I_0_top)), ((r0 6), .inl (cI, 9, .inl A_0_6_rest))]) (fun _ => rfl) (fun _ => rfl) (fun y3 _ H locs h hM => ?_)
        refine m_iast (ws' := [(h0, .inr (0, oX0 r0 I_0_top)), ((r0 6), .inl (cI, 9, .inl (upd A_0_6_rest (x2).toNatClampNeg y3)))]) C0 hM 1 rfl hc1 rfl dX0_dividesRest_35 (fun H locs hM => ?_)
        refine lv_iinc (v := (x2 + (-1 : Int32))) (lv' := [(2, .int (x2 + (-1 : Int32))), (0, .ref h0), (1, .int x1)]) hx hb dX0_dividesRest_36 hl (k := 2) rfl rfl (by decide) rfl (fun ls hl => ?_)
        refine lv_goto (tgt := 3) hx hb dX0_dividesRest_39 (by decide) ?_
        exact ih3 _ _ _ _ _ h hM (lv_sub hl [1, 2, 0] rfl)
  unfold wp_X0_dividesRest at h
  refine lv_bipush (v := (7 : Int32)) hx hb dX0_dividesRest_0 (by decide) ?_
  refine lv_istore_n (lv' := [(2, .int (7 : Int32)), (0, .ref h0), (1, .int x1)]) hx hb dX0_dividesRest_2 rfl hl (by decide) rfl (fun ls hl => ?_)
  obtain ⟨k0, h⟩ := h
  exact lq3 k0 _ _ _ _ _ h hM (lv_sub hl [1, 2, 0] rfl)
abbrev rm_X0_timesDivided : Room := { frames := 2, cells := 0, slots := 0, locals := 48 }
set_option maxRecDepth 100000 in
set_option maxHeartbeats 4000000 in
theorem ct_X0_timesDivided (l : Launch) (D : va_G) (cI cJ cZ : ClassId) (h0 : Nat) (r0 : Nat → Nat) (I_0_top : Int32) (A_0_1_b : (Nat → Int32)) (A_0_6_rest : (Nat → Int32)) (x1 : Int32) (sz : Nat) (K : Int32 → (Nat → Int32) → Prop) (h : wp_X0_timesDivided x1 I_0_top A_0_1_b A_0_6_rest K) : Met l yX0_timesDivided wsX0_timesDivided rm_X0_timesDivided (va_Pc [.ref h0, .int x1] (WX D cI cJ cZ [(h0, .inr (0, oX0 r0 I_0_top)), ((r0 1), .inl (cI, 9, .inl A_0_1_b)), ((r0 6), .inl (cI, 9, .inl A_0_6_rest))] sz)) (va_Qi (fun (r : Int32) (u : (Nat → Int32)) => K r u) (fun (u : (Nat → Int32)) t => WY D (va_A [(h0, .inr (0, oX0 r0 I_0_top)), ((r0 1), .inl (cI, 9, .inl A_0_1_b)), ((r0 6), .inl (cI, 9, .inl A_0_6_rest))] sz) [(h0, .inr (0, oX0 r0 I_0_top)), ((r0 1), .inl (cI, 9, .inl A_0_1_b)), ((r0 6), .inl (cI, 9, .inl u))] t) (va_A [(h0, .inr (0, oX0 r0 I_0_top)), ((r0 1), .inl (cI, 9, .inl A_0_1_b)), ((r0 6), .inl (cI, 9, .inl A_0_6_rest))] sz)) 0 0 (va_A [(h0, .inr (0, oX0 r0 I_0_top)), ((r0 1), .inl (cI, 9, .inl A_0_1_b)), ((r0 6), .inl (cI, 9, .inl A_0_6_rest))] sz) := by
  refine m_met (own := RX0) (cc := cX0_timesDivided) (maxL := 3) (ret := some .int) [.ref h0, .int x1] [(0, .ref h0), (1, .int x1)] (by decide) rfl rfl (Nat.le_of_ble_eq_true rfl) rfl ?_
  intro p e s m args below meth c Q A hQ hA C0 hr hnm hsz hM ls hl
  have hx := C0.1
  have hb := C0.2.1
  have hown := C0.2.2.2.1
  have lq27 : ∀ (k27 : Nat) (x2 : Int32) (A_0_6_rest : (Nat → Int32)) (H : Heap) (locs : List Loc) (ls : Array Slot) , lp_X0_timesDivided_27 x1 I_0_top A_0_1_b K k27 x2 A_0_6_rest → MW D A s.heap [(h0, .inr (0, oX0 r0 I_0_top)), ((r0 1), .inl (cI, 9, .inl A_0_1_b)), ((r0 6), .inl (cI, 9, .inl A_0_6_rest))] H locs → lv_has ls 3 [(0, .ref h0), (1, .int x1), (2, .int x2)] → W p l e rm_X0_timesDivided s m args below meth c H locs 0 0 Q (F0 m 27 ls []) := by
    intro k27
    induction k27 with
    | zero =>
      intro x2 A_0_6_rest H locs ls h
      unfold lp_X0_timesDivided_27 at h
      exact h.elim
    | succ k27 ih27 =>
      intro x2 A_0_6_rest H locs ls h hM hl
      unfold lp_X0_timesDivided_27 at h
      refine lv_iload_n hx hb dX0_timesDivided_27 rfl (lv_at hl 2 rfl) ?_
      refine lv_aload_n hx hb dX0_timesDivided_28 rfl (lv_at hl 0 rfl) ?_
      refine m_get (C := RX0) (T := TX0) (N := 7) (ci := 0) (ref := "LoweredPowers$Found") (v := .int I_0_top) C0 hM 0 rfl rfl kt_X0_timesDivided_X0 2 (by decide) kw_X0_timesDivided_7 rfl rfl dX0_timesDivided_29 ?_
      refine lv_icmp_ge (tgt := 49) hx hb dX0_timesDivided_32 (by decide) (fun hq => ?_) (fun hq => ?_)
      · have h := h.1 hq
        refine lv_iload_n hx hb dX0_timesDivided_49 rfl (lv_at hl 2 rfl) ?_
        subst hsz; subst hA; subst hQ
        exact m_iret C0 hr hM A_0_6_rest h rfl dX0_timesDivided_50
      · have h := h.2 hq
        refine lv_aload_n hx hb dX0_timesDivided_35 rfl (lv_at hl 0 rfl) ?_
        refine lv_iload_n hx hb dX0_timesDivided_36 rfl (lv_at hl 1 rfl) ?_
        refine m_calli (wc := [(h0, .inr (0, oX0 r0 I_0_top)), ((r0 6), .inl (cI, 9, .inl A_0_6_rest))]) C0 hM [0, 2] rfl (m_runV (wc := [(h0, .inr (0, oX0 r0 I_0_top)), ((r0 6), .inl (cI, 9, .inl A_0_6_rest))]) (As := [.int x1]) (rest := []) (ci := 0) C0 hM (ct_X0_dividesRest l D cI cJ cZ h0 r0 I_0_top A_0_6_rest x1 _ _ h) [0, 2] rfl (by decide) gX0_timesDivided_X0_dividesRest rfl rfl rfl rfl rfl hd_X0_dividesRest ⟨Nat.le_of_ble_eq_true rfl, Nat.le_of_ble_eq_true rfl⟩ rfl hl.1 rfl (Nat.le_of_ble_eq_true rfl) dX0_timesDivided_37 ⟨Nat.le_of_ble_eq_true rfl, Nat.le_of_ble_eq_true rfl⟩) (fun u => [(h0, .inr (0, oX0 r0 I_0_top)), ((r0 1), .inl (cI, 9, .inl A_0_1_b)), ((r0 6), .inl (cI, 9, .inl u))]) (fun _ => rfl) (fun _ => rfl) (fun y1 b2 H locs h hM => ?_)
        refine lv_if_eq (tgt := 49) hx hb dX0_timesDivided_40 (by decide) (fun hq => ?_) (fun hq => ?_)
        · have h := h.1 hq
          refine lv_iload_n hx hb dX0_timesDivided_49 rfl (lv_at hl 2 rfl) ?_
          subst hsz; subst hA; subst hQ
          exact m_iret C0 hr hM b2 h rfl dX0_timesDivided_50
        · have h := h.2 hq
          refine lv_iinc (v := (x2 + (1 : Int32))) (lv' := [(2, .int (x2 + (1 : Int32))), (0, .ref h0), (1, .int x1)]) hx hb dX0_timesDivided_43 hl (k := 2) rfl rfl (by decide) rfl (fun ls hl => ?_)
          refine lv_goto (tgt := 27) hx hb dX0_timesDivided_46 (by decide) ?_
          exact ih27 _ _ _ _ _ h hM (lv_sub hl [1, 2, 0] rfl)
  unfold wp_X0_timesDivided at h
  refine lv_aload_n hx hb dX0_timesDivided_0 rfl (lv_at hl 0 rfl) ?_
  refine lv_iload_n hx hb dX0_timesDivided_1 rfl (lv_at hl 1 rfl) ?_
  refine m_calli (wc := [(h0, .inr (0, oX0 r0 I_0_top)), ((r0 1), .inl (cI, 9, .inl A_0_1_b))]) C0 hM [0, 1] rfl (m_runV (wc := [(h0, .inr (0, oX0 r0 I_0_top)), ((r0 1), .inl (cI, 9, .inl A_0_1_b))]) (As := [.int x1]) (rest := []) (ci := 0) C0 hM (ct_X0_at l D cI cJ cZ h0 r0 I_0_top A_0_1_b x1 _ _ h) [0, 1] rfl (by decide) gX0_timesDivided_X0_at rfl rfl rfl rfl rfl hd_X0_at ⟨Nat.le_of_ble_eq_true rfl, Nat.le_of_ble_eq_true rfl⟩ rfl hl.1 rfl (Nat.le_of_ble_eq_true rfl) dX0_timesDivided_2 ⟨Nat.le_of_ble_eq_true rfl, Nat.le_of_ble_eq_true rfl⟩) (fun _ => [(h0, .inr (0, oX0 r0 I_0_top)), ((r0 1), .inl (cI, 9, .inl A_0_1_b)), ((r0 6), .inl (cI, 9, .inl A_0_6_rest))]) (fun _ => rfl) (fun _ => rfl) (fun y3 _ H locs h hM => ?_)
  refine lv_if_eq (tgt := 10) hx hb dX0_timesDivided_5 (by decide) (fun hq => ?_) (fun hq => ?_)
  · have h := h.1 hq
    refine lv_aload_n hx hb dX0_timesDivided_10 rfl (lv_at hl 0 rfl) ?_
    refine m_get (C := RX0) (T := TX0) (N := 7) (ci := 0) (ref := "LoweredPowers$Found") (v := .ref (r0 1)) C0 hM 0 rfl rfl kt_X0_timesDivided_X0 1 (by decide) kw_X0_timesDivided_1 rfl rfl dX0_timesDivided_11 ?_
    refine lv_iconst (v := (0 : Int32)) hx hb dX0_timesDivided_14 (by decide) ?_
    refine lv_aload_n hx hb dX0_timesDivided_15 rfl (lv_at hl 0 rfl) ?_
    refine m_get (C := RX0) (T := TX0) (N := 7) (ci := 0) (ref := "LoweredPowers$Found") (v := .ref (r0 6)) C0 hM 0 rfl rfl kt_X0_timesDivided_X0 6 (by decide) kw_X0_timesDivided_2 rfl rfl dX0_timesDivided_16 ?_
    refine lv_iconst (v := (0 : Int32)) hx hb dX0_timesDivided_19 (by decide) ?_
    refine lv_bipush (v := (9 : Int32)) hx hb dX0_timesDivided_20 (by decide) ?_
    refine m_copyi (ws' := [(h0, .inr (0, oX0 r0 I_0_top)), ((r0 1), .inl (cI, 9, .inl A_0_1_b)), ((r0 6), .inl (cI, 9, .inl (va_cpy A_0_1_b A_0_6_rest ((0 : Int32)).toNatClampNeg ((0 : Int32)).toNatClampNeg ((9 : Int32)).toNatClampNeg)))]) C0 hM hl.1 kw_X0_timesDivided_3 kw_X0_timesDivided_4 kw_X0_timesDivided_5 kw_X0_timesDivided_6 1 2 rfl rfl (by decide) (Nat.le_of_ble_eq_true rfl) (Nat.le_of_ble_eq_true rfl) rfl dX0_timesDivided_22 (fun H locs hM => ?_)
    refine lv_iconst (v := (0 : Int32)) hx hb dX0_timesDivided_25 (by decide) ?_
    refine lv_istore_n (lv' := [(2, .int (0 : Int32)), (0, .ref h0), (1, .int x1)]) hx hb dX0_timesDivided_26 rfl hl (by decide) rfl (fun ls hl => ?_)
    obtain ⟨k0, h⟩ := h
    exact lq27 k0 _ _ _ _ _ h hM (lv_sub hl [1, 2, 0] rfl)
  · have h := h.2 hq
    refine lv_iconst (v := (0 : Int32)) hx hb dX0_timesDivided_8 (by decide) ?_
    subst hsz; subst hA; subst hQ
    exact m_iret C0 hr hM A_0_6_rest h rfl dX0_timesDivided_9
abbrev rm_X0_gatherRoots : Room := { frames := 3, cells := 0, slots := 0, locals := 70 }
set_option maxRecDepth 100000 in
set_option maxHeartbeats 4000000 in
theorem ct_X0_gatherRoots (l : Launch) (D : va_G) (cI cJ cZ : ClassId) (h0 : Nat) (r0 : Nat → Nat) (I_0_top : Int32) (A_0_1_b : (Nat → Int32)) (A_0_3_above : (Nat → Int32)) (A_0_4_below : (Nat → Int32)) (A_0_5_often : (Nat → Int32)) (A_0_6_rest : (Nat → Int32)) (sz : Nat) (K : Int32 → (Nat → Int32) → (Nat → Int32) → (Nat → Int32) → (Nat → Int32) → Prop) (h : wp_X0_gatherRoots I_0_top A_0_1_b A_0_3_above A_0_4_below A_0_5_often A_0_6_rest K) : Met l yX0_gatherRoots wsX0_gatherRoots rm_X0_gatherRoots (va_Pc [.ref h0] (WX D cI cJ cZ [(h0, .inr (0, oX0 r0 I_0_top)), ((r0 1), .inl (cI, 9, .inl A_0_1_b)), ((r0 3), .inl (cI, 9, .inl A_0_3_above)), ((r0 4), .inl (cI, 9, .inl A_0_4_below)), ((r0 5), .inl (cI, 9, .inl A_0_5_often)), ((r0 6), .inl (cI, 9, .inl A_0_6_rest))] sz)) (va_Qi (fun (r : Int32) (u : (Nat → Int32) × (Nat → Int32) × (Nat → Int32) × (Nat → Int32)) => K r u.1 u.2.1 u.2.2.1 u.2.2.2) (fun (u : (Nat → Int32) × (Nat → Int32) × (Nat → Int32) × (Nat → Int32)) t => WY D (va_A [(h0, .inr (0, oX0 r0 I_0_top)), ((r0 1), .inl (cI, 9, .inl A_0_1_b)), ((r0 3), .inl (cI, 9, .inl A_0_3_above)), ((r0 4), .inl (cI, 9, .inl A_0_4_below)), ((r0 5), .inl (cI, 9, .inl A_0_5_often)), ((r0 6), .inl (cI, 9, .inl A_0_6_rest))] sz) [(h0, .inr (0, oX0 r0 I_0_top)), ((r0 1), .inl (cI, 9, .inl A_0_1_b)), ((r0 3), .inl (cI, 9, .inl u.1)), ((r0 4), .inl (cI, 9, .inl u.2.1)), ((r0 5), .inl (cI, 9, .inl u.2.2.1)), ((r0 6), .inl (cI, 9, .inl u.2.2.2))] t) (va_A [(h0, .inr (0, oX0 r0 I_0_top)), ((r0 1), .inl (cI, 9, .inl A_0_1_b)), ((r0 3), .inl (cI, 9, .inl A_0_3_above)), ((r0 4), .inl (cI, 9, .inl A_0_4_below)), ((r0 5), .inl (cI, 9, .inl A_0_5_often)), ((r0 6), .inl (cI, 9, .inl A_0_6_rest))] sz)) 0 0 (va_A [(h0, .inr (0, oX0 r0 I_0_top)), ((r0 1), .inl (cI, 9, .inl A_0_1_b)), ((r0 3), .inl (cI, 9, .inl A_0_3_above)), ((r0 4), .inl (cI, 9, .inl A_0_4_below)), ((r0 5), .inl (cI, 9, .inl A_0_5_often)), ((r0 6), .inl (cI, 9, .inl A_0_6_rest))] sz) := by
  refine m_met (own := RX0) (cc := cX0_gatherRoots) (maxL := 6) (ret := some .int) [.ref h0] [(0, .ref h0)] (by decide) rfl rfl (Nat.le_of_ble_eq_true rfl) rfl ?_
  intro p e s m args below meth c Q A hQ hA C0 hr hnm hsz hM ls hl
  have hx := C0.1
  have hb := C0.2.1
  have hown := C0.2.2.2.1
  have lq4 : ∀ (k4 : Nat) (x1 : Int32) (x2 : Int32) (A_0_3_above : (Nat → Int32)) (A_0_4_below : (Nat → Int32)) (A_0_5_often : (Nat → Int32)) (A_0_6_rest : (Nat → Int32)) (H : Heap) (locs : List Loc) (ls : Array Slot) , lp_X0_gatherRoots_4 I_0_top A_0_1_b K k4 x1 x2 A_0_3_above A_0_4_below A_0_5_often A_0_6_rest → MW D A s.heap [(h0, .inr (0, oX0 r0 I_0_top)), ((r0 1), .inl (cI, 9, .inl A_0_1_b)), ((r0 3), .inl (cI, 9, .inl A_0_3_above)), ((r0 4), .inl (cI, 9, .inl A_0_4_below)), ((r0 5), .inl (cI, 9, .inl A_0_5_often)), ((r0 6), .inl (cI, 9, .inl A_0_6_rest))] H locs → lv_has ls 6 [(0, .ref h0), (1, .int x1), (2, .int x2)] → W p l e rm_X0_gatherRoots s m args below meth c H locs 0 0 Q (F0 m 4 ls []) := by
    intro k4
    induction k4 with
    | zero =>
      intro x1 x2 A_0_3_above A_0_4_below A_0_5_often A_0_6_rest H locs ls h
      unfold lp_X0_gatherRoots_4 at h
      exact h.elim
    | succ k4 ih4 =>
      have jq97 : ∀ (x1 : Int32) (x2 : Int32) (A_0_3_above : (Nat → Int32)) (A_0_4_below : (Nat → Int32)) (A_0_5_often : (Nat → Int32)) (A_0_6_rest : (Nat → Int32)) (H : Heap) (locs : List Loc) (ls : Array Slot) , jn_X0_gatherRoots_97 I_0_top A_0_1_b (fun x1 x2 A_0_3_above A_0_4_below A_0_5_often A_0_6_rest => lp_X0_gatherRoots_4 I_0_top A_0_1_b K k4 x1 x2 A_0_3_above A_0_4_below A_0_5_often A_0_6_rest) K x1 x2 A_0_3_above A_0_4_below A_0_5_often A_0_6_rest → MW D A s.heap [(h0, .inr (0, oX0 r0 I_0_top)), ((r0 1), .inl (cI, 9, .inl A_0_1_b)), ((r0 3), .inl (cI, 9, .inl A_0_3_above)), ((r0 4), .inl (cI, 9, .inl A_0_4_below)), ((r0 5), .inl (cI, 9, .inl A_0_5_often)), ((r0 6), .inl (cI, 9, .inl A_0_6_rest))] H locs → lv_has ls 6 [(0, .ref h0), (1, .int x1), (2, .int x2)] → W p l e rm_X0_gatherRoots s m args below meth c H locs 0 0 Q (F0 m 97 ls []) := by
        intro x1 x2 A_0_3_above A_0_4_below A_0_5_often A_0_6_rest H locs ls h hM hl
        unfold jn_X0_gatherRoots_97 at h
        refine lv_iinc (v := (x2 + (1 : Int32))) (lv' := [(2, .int (x2 + (1 : Int32))), (0, .ref h0), (1, .int x1)]) hx hb dX0_gatherRoots_97 hl (k := 2) rfl rfl (by decide) rfl (fun ls hl => ?_)
        refine lv_goto (tgt := 4) hx hb dX0_gatherRoots_100 (by decide) ?_
        exact ih4 _ _ _ _ _ _ _ _ _ h hM (lv_sub hl [1, 2, 0] rfl)
      have lq18 : ∀ (k18 : Nat) (x1 : Int32) (x2 : Int32) (x3 : Int32) (x4 : Int32) (A_0_3_above : (Nat → Int32)) (A_0_4_below : (Nat → Int32)) (A_0_5_often : (Nat → Int32)) (A_0_6_rest : (Nat → Int32)) (H : Heap) (locs : List Loc) (ls : Array Slot) , lp_X0_gatherRoots_18 I_0_top A_0_1_b (jn_X0_gatherRoots_97 I_0_top A_0_1_b (fun x1 x2 A_0_3_above A_0_4_below A_0_5_often A_0_6_rest => lp_X0_gatherRoots_4 I_0_top A_0_1_b K k4 x1 x2 A_0_3_above A_0_4_below A_0_5_often A_0_6_rest) K) K k18 x1 x2 x3 x4 A_0_3_above A_0_4_below A_0_5_often A_0_6_rest → MW D A s.heap [(h0, .inr (0, oX0 r0 I_0_top)), ((r0 1), .inl (cI, 9, .inl A_0_1_b)), ((r0 3), .inl (cI, 9, .inl A_0_3_above)), ((r0 4), .inl (cI, 9, .inl A_0_4_below)), ((r0 5), .inl (cI, 9, .inl A_0_5_often)), ((r0 6), .inl (cI, 9, .inl A_0_6_rest))] H locs → lv_has ls 6 [(0, .ref h0), (1, .int x1), (2, .int x2), (3, .int x3), (4, .int x4)] → W p l e rm_X0_gatherRoots s m args below meth c H locs 0 0 Q (F0 m 18 ls []) := by
        intro k18
        induction k18 with
        | zero =>
          intro x1 x2 x3 x4 A_0_3_above A_0_4_below A_0_5_often A_0_6_rest H locs ls h
          unfold lp_X0_gatherRoots_18 at h
          exact h.elim
        | succ k18 ih18 =>
          have jq91 : ∀ (x1 : Int32) (x2 : Int32) (x3 : Int32) (x4 : Int32) (A_0_3_above : (Nat → Int32)) (A_0_4_below : (Nat → Int32)) (A_0_5_often : (Nat → Int32)) (A_0_6_rest : (Nat → Int32)) (H : Heap) (locs : List Loc) (ls : Array Slot) , jn_X0_gatherRoots_91 I_0_top A_0_1_b (fun x1 x2 x3 x4 A_0_3_above A_0_4_below A_0_5_often A_0_6_rest => lp_X0_gatherRoots_18 I_0_top A_0_1_b (jn_X0_gatherRoots_97 I_0_top A_0_1_b (fun x1 x2 A_0_3_above A_0_4_below A_0_5_often A_0_6_rest => lp_X0_gatherRoots_4 I_0_top A_0_1_b K k4 x1 x2 A_0_3_above A_0_4_below A_0_5_often A_0_6_rest) K) K k18 x1 x2 x3 x4 A_0_3_above A_0_4_below A_0_5_often A_0_6_rest) (jn_X0_gatherRoots_97 I_0_top A_0_1_b (fun x1 x2 A_0_3_above A_0_4_below A_0_5_often A_0_6_rest => lp_X0_gatherRoots_4 I_0_top A_0_1_b K k4 x1 x2 A_0_3_above A_0_4_below A_0_5_often A_0_6_rest) K) K x1 x2 x3 x4 A_0_3_above A_0_4_below A_0_5_often A_0_6_rest → MW D A s.heap [(h0, .inr (0, oX0 r0 I_0_top)), ((r0 1), .inl (cI, 9, .inl A_0_1_b)), ((r0 3), .inl (cI, 9, .inl A_0_3_above)), ((r0 4), .inl (cI, 9, .inl A_0_4_below)), ((r0 5), .inl (cI, 9, .inl A_0_5_often)), ((r0 6), .inl (cI, 9, .inl A_0_6_rest))] H locs → lv_has ls 6 [(0, .ref h0), (1, .int x1), (2, .int x2), (3, .int x3), (4, .int x4)] → W p l e rm_X0_gatherRoots s m args below meth c H locs 0 0 Q (F0 m 91 ls []) := by
            intro x1 x2 x3 x4 A_0_3_above A_0_4_below A_0_5_often A_0_6_rest H locs ls h hM hl
            unfold jn_X0_gatherRoots_91 at h
            refine lv_iinc (v := (x4 + (1 : Int32))) (lv' := [(4, .int (x4 + (1 : Int32))), (0, .ref h0), (1, .int x1), (2, .int x2), (3, .int x3)]) hx hb dX0_gatherRoots_91 hl (k := 4) rfl rfl (by decide) rfl (fun ls hl => ?_)
            refine lv_goto (tgt := 18) hx hb dX0_gatherRoots_94 (by decide) ?_
            exact ih18 _ _ _ _ _ _ _ _ _ _ _ h hM (lv_sub hl [1, 2, 3, 4, 0] rfl)
          have jq52 : ∀ (x1 : Int32) (x2 : Int32) (x3 : Int32) (x4 : Int32) (s0 : Int32) (A_0_3_above : (Nat → Int32)) (A_0_4_below : (Nat → Int32)) (A_0_5_often : (Nat → Int32)) (A_0_6_rest : (Nat → Int32)) (H : Heap) (locs : List Loc) (ls : Array Slot) , jn_X0_gatherRoots_52 I_0_top A_0_1_b (fun x1 x2 x3 x4 A_0_3_above A_0_4_below A_0_5_often A_0_6_rest => lp_X0_gatherRoots_18 I_0_top A_0_1_b (jn_X0_gatherRoots_97 I_0_top A_0_1_b (fun x1 x2 A_0_3_above A_0_4_below A_0_5_often A_0_6_rest => lp_X0_gatherRoots_4 I_0_top A_0_1_b K k4 x1 x2 A_0_3_above A_0_4_below A_0_5_often A_0_6_rest) K) K k18 x1 x2 x3 x4 A_0_3_above A_0_4_below A_0_5_often A_0_6_rest) (jn_X0_gatherRoots_97 I_0_top A_0_1_b (fun x1 x2 A_0_3_above A_0_4_below A_0_5_often A_0_6_rest => lp_X0_gatherRoots_4 I_0_top A_0_1_b K k4 x1 x2 A_0_3_above A_0_4_below A_0_5_often A_0_6_rest) K) K x1 x2 x3 x4 s0 A_0_3_above A_0_4_below A_0_5_often A_0_6_rest → MW D A s.heap [(h0, .inr (0, oX0 r0 I_0_top)), ((r0 1), .inl (cI, 9, .inl A_0_1_b)), ((r0 3), .inl (cI, 9, .inl A_0_3_above)), ((r0 4), .inl (cI, 9, .inl A_0_4_below)), ((r0 5), .inl (cI, 9, .inl A_0_5_often)), ((r0 6), .inl (cI, 9, .inl A_0_6_rest))] H locs → lv_has ls 6 [(0, .ref h0), (1, .int x1), (2, .int x2), (3, .int x3), (4, .int x4)] → W p l e rm_X0_gatherRoots s m args below meth c H locs 0 0 Q (F0 m 52 ls [.int s0]) := by
            intro x1 x2 x3 x4 s0 A_0_3_above A_0_4_below A_0_5_often A_0_6_rest H locs ls h hM hl
            unfold jn_X0_gatherRoots_52 at h
            refine lv_istore (lv' := [(5, .int s0), (0, .ref h0), (1, .int x1), (2, .int x2), (3, .int x3), (4, .int x4)]) hx hb dX0_gatherRoots_52 hl (by decide) rfl (fun ls hl => ?_)
            refine lv_iload hx hb dX0_gatherRoots_54 (lv_at hl 0 rfl) ?_
            refine lv_if_le (tgt := 91) hx hb dX0_gatherRoots_56 (by decide) (fun hq => ?_) (fun hq => ?_)
            · have h := h.1 hq
              exact jq91 _ _ _ _ _ _ _ _ _ _ _ h hM (lv_sub hl [1, 2, 3, 4, 5] rfl)
            · have h := h.2 hq
              refine lv_iload_n hx hb dX0_gatherRoots_59 rfl (lv_at hl 2 rfl) ?_
              refine lv_bipush (v := (9 : Int32)) hx hb dX0_gatherRoots_60 (by decide) ?_
              refine lv_icmp_ge (tgt := 91) hx hb dX0_gatherRoots_62 (by decide) (fun hq => ?_) (fun hq => ?_)
              · have h := h.1 hq
                exact jq91 _ _ _ _ _ _ _ _ _ _ _ h hM (lv_sub hl [1, 2, 3, 4, 5] rfl)
              · have h := h.2 hq
                refine lv_aload_n hx hb dX0_gatherRoots_65 rfl (lv_at hl 1 rfl) ?_
                refine m_get (C := RX0) (T := TX0) (N := 7) (ci := 0) (ref := "LoweredPowers$Found") (v := .ref (r0 3)) C0 hM 0 rfl rfl kt_X0_gatherRoots_X0 3 (by decide) kw_X0_gatherRoots_1 rfl rfl dX0_gatherRoots_66 ?_
                refine lv_iload_n hx hb dX0_gatherRoots_69 rfl (lv_at hl 2 rfl) ?_
                refine lv_iload hx hb dX0_gatherRoots_70 (lv_at hl 5 rfl) ?_
                obtain ⟨hc1, h⟩ := h
                refine m_iast (ws' := [(h0, .inr (0, oX0 r0 I_0_top)), ((r0 1), .inl (cI, 9, .inl A_0_1_b)), ((r0 3), .inl (cI, 9, .inl (upd A_0_3_above (x1).toNatClampNeg x4))), ((r0 4), .inl (cI, 9, .inl A_0_4_below)), ((r0 5), .inl (cI, 9, .inl A_0_5_often)), ((r0 6), .inl (cI, 9, .inl A_0_6_rest))]) C0 hM 2 rfl hc1 rfl dX0_gatherRoots_72 (fun H locs hM => ?_)
                refine lv_aload_n hx hb dX0_gatherRoots_73 rfl (lv_at hl 1 rfl) ?_
                refine m_get (C := RX0) (T := TX0) (N := 7) (ci := 0) (ref := "LoweredPowers$Found") (v := .ref (r0 4)) C0 hM 0 rfl rfl kt_X0_gatherRoots_X0 4 (by decide) kw_X0_gatherRoots_2 rfl rfl dX0_gatherRoots_74 ?_
                refine lv_iload_n hx hb dX0_gatherRoots_77 rfl (lv_at hl 2 rfl) ?_
                refine lv_iload_n hx hb dX0_gatherRoots_78 rfl (lv_at hl 3 rfl) ?_
                refine m_iast (ws' := [(h0, .inr (0, oX0 r0 I_0_top)), ((r0 1), .inl (cI, 9, .inl A_0_1_b)), ((r0 3), .inl (cI, 9, .inl (upd A_0_3_above (x1).toNatClampNeg x4))), ((r0 4), .inl (cI, 9, .inl (upd A_0_4_below (x1).toNatClampNeg x2))), ((r0 5), .inl (cI, 9, .inl A_0_5_often)), ((r0 6), .inl (cI, 9, .inl A_0_6_rest))]) C0 hM 3 rfl hc1 rfl dX0_gatherRoots_79 (fun H locs hM => ?_)
                refine lv_aload_n hx hb dX0_gatherRoots_80 rfl (lv_at hl 1 rfl) ?_
                refine m_get (C := RX0) (T := TX0) (N := 7) (ci := 0) (ref := "LoweredPowers$Found") (v := .ref (r0 5)) C0 hM 0 rfl rfl kt_X0_gatherRoots_X0 5 (by decide) kw_X0_gatherRoots_3 rfl rfl dX0_gatherRoots_81 ?_
                refine lv_iload_n hx hb dX0_gatherRoots_84 rfl (lv_at hl 2 rfl) ?_
                refine lv_iload hx hb dX0_gatherRoots_85 (lv_at hl 0 rfl) ?_
                refine m_iast (ws' := [(h0, .inr (0, oX0 r0 I_0_top)), ((r0 1), .inl (cI, 9, .inl A_0_1_b)), ((r0 3), .inl (cI, 9, .inl (upd A_0_3_above (x1).toNatClampNeg x4))), ((r0 4), .inl (cI, 9, .inl (upd A_0_4_below (x1).toNatClampNeg x2))), ((r0 5), .inl (cI, 9, .inl (upd A_0_5_often (x1).toNatClampNeg s0))), ((r0 6), .inl (cI, 9, .inl A_0_6_rest))]) C0 hM 4 rfl hc1 rfl dX0_gatherRoots_87 (fun H locs hM => ?_)
                refine lv_iinc (v := (x1 + (1 : Int32))) (lv' := [(1, .int (x1 + (1 : Int32))), (5, .int s0), (0, .ref h0), (2, .int x2), (3, .int x3), (4, .int x4)]) hx hb dX0_gatherRoots_88 hl (k := 2) rfl rfl (by decide) rfl (fun ls hl => ?_)
                exact jq91 _ _ _ _ _ _ _ _ _ _ _ h hM (lv_sub hl [2, 0, 3, 4, 5] rfl)
          intro x1 x2 x3 x4 A_0_3_above A_0_4_below A_0_5_often A_0_6_rest H locs ls h hM hl
          unfold lp_X0_gatherRoots_18 at h
          refine lv_iload hx hb dX0_gatherRoots_18 (lv_at hl 4 rfl) ?_
          refine lv_bipush (v := (24 : Int32)) hx hb dX0_gatherRoots_20 (by decide) ?_
          refine lv_icmp_gt (tgt := 97) hx hb dX0_gatherRoots_22 (by decide) (fun hq => ?_) (fun hq => ?_)
          · have h := h.1 hq
            exact jq97 _ _ _ _ _ _ _ _ _ h hM (lv_sub hl [0, 1, 2] rfl)
          · have h := h.2 hq
            refine lv_iload hx hb dX0_gatherRoots_25 (lv_at hl 4 rfl) ?_
            refine lv_iload_n hx hb dX0_gatherRoots_27 rfl (lv_at hl 2 rfl) ?_
            refine m_calli (wc := []) C0 hM [] rfl (m_runS (wc := []) (As := [.int x4, .int x2]) (rest := []) C0 hM (ct_X0_lowest l D cI cJ cZ x4 x2 _ _ h) [] rfl (by decide) gX0_gatherRoots_X0_lowest rfl rfl rfl hd_X0_lowest ⟨Nat.le_of_ble_eq_true rfl, Nat.le_of_ble_eq_true rfl⟩ rfl hl.1 rfl (Nat.le_of_ble_eq_true rfl) dX0_gatherRoots_28 ⟨Nat.le_of_ble_eq_true rfl, Nat.le_of_ble_eq_true rfl⟩) (fun _ => [(h0, .inr (0, oX0 r0 I_0_top)), ((r0 1), .inl (cI, 9, .inl A_0_1_b)), ((r0 3), .inl (cI, 9, .inl A_0_3_above)), ((r0 4), .inl (cI, 9, .inl A_0_4_below)), ((r0 5), .inl (cI, 9, .inl A_0_5_often)), ((r0 6), .inl (cI, 9, .inl A_0_6_rest))]) (fun _ => rfl) (fun _ => rfl) (fun y2 _ H locs h hM => ?_)
            refine lv_if_eq (tgt := 51) hx hb dX0_gatherRoots_31 (by decide) (fun hq => ?_) (fun hq => ?_)
            · have h := h.1 hq
              refine lv_iconst (v := (0 : Int32)) hx hb dX0_gatherRoots_51 (by decide) ?_
              exact jq52 _ _ _ _ _ _ _ _ _ _ _ _ h hM (lv_sub hl [0, 1, 2, 3, 4] rfl)
            · have h := h.2 hq
              refine lv_aload_n hx hb dX0_gatherRoots_34 rfl (lv_at hl 0 rfl) ?_
              refine lv_iload hx hb dX0_gatherRoots_35 (lv_at hl 4 rfl) ?_
              refine lv_i2l hx hb dX0_gatherRoots_37 rfl ?_
              refine lv_lneg hx hb dX0_gatherRoots_38 ?_
              refine lv_iload_n hx hb dX0_gatherRoots_39 rfl (lv_at hl 3 rfl) ?_
              refine lv_i2l hx hb dX0_gatherRoots_40 rfl ?_
              refine lv_lmul hx hb dX0_gatherRoots_41 ?_
              refine m_calli (wc := []) C0 hM [] rfl (m_runS (wc := []) (As := [.long ((-(x4.toInt64)) * (x3.toInt64))]) (rest := [.ref h0]) C0 hM (ct_X3_fold l D cI cJ cZ ((-(x4.toInt64)) * (x3.toInt64)) _ _ h) [] rfl (by decide) gX0_gatherRoots_X3_fold rfl rfl rfl hd_X3_fold ⟨Nat.le_of_ble_eq_true rfl, Nat.le_of_ble_eq_true rfl⟩ rfl hl.1 rfl (Nat.le_of_ble_eq_true rfl) dX0_gatherRoots_42 ⟨Nat.le_of_ble_eq_true rfl, Nat.le_of_ble_eq_true rfl⟩) (fun _ => [(h0, .inr (0, oX0 r0 I_0_top)), ((r0 1), .inl (cI, 9, .inl A_0_1_b)), ((r0 3), .inl (cI, 9, .inl A_0_3_above)), ((r0 4), .inl (cI, 9, .inl A_0_4_below)), ((r0 5), .inl (cI, 9, .inl A_0_5_often)), ((r0 6), .inl (cI, 9, .inl A_0_6_rest))]) (fun _ => rfl) (fun _ => rfl) (fun y3 _ H locs h hM => ?_)
              refine m_calli (wc := [(h0, .inr (0, oX0 r0 I_0_top)), ((r0 1), .inl (cI, 9, .inl A_0_1_b)), ((r0 6), .inl (cI, 9, .inl A_0_6_rest))]) C0 hM [0, 1, 5] rfl (m_runV (wc := [(h0, .inr (0, oX0 r0 I_0_top)), ((r0 1), .inl (cI, 9, .inl A_0_1_b)), ((r0 6), .inl (cI, 9, .inl A_0_6_rest))]) (As := [.int y3]) (rest := []) (ci := 0) C0 hM (ct_X0_timesDivided l D cI cJ cZ h0 r0 I_0_top A_0_1_b A_0_6_rest y3 _ _ h) [0, 1, 5] rfl (by decide) gX0_gatherRoots_X0_timesDivided rfl rfl rfl rfl rfl hd_X0_timesDivided ⟨Nat.le_of_ble_eq_true rfl, Nat.le_of_ble_eq_true rfl⟩ rfl hl.1 rfl (Nat.le_of_ble_eq_true rfl) dX0_gatherRoots_45 ⟨Nat.le_of_ble_eq_true rfl, Nat.le_of_ble_eq_true rfl⟩) (fun u => [(h0, .inr (0, oX0 r0 I_0_top)), ((r0 1), .inl (cI, 9, .inl A_0_1_b)), ((r0 3), .inl (cI, 9, .inl A_0_3_above)), ((r0 4), .inl (cI, 9, .inl A_0_4_below)), ((r0 5), .inl (cI, 9, .inl A_0_5_often)), ((r0 6), .inl (cI, 9, .inl u))]) (fun _ => rfl) (fun _ => rfl) (fun y4 b5 H locs h hM => ?_)
              refine lv_goto (tgt := 52) hx hb dX0_gatherRoots_48 (by decide) ?_
              exact jq52 _ _ _ _ _ _ _ _ _ _ _ _ h hM (lv_sub hl [0, 1, 2, 3, 4] rfl)
      intro x1 x2 A_0_3_above A_0_4_below A_0_5_often A_0_6_rest H locs ls h hM hl
      unfold lp_X0_gatherRoots_4 at h
      refine lv_iload_n hx hb dX0_gatherRoots_4 rfl (lv_at hl 2 rfl) ?_
      refine lv_bipush (v := (6 : Int32)) hx hb dX0_gatherRoots_5 (by decide) ?_
      refine lv_icmp_gt (tgt := 103) hx hb dX0_gatherRoots_7 (by decide) (fun hq => ?_) (fun hq => ?_)
      · have h := h.1 hq
        refine lv_iload_n hx hb dX0_gatherRoots_103 rfl (lv_at hl 1 rfl) ?_
        subst hsz; subst hA; subst hQ
        exact m_iret C0 hr hM (A_0_3_above, A_0_4_below, A_0_5_often, A_0_6_rest) h rfl dX0_gatherRoots_104
      · have h := h.2 hq
        refine lv_iload_n hx hb dX0_gatherRoots_10 rfl (lv_at hl 2 rfl) ?_
        refine m_calli (wc := []) C0 hM [] rfl (m_runS (wc := []) (As := [.int x2]) (rest := []) C0 hM (ct_X3_inverse l D cI cJ cZ x2 _ _ h) [] rfl (by decide) gX0_gatherRoots_X3_inverse rfl rfl rfl hd_X3_inverse ⟨Nat.le_of_ble_eq_true rfl, Nat.le_of_ble_eq_true rfl⟩ rfl hl.1 rfl (Nat.le_of_ble_eq_true rfl) dX0_gatherRoots_11 ⟨Nat.le_of_ble_eq_true rfl, Nat.le_of_ble_eq_true rfl⟩) (fun _ => [(h0, .inr (0, oX0 r0 I_0_top)), ((r0 1), .inl (cI, 9, .inl A_0_1_b)), ((r0 3), .inl (cI, 9, .inl A_0_3_above)), ((r0 4), .inl (cI, 9, .inl A_0_4_below)), ((r0 5), .inl (cI, 9, .inl A_0_5_often)), ((r0 6), .inl (cI, 9, .inl A_0_6_rest))]) (fun _ => rfl) (fun _ => rfl) (fun y6 _ H locs h hM => ?_)
        refine lv_istore_n (lv' := [(3, .int y6), (0, .ref h0), (1, .int x1), (2, .int x2)]) hx hb dX0_gatherRoots_14 rfl hl (by decide) rfl (fun ls hl => ?_)
        refine lv_iconst (v := (0 : Int32)) hx hb dX0_gatherRoots_15 (by decide) ?_
        refine lv_istore (lv' := [(4, .int (0 : Int32)), (3, .int y6), (0, .ref h0), (1, .int x1), (2, .int x2)]) hx hb dX0_gatherRoots_16 hl (by decide) rfl (fun ls hl => ?_)
        obtain ⟨k0, h⟩ := h
        exact lq18 k0 _ _ _ _ _ _ _ _ _ _ _ h hM (lv_sub hl [2, 3, 4, 1, 0] rfl)
  unfold wp_X0_gatherRoots at h
  refine lv_iconst (v := (0 : Int32)) hx hb dX0_gatherRoots_0 (by decide) ?_
  refine lv_istore_n (lv' := [(1, .int (0 : Int32)), (0, .ref h0)]) hx hb dX0_gatherRoots_1 rfl hl (by decide) rfl (fun ls hl => ?_)
  refine lv_iconst (v := (1 : Int32)) hx hb dX0_gatherRoots_2 (by decide) ?_
  refine lv_istore_n (lv' := [(2, .int (1 : Int32)), (1, .int (0 : Int32)), (0, .ref h0)]) hx hb dX0_gatherRoots_3 rfl hl (by decide) rfl (fun ls hl => ?_)
  obtain ⟨k0, h⟩ := h
  exact lq4 k0 _ _ _ _ _ _ _ _ _ h hM (lv_sub hl [2, 1, 0] rfl)
abbrev rm_X1_make : Room := { frames := 0, cells := 0, slots := 0, locals := 0 }
set_option maxRecDepth 100000 in
set_option maxHeartbeats 4000000 in
theorem ct_X1_make (l : Launch) (D : va_G) (cI cJ cZ : ClassId) (h0 : Nat) (r0 : Nat → Nat) (A_0_0_sizes : (Nat → Int32)) (A_0_1_longs : (Nat → Int64)) (x1 : Int32) (x2 : Int32) (sz : Nat) (K : (Nat → Int32) → (Nat → Int64) → Prop) (h : wp_X1_make x1 x2 A_0_0_sizes A_0_1_longs K) : Met l yX1_make wsX1_make rm_X1_make (va_Pc [.ref h0, .int x1, .int x2] (WX D cI cJ cZ [(h0, .inr (1, oX1 r0 )), ((r0 0), .inl (cI, 3, .inl A_0_0_sizes)), ((r0 1), .inl (cJ, 36, .inr (.inl A_0_1_longs)))] sz)) (va_Qv (fun (u : (Nat → Int32) × (Nat → Int64)) => K u.1 u.2) (fun (u : (Nat → Int32) × (Nat → Int64)) t => WY D (va_A [(h0, .inr (1, oX1 r0 )), ((r0 0), .inl (cI, 3, .inl A_0_0_sizes)), ((r0 1), .inl (cJ, 36, .inr (.inl A_0_1_longs)))] sz) [(h0, .inr (1, oX1 r0 )), ((r0 0), .inl (cI, 3, .inl u.1)), ((r0 1), .inl (cJ, 36, .inr (.inl u.2)))] t) (va_A [(h0, .inr (1, oX1 r0 )), ((r0 0), .inl (cI, 3, .inl A_0_0_sizes)), ((r0 1), .inl (cJ, 36, .inr (.inl A_0_1_longs)))] sz)) 0 0 (va_A [(h0, .inr (1, oX1 r0 )), ((r0 0), .inl (cI, 3, .inl A_0_0_sizes)), ((r0 1), .inl (cJ, 36, .inr (.inl A_0_1_longs)))] sz) := by
  refine m_met (own := RX1) (cc := cX1_make) (maxL := 4) (ret := none) [.ref h0, .int x1, .int x2] [(0, .ref h0), (1, .int x1), (2, .int x2)] (by decide) rfl rfl (Nat.le_of_ble_eq_true rfl) rfl ?_
  intro p e s m args below meth c Q A hQ hA C0 hr hnm hsz hM ls hl
  have hx := C0.1
  have hb := C0.2.1
  have hown := C0.2.2.2.1
  have lq9 : ∀ (k9 : Nat) (x3 : Int32) (A_0_0_sizes : (Nat → Int32)) (A_0_1_longs : (Nat → Int64)) (H : Heap) (locs : List Loc) (ls : Array Slot) , lp_X1_make_9 x1 x2 K k9 x3 A_0_0_sizes A_0_1_longs → MW D A s.heap [(h0, .inr (1, oX1 r0 )), ((r0 0), .inl (cI, 3, .inl A_0_0_sizes)), ((r0 1), .inl (cJ, 36, .inr (.inl A_0_1_longs)))] H locs → lv_has ls 4 [(0, .ref h0), (1, .int x1), (3, .int x3)] → W p l e rm_X1_make s m args below meth c H locs 0 0 Q (F0 m 9 ls []) := by
    intro k9
    induction k9 with
    | zero =>
      intro x3 A_0_0_sizes A_0_1_longs H locs ls h
      unfold lp_X1_make_9 at h
      exact h.elim
    | succ k9 ih9 =>
      intro x3 A_0_0_sizes A_0_1_longs H locs ls h hM hl
      unfold lp_X1_make_9 at h
      refine lv_iload_n hx hb dX1_make_9 rfl (lv_at hl 2 rfl) ?_
      refine lv_bipush (v := (12 : Int32)) hx hb dX1_make_10 (by decide) ?_
      refine lv_icmp_ge (tgt := 33) hx hb dX1_make_12 (by decide) (fun hq => ?_) (fun hq => ?_)
      · have h := h.1 hq
        subst hsz; subst hA; subst hQ
        exact m_vret C0 hr hM (A_0_0_sizes, A_0_1_longs) h rfl dX1_make_33
      · have h := h.2 hq
        refine lv_aload_n hx hb dX1_make_15 rfl (lv_at hl 0 rfl) ?_
        refine m_get (C := RX1) (T := TX1) (N := 2) (ci := 1) (ref := "LoweredPowers$Lists") (v := .ref (r0 1)) C0 hM 0 rfl rfl kt_X1_make_X1 1 (by decide) kw_X1_make_2 rfl rfl dX1_make_16 ?_
        refine lv_iload_n hx hb dX1_make_19 rfl (lv_at hl 1 rfl) ?_
        refine lv_bipush (v := (12 : Int32)) hx hb dX1_make_20 (by decide) ?_
        refine lv_imul hx hb dX1_make_22 ?_
        refine lv_iload_n hx hb dX1_make_23 rfl (lv_at hl 2 rfl) ?_
        refine lv_iadd hx hb dX1_make_24 ?_
        refine lv_lconst (v := (0 : Int64)) hx hb dX1_make_25 (by decide) ?_
        obtain ⟨hc1, h⟩ := h
        refine m_last (ws' := [(h0, .inr (1, oX1 r0 )), ((r0 0), .inl (cI, 3, .inl A_0_0_sizes)), ((r0 1), .inl (cJ, 36, .inr (.inl (vp_updL A_0_1_longs (((x1 * (12 : Int32)) + x3)).toNatClampNeg (0 : Int64)))))]) C0 hM 2 rfl hc1 rfl dX1_make_26 (fun H locs hM => ?_)
        refine lv_iinc (v := (x3 + (1 : Int32))) (lv' := [(3, .int (x3 + (1 : Int32))), (0, .ref h0), (1, .int x1)]) hx hb dX1_make_27 hl (k := 2) rfl rfl (by decide) rfl (fun ls hl => ?_)
        refine lv_goto (tgt := 9) hx hb dX1_make_30 (by decide) ?_
        exact ih9 _ _ _ _ _ _ h hM (lv_sub hl [1, 2, 0] rfl)
  unfold wp_X1_make at h
  refine lv_aload_n hx hb dX1_make_0 rfl (lv_at hl 0 rfl) ?_
  refine m_get (C := RX1) (T := TX1) (N := 2) (ci := 1) (ref := "LoweredPowers$Lists") (v := .ref (r0 0)) C0 hM 0 rfl rfl kt_X1_make_X1 0 (by decide) kw_X1_make_1 rfl rfl dX1_make_1 ?_
  refine lv_iload_n hx hb dX1_make_4 rfl (lv_at hl 1 rfl) ?_
  refine lv_iload_n hx hb dX1_make_5 rfl (lv_at hl 2 rfl) ?_
  obtain ⟨hc2, h⟩ := h
  refine m_iast (ws' := [(h0, .inr (1, oX1 r0 )), ((r0 0), .inl (cI, 3, .inl (upd A_0_0_sizes (x1).toNatClampNeg x2))), ((r0 1), .inl (cJ, 36, .inr (.inl A_0_1_longs)))]) C0 hM 1 rfl hc2 rfl dX1_make_6 (fun H locs hM => ?_)
  refine lv_iconst (v := (0 : Int32)) hx hb dX1_make_7 (by decide) ?_
  refine lv_istore_n (lv' := [(3, .int (0 : Int32)), (0, .ref h0), (1, .int x1), (2, .int x2)]) hx hb dX1_make_8 rfl hl (by decide) rfl (fun ls hl => ?_)
  obtain ⟨k0, h⟩ := h
  exact lq9 k0 _ _ _ _ _ _ h hM (lv_sub hl [1, 2, 0] rfl)
abbrev rm_X1_compare : Room := { frames := 0, cells := 0, slots := 0, locals := 0 }
set_option maxRecDepth 100000 in
set_option maxHeartbeats 4000000 in
theorem ct_X1_compare (l : Launch) (D : va_G) (cI cJ cZ : ClassId) (h0 : Nat) (h2 : Nat) (r0 : Nat → Nat) (r2 : Nat → Nat) (A_0_0_sizes : (Nat → Int32)) (A_0_1_longs : (Nat → Int64)) (I_2_top : Int32) (A_2_1_b : (Nat → Int32)) (x1 : Int32) (sz : Nat) (K : Int32 → Prop) (h : wp_X1_compare x1 A_0_0_sizes A_0_1_longs I_2_top A_2_1_b K) : Met l yX1_compare wsX1_compare rm_X1_compare (va_Pc [.ref h0, .int x1, .ref h2] (WX D cI cJ cZ [(h0, .inr (1, oX1 r0 )), ((r0 0), .inl (cI, 3, .inl A_0_0_sizes)), ((r0 1), .inl (cJ, 36, .inr (.inl A_0_1_longs))), (h2, .inr (0, oX0 r2 I_2_top)), ((r2 1), .inl (cI, 9, .inl A_2_1_b))] sz)) (va_Qi (fun (r : Int32) (_ : Unit) => K r ) (fun (_ : Unit) t => WY D (va_A [(h0, .inr (1, oX1 r0 )), ((r0 0), .inl (cI, 3, .inl A_0_0_sizes)), ((r0 1), .inl (cJ, 36, .inr (.inl A_0_1_longs))), (h2, .inr (0, oX0 r2 I_2_top)), ((r2 1), .inl (cI, 9, .inl A_2_1_b))] sz) [(h0, .inr (1, oX1 r0 )), ((r0 0), .inl (cI, 3, .inl A_0_0_sizes)), ((r0 1), .inl (cJ, 36, .inr (.inl A_0_1_longs))), (h2, .inr (0, oX0 r2 I_2_top)), ((r2 1), .inl (cI, 9, .inl A_2_1_b))] t) (va_A [(h0, .inr (1, oX1 r0 )), ((r0 0), .inl (cI, 3, .inl A_0_0_sizes)), ((r0 1), .inl (cJ, 36, .inr (.inl A_0_1_longs))), (h2, .inr (0, oX0 r2 I_2_top)), ((r2 1), .inl (cI, 9, .inl A_2_1_b))] sz)) 0 0 (va_A [(h0, .inr (1, oX1 r0 )), ((r0 0), .inl (cI, 3, .inl A_0_0_sizes)), ((r0 1), .inl (cJ, 36, .inr (.inl A_0_1_longs))), (h2, .inr (0, oX0 r2 I_2_top)), ((r2 1), .inl (cI, 9, .inl A_2_1_b))] sz) := by
  refine m_met (own := RX1) (cc := cX1_compare) (maxL := 5) (ret := some .int) [.ref h0, .int x1, .ref h2] [(0, .ref h0), (1, .int x1), (2, .ref h2)] (by decide) rfl rfl (Nat.le_of_ble_eq_true rfl) rfl ?_
  intro p e s m args below meth c Q A hQ hA C0 hr hnm hsz hM ls hl
  have hx := C0.1
  have hb := C0.2.1
  have hown := C0.2.2.2.1
  have jq58 : ∀ (x3 : Int32) (H : Heap) (locs : List Loc) (ls : Array Slot) , jn_X1_compare_58 x1 A_0_0_sizes A_0_1_longs I_2_top A_2_1_b K x3 → MW D A s.heap [(h0, .inr (1, oX1 r0 )), ((r0 0), .inl (cI, 3, .inl A_0_0_sizes)), ((r0 1), .inl (cJ, 36, .inr (.inl A_0_1_longs))), (h2, .inr (0, oX0 r2 I_2_top)), ((r2 1), .inl (cI, 9, .inl A_2_1_b))] H locs → lv_has ls 5 [(2, .ref h2), (3, .int x3)] → W p l e rm_X1_compare s m args below meth c H locs 0 0 Q (F0 m 58 ls []) := by
    intro x3 H locs ls h hM hl
    unfold jn_X1_compare_58 at h
    refine lv_iload_n hx hb dX1_compare_58 rfl (lv_at hl 1 rfl) ?_
    refine lv_aload_n hx hb dX1_compare_59 rfl (lv_at hl 0 rfl) ?_
    refine m_get (C := RX0) (T := TX0) (N := 7) (ci := 0) (ref := "LoweredPowers$Found") (v := .int I_2_top) C0 hM 3 rfl rfl kt_X1_compare_X0 2 (by decide) kw_X1_compare_2 rfl rfl dX1_compare_60 ?_
    refine lv_icmp_gt (tgt := 73) hx hb dX1_compare_63 (by decide) (fun hq => ?_) (fun hq => ?_)
    · have h := h.1 hq
      refine lv_bipush (v := (-5 : Int32)) hx hb dX1_compare_73 (by decide) ?_
      subst hsz; subst hA; subst hQ
      exact m_iret C0 hr hM () h rfl dX1_compare_75
    · have h := h.2 hq
      refine lv_bipush (v := (100 : Int32)) hx hb dX1_compare_66 (by decide) ?_
      refine lv_iload_n hx hb dX1_compare_68 rfl (lv_at hl 1 rfl) ?_
      refine lv_iadd hx hb dX1_compare_69 ?_
      refine lv_goto (tgt := 75) hx hb dX1_compare_70 (by decide) ?_
      subst hsz; subst hA; subst hQ
      exact m_iret C0 hr hM () h rfl dX1_compare_75
  have lq10 : ∀ (k10 : Nat) (x3 : Int32) (x4 : Int32) (H : Heap) (locs : List Loc) (ls : Array Slot) , lp_X1_compare_10 x1 A_0_0_sizes A_0_1_longs I_2_top A_2_1_b (jn_X1_compare_58 x1 A_0_0_sizes A_0_1_longs I_2_top A_2_1_b K) K k10 x3 x4 → MW D A s.heap [(h0, .inr (1, oX1 r0 )), ((r0 0), .inl (cI, 3, .inl A_0_0_sizes)), ((r0 1), .inl (cJ, 36, .inr (.inl A_0_1_longs))), (h2, .inr (0, oX0 r2 I_2_top)), ((r2 1), .inl (cI, 9, .inl A_2_1_b))] H locs → lv_has ls 5 [(0, .ref h0), (1, .int x1), (2, .ref h2), (3, .int x3), (4, .int x4)] → W p l e rm_X1_compare s m args below meth c H locs 0 0 Q (F0 m 10 ls []) := by
    intro k10
    induction k10 with
    | zero =>
      intro x3 x4 H locs ls h
      unfold lp_X1_compare_10 at h
      exact h.elim
    | succ k10 ih10 =>
      intro x3 x4 H locs ls h hM hl
      unfold lp_X1_compare_10 at h
      refine lv_iload hx hb dX1_compare_10 (lv_at hl 4 rfl) ?_
      refine lv_iload_n hx hb dX1_compare_12 rfl (lv_at hl 3 rfl) ?_
      refine lv_icmp_ge (tgt := 58) hx hb dX1_compare_13 (by decide) (fun hq => ?_) (fun hq => ?_)
      · have h := h.1 hq
        exact jq58 _ _ _ _ h hM (lv_sub hl [2, 3] rfl)
      · have h := h.2 hq
        refine lv_iload hx hb dX1_compare_16 (lv_at hl 4 rfl) ?_
        refine lv_aload_n hx hb dX1_compare_18 rfl (lv_at hl 2 rfl) ?_
        refine m_get (C := RX0) (T := TX0) (N := 7) (ci := 0) (ref := "LoweredPowers$Found") (v := .int I_2_top) C0 hM 3 rfl rfl kt_X1_compare_X0 2 (by decide) kw_X1_compare_2 rfl rfl dX1_compare_19 ?_
        refine lv_icmp_gt (tgt := 49) hx hb dX1_compare_22 (by decide) (fun hq => ?_) (fun hq => ?_)
        · have h := h.1 hq
          refine lv_iload hx hb dX1_compare_49 (lv_at hl 4 rfl) ?_
          subst hsz; subst hA; subst hQ
          exact m_iret C0 hr hM () h rfl dX1_compare_51
        · have h := h.2 hq
          refine lv_aload_n hx hb dX1_compare_25 rfl (lv_at hl 0 rfl) ?_
          refine m_get (C := RX1) (T := TX1) (N := 2) (ci := 1) (ref := "LoweredPowers$Lists") (v := .ref (r0 1)) C0 hM 0 rfl rfl kt_X1_compare_X1 1 (by decide) kw_X1_compare_3 rfl rfl dX1_compare_26 ?_
          refine lv_iload_n hx hb dX1_compare_29 rfl (lv_at hl 1 rfl) ?_
          refine lv_bipush (v := (12 : Int32)) hx hb dX1_compare_30 (by decide) ?_
          refine lv_imul hx hb dX1_compare_32 ?_
          refine lv_iload hx hb dX1_compare_33 (lv_at hl 4 rfl) ?_
          refine lv_iadd hx hb dX1_compare_35 ?_
          obtain ⟨hc1, h⟩ := h
          refine m_lald C0 hM 2 rfl hc1 dX1_compare_36 ?_
          refine lv_aload_n hx hb dX1_compare_37 rfl (lv_at hl 2 rfl) ?_
          refine m_get (C := RX0) (T := TX0) (N := 7) (ci := 0) (ref := "LoweredPowers$Found") (v := .ref (r2 1)) C0 hM 3 rfl rfl kt_X1_compare_X0 1 (by decide) kw_X1_compare_4 rfl rfl dX1_compare_38 ?_
          refine lv_iload hx hb dX1_compare_41 (lv_at hl 4 rfl) ?_
          obtain ⟨hc2, h⟩ := h
          refine m_iald C0 hM 4 rfl hc2 dX1_compare_43 ?_
          refine lv_i2l hx hb dX1_compare_44 rfl ?_
          refine W.lcmp hx hb dX1_compare_45 ?_
          refine lv_if_eq (tgt := 52) hx hb dX1_compare_46 (by decide) (fun hq => ?_) (fun hq => ?_)
          · have h := h.1 hq
            refine lv_iinc (v := (x4 + (1 : Int32))) (lv' := [(4, .int (x4 + (1 : Int32))), (0, .ref h0), (1, .int x1), (2, .ref h2), (3, .int x3)]) hx hb dX1_compare_52 hl (k := 4) rfl rfl (by decide) rfl (fun ls hl => ?_)
            refine lv_goto (tgt := 10) hx hb dX1_compare_55 (by decide) ?_
            exact ih10 _ _ _ _ _ h hM (lv_sub hl [1, 2, 3, 4, 0] rfl)
          · have h := h.2 hq
            refine lv_iload hx hb dX1_compare_49 (lv_at hl 4 rfl) ?_
            subst hsz; subst hA; subst hQ
            exact m_iret C0 hr hM () h rfl dX1_compare_51
  unfold wp_X1_compare at h
  refine lv_aload_n hx hb dX1_compare_0 rfl (lv_at hl 0 rfl) ?_
  refine m_get (C := RX1) (T := TX1) (N := 2) (ci := 1) (ref := "LoweredPowers$Lists") (v := .ref (r0 0)) C0 hM 0 rfl rfl kt_X1_compare_X1 0 (by decide) kw_X1_compare_1 rfl rfl dX1_compare_1 ?_
  refine lv_iload_n hx hb dX1_compare_4 rfl (lv_at hl 1 rfl) ?_
  obtain ⟨hc3, h⟩ := h
  refine m_iald C0 hM 1 rfl hc3 dX1_compare_5 ?_
  refine lv_topi (fun y4 ey4 => ?_)
  have h := h y4 ey4
  refine lv_istore_n (lv' := [(3, .int y4), (0, .ref h0), (1, .int x1), (2, .ref h2)]) hx hb dX1_compare_6 rfl hl (by decide) rfl (fun ls hl => ?_)
  refine lv_iconst (v := (0 : Int32)) hx hb dX1_compare_7 (by decide) ?_
  refine lv_istore (lv' := [(4, .int (0 : Int32)), (3, .int y4), (0, .ref h0), (1, .int x1), (2, .ref h2)]) hx hb dX1_compare_8 hl (by decide) rfl (fun ls hl => ?_)
  obtain ⟨k0, h⟩ := h
  exact lq10 k0 _ _ _ _ _ h hM (lv_sub hl [2, 3, 4, 1, 0] rfl)
abbrev rm_X4_topDerivative : Room := { frames := 1, cells := 0, slots := 0, locals := 21 }
set_option maxRecDepth 100000 in
set_option maxHeartbeats 4000000 in
theorem ct_X4_topDerivative (l : Launch) (D : va_G) (cI cJ cZ : ClassId) (h0 : Nat) (r0 : Nat → Nat) (A_0_0_numbers : (Nat → Int32)) (sz : Nat) (K : Int32 → Prop) (h : wp_X4_topDerivative A_0_0_numbers K) : Met l yX4_topDerivative wsX4_topDerivative rm_X4_topDerivative (va_Pc [.ref h0] (WX D cI cJ cZ [(h0, .inr (3, oX4 r0 )), ((r0 0), .inl (cI, 75, .inl A_0_0_numbers))] sz)) (va_Qi (fun (r : Int32) (_ : Unit) => K r ) (fun (_ : Unit) t => WY D (va_A [(h0, .inr (3, oX4 r0 )), ((r0 0), .inl (cI, 75, .inl A_0_0_numbers))] sz) [(h0, .inr (3, oX4 r0 )), ((r0 0), .inl (cI, 75, .inl A_0_0_numbers))] t) (va_A [(h0, .inr (3, oX4 r0 )), ((r0 0), .inl (cI, 75, .inl A_0_0_numbers))] sz)) 0 0 (va_A [(h0, .inr (3, oX4 r0 )), ((r0 0), .inl (cI, 75, .inl A_0_0_numbers))] sz) := by
  refine m_met (own := RX4) (cc := cX4_topDerivative) (maxL := 2) (ret := some .int) [.ref h0] [(0, .ref h0)] (by decide) rfl rfl (Nat.le_of_ble_eq_true rfl) rfl ?_
  intro p e s m args below meth c Q A hQ hA C0 hr hnm hsz hM ls hl
  have hx := C0.1
  have hb := C0.2.1
  have hown := C0.2.2.2.1
  unfold wp_X4_topDerivative at h
  refine lv_aload_n hx hb dX4_topDerivative_0 rfl (lv_at hl 0 rfl) ?_
  refine m_get (C := RX4) (T := TX4) (N := 1) (ci := 3) (ref := "LoweredPowers$Operator") (v := .ref (r0 0)) C0 hM 0 rfl rfl kt_X4_topDerivative_X4 0 (by decide) kw_X4_topDerivative_1 rfl rfl dX4_topDerivative_1 ?_
  refine m_calli (wc := [((r0 0), .inl (cI, 75, .inl A_0_0_numbers))]) C0 hM [1] rfl (m_runS (wc := [((r0 0), .inl (cI, 75, .inl A_0_0_numbers))]) (As := [.ref (r0 0)]) (rest := []) C0 hM (ct_X3_highest l D cI cJ cZ (r0 0) 75 A_0_0_numbers _ _ h) [1] rfl (by decide) gX4_topDerivative_X3_highest rfl rfl rfl hd_X3_highest ⟨Nat.le_of_ble_eq_true rfl, Nat.le_of_ble_eq_true rfl⟩ rfl hl.1 rfl (Nat.le_of_ble_eq_true rfl) dX4_topDerivative_4 ⟨Nat.le_of_ble_eq_true rfl, Nat.le_of_ble_eq_true rfl⟩) (fun _ => [(h0, .inr (3, oX4 r0 )), ((r0 0), .inl (cI, 75, .inl A_0_0_numbers))]) (fun _ => rfl) (fun _ => rfl) (fun y1 _ H locs h hM => ?_)
  refine lv_istore_n (lv' := [(1, .int y1), (0, .ref h0)]) hx hb dX4_topDerivative_7 rfl hl (by decide) rfl (fun ls hl => ?_)
  refine lv_iload_n hx hb dX4_topDerivative_8 rfl (lv_at hl 0 rfl) ?_
  refine lv_if_ge (tgt := 16) hx hb dX4_topDerivative_9 (by decide) (fun hq => ?_) (fun hq => ?_)
  · have h := h.1 hq
    refine lv_iload_n hx hb dX4_topDerivative_16 rfl (lv_at hl 0 rfl) ?_
    refine lv_bipush (v := (15 : Int32)) hx hb dX4_topDerivative_17 (by decide) ?_
    refine lv_idiv hx hb dX4_topDerivative_19 (by decide) ?_
    subst hsz; subst hA; subst hQ
    exact m_iret C0 hr hM () h rfl dX4_topDerivative_20
  · have h := h.2 hq
    refine lv_iconst (v := (0 : Int32)) hx hb dX4_topDerivative_12 (by decide) ?_
    refine lv_goto (tgt := 20) hx hb dX4_topDerivative_13 (by decide) ?_
    subst hsz; subst hA; subst hQ
    exact m_iret C0 hr hM () h rfl dX4_topDerivative_20
abbrev rm_X4_index : Room := { frames := 0, cells := 0, slots := 0, locals := 0 }
set_option maxRecDepth 100000 in
set_option maxHeartbeats 4000000 in
theorem ct_X4_index (l : Launch) (D : va_G) (cI cJ cZ : ClassId) (x0 : Int32) (x1 : Int32) (x2 : Int32) (sz : Nat) (K : Int32 → Prop) (h : wp_X4_index x0 x1 x2 K) : Met l yX4_index wsX4_index rm_X4_index (va_Pc [.int x0, .int x1, .int x2] (WX D cI cJ cZ [] sz)) (va_Qi (fun (r : Int32) (_ : Unit) => K r ) (fun (_ : Unit) t => WY D (va_A [] sz) [] t) (va_A [] sz)) 0 0 (va_A [] sz) := by
  refine m_met (own := RX4) (cc := cX4_index) (maxL := 3) (ret := some .int) [.int x0, .int x1, .int x2] [(0, .int x0), (1, .int x1), (2, .int x2)] (by decide) rfl rfl (Nat.le_of_ble_eq_true rfl) rfl ?_
  intro p e s m args below meth c Q A hQ hA C0 hr hnm hsz hM ls hl
  have hx := C0.1
  have hb := C0.2.1
  have hown := C0.2.2.2.1
  unfold wp_X4_index at h
  refine lv_iload_n hx hb dX4_index_0 rfl (lv_at hl 0 rfl) ?_
  refine lv_bipush (v := (15 : Int32)) hx hb dX4_index_1 (by decide) ?_
  refine lv_imul hx hb dX4_index_3 ?_
  refine lv_iload_n hx hb dX4_index_4 rfl (lv_at hl 1 rfl) ?_
  refine lv_iconst (v := (3 : Int32)) hx hb dX4_index_5 (by decide) ?_
  refine lv_imul hx hb dX4_index_6 ?_
  refine lv_iadd hx hb dX4_index_7 ?_
  refine lv_iload_n hx hb dX4_index_8 rfl (lv_at hl 2 rfl) ?_
  refine lv_iadd hx hb dX4_index_9 ?_
  subst hsz; subst hA; subst hQ
  exact m_iret C0 hr hM () h rfl dX4_index_10
abbrev rm_X4_names : Room := { frames := 1, cells := 0, slots := 0, locals := 22 }
set_option maxRecDepth 100000 in
set_option maxHeartbeats 4000000 in
theorem ct_X4_names (l : Launch) (D : va_G) (cI cJ cZ : ClassId) (x0 : Int32) (x1 : Int32) (x2 : Int32) (sz : Nat) (K : Int32 → Prop) (h : wp_X4_names x0 x1 x2 K) : Met l yX4_names wsX4_names rm_X4_names (va_Pc [.int x0, .int x1, .int x2] (WX D cI cJ cZ [] sz)) (va_Qi (fun (r : Int32) (_ : Unit) => K r ) (fun (_ : Unit) t => WY D (va_A [] sz) [] t) (va_A [] sz)) 0 0 (va_A [] sz) := by
  refine m_met (own := RX4) (cc := cX4_names) (maxL := 3) (ret := some .boolean) [.int x0, .int x1, .int x2] [(0, .int x0), (1, .int x1), (2, .int x2)] (by decide) rfl rfl (Nat.le_of_ble_eq_true rfl) rfl ?_
  intro p e s m args below meth c Q A hQ hA C0 hr hnm hsz hM ls hl
  have hx := C0.1
  have hb := C0.2.1
  have hown := C0.2.2.2.1
  unfold wp_X4_names at h
  refine lv_iload_n hx hb dX4_names_0 rfl (lv_at hl 0 rfl) ?_
  refine lv_iconst (v := (0 : Int32)) hx hb dX4_names_1 (by decide) ?_
  refine lv_iconst (v := (4 : Int32)) hx hb dX4_names_2 (by decide) ?_
  refine m_calli (wc := []) C0 hM [] rfl (m_runSN (wc := []) (As := [.int x0, .int (0 : Int32), .int (4 : Int32)]) (rest := []) C0 hM (ct_X11_within l D cI cJ cZ x0 (0 : Int32) (4 : Int32) _ _ h) [] rfl (by decide) gX4_names_X11_within_n13 rfl rfl rfl (C0.2.2.2.2.2.2.2.1).2.2.2.2.2.2.2.1 kw_X4_names_2 kw_X4_names_1 hd_X11_within ⟨Nat.le_of_ble_eq_true rfl, Nat.le_of_ble_eq_true rfl⟩ rfl hl.1 rfl (Nat.le_of_ble_eq_true rfl) dX4_names_3 ⟨Nat.le_of_ble_eq_true rfl, Nat.le_of_ble_eq_true rfl⟩) (fun _ => []) (fun _ => rfl) (fun _ => rfl) (fun y1 _ H locs h hM => ?_)
  refine lv_if_eq (tgt := 31) hx hb dX4_names_6 (by decide) (fun hq => ?_) (fun hq => ?_)
  · have h := h.1 hq
    refine lv_iconst (v := (0 : Int32)) hx hb dX4_names_31 (by decide) ?_
    subst hsz; subst hA; subst hQ
    exact m_zret C0 hr hM rfl () h rfl dX4_names_32
  · have h := h.2 hq
    refine lv_iload_n hx hb dX4_names_9 rfl (lv_at hl 1 rfl) ?_
    refine lv_iconst (v := (0 : Int32)) hx hb dX4_names_10 (by decide) ?_
    refine lv_iconst (v := (4 : Int32)) hx hb dX4_names_11 (by decide) ?_
    refine m_calli (wc := []) C0 hM [] rfl (m_runSN (wc := []) (As := [.int x1, .int (0 : Int32), .int (4 : Int32)]) (rest := []) C0 hM (ct_X11_within l D cI cJ cZ x1 (0 : Int32) (4 : Int32) _ _ h) [] rfl (by decide) gX4_names_X11_within_n13 rfl rfl rfl (C0.2.2.2.2.2.2.2.1).2.2.2.2.2.2.2.1 kw_X4_names_2 kw_X4_names_1 hd_X11_within ⟨Nat.le_of_ble_eq_true rfl, Nat.le_of_ble_eq_true rfl⟩ rfl hl.1 rfl (Nat.le_of_ble_eq_true rfl) dX4_names_12 ⟨Nat.le_of_ble_eq_true rfl, Nat.le_of_ble_eq_true rfl⟩) (fun _ => []) (fun _ => rfl) (fun _ => rfl) (fun y2 _ H locs h hM => ?_)
    refine lv_if_eq (tgt := 31) hx hb dX4_names_15 (by decide) (fun hq => ?_) (fun hq => ?_)
    · have h := h.1 hq
      refine lv_iconst (v := (0 : Int32)) hx hb dX4_names_31 (by decide) ?_
      subst hsz; subst hA; subst hQ
      exact m_zret C0 hr hM rfl () h rfl dX4_names_32
    · have h := h.2 hq
      refine lv_iload_n hx hb dX4_names_18 rfl (lv_at hl 2 rfl) ?_
      refine lv_iconst (v := (0 : Int32)) hx hb dX4_names_19 (by decide) ?_
      refine lv_iconst (v := (2 : Int32)) hx hb dX4_names_20 (by decide) ?_
      refine m_calli (wc := []) C0 hM [] rfl (m_runSN (wc := []) (As := [.int x2, .int (0 : Int32), .int (2 : Int32)]) (rest := []) C0 hM (ct_X11_within l D cI cJ cZ x2 (0 : Int32) (2 : Int32) _ _ h) [] rfl (by decide) gX4_names_X11_within_n13 rfl rfl rfl (C0.2.2.2.2.2.2.2.1).2.2.2.2.2.2.2.1 kw_X4_names_2 kw_X4_names_1 hd_X11_within ⟨Nat.le_of_ble_eq_true rfl, Nat.le_of_ble_eq_true rfl⟩ rfl hl.1 rfl (Nat.le_of_ble_eq_true rfl) dX4_names_21 ⟨Nat.le_of_ble_eq_true rfl, Nat.le_of_ble_eq_true rfl⟩) (fun _ => []) (fun _ => rfl) (fun _ => rfl) (fun y3 _ H locs h hM => ?_)
      refine lv_if_eq (tgt := 31) hx hb dX4_names_24 (by decide) (fun hq => ?_) (fun hq => ?_)
      · have h := h.1 hq
        refine lv_iconst (v := (0 : Int32)) hx hb dX4_names_31 (by decide) ?_
        subst hsz; subst hA; subst hQ
        exact m_zret C0 hr hM rfl () h rfl dX4_names_32
      · have h := h.2 hq
        refine lv_iconst (v := (1 : Int32)) hx hb dX4_names_27 (by decide) ?_
        refine lv_goto (tgt := 32) hx hb dX4_names_28 (by decide) ?_
        subst hsz; subst hA; subst hQ
        exact m_zret C0 hr hM rfl () h rfl dX4_names_32
abbrev rm_X5_append : Room := { frames := 0, cells := 0, slots := 0, locals := 0 }
set_option maxRecDepth 100000 in
set_option maxHeartbeats 4000000 in
theorem ct_X5_append (l : Launch) (D : va_G) (cI cJ cZ : ClassId) (h0 : Nat) (r0 : Nat → Nat) (I_0_size : Int32) (A_0_0_kinds : (Nat → Int32)) (A_0_1_amounts : (Nat → Int32)) (x1 : Int32) (x2 : Int32) (sz : Nat) (K : Int32 → (Nat → Int32) → (Nat → Int32) → Prop) (h : wp_X5_append x1 x2 I_0_size A_0_0_kinds A_0_1_amounts K) : Met l yX5_append wsX5_append rm_X5_append (va_Pc [.ref h0, .int x1, .int x2] (WX D cI cJ cZ [(h0, .inr (4, oX5 r0 I_0_size)), ((r0 0), .inl (cI, 8, .inl A_0_0_kinds)), ((r0 1), .inl (cI, 8, .inl A_0_1_amounts))] sz)) (va_Qv (fun (u : Int32 × (Nat → Int32) × (Nat → Int32)) => K u.1 u.2.1 u.2.2) (fun (u : Int32 × (Nat → Int32) × (Nat → Int32)) t => WY D (va_A [(h0, .inr (4, oX5 r0 I_0_size)), ((r0 0), .inl (cI, 8, .inl A_0_0_kinds)), ((r0 1), .inl (cI, 8, .inl A_0_1_amounts))] sz) [(h0, .inr (4, oX5 r0 u.1)), ((r0 0), .inl (cI, 8, .inl u.2.1)), ((r0 1), .inl (cI, 8, .inl u.2.2))] t) (va_A [(h0, .inr (4, oX5 r0 I_0_size)), ((r0 0), .inl (cI, 8, .inl A_0_0_kinds)), ((r0 1), .inl (cI, 8, .inl A_0_1_amounts))] sz)) 0 0 (va_A [(h0, .inr (4, oX5 r0 I_0_size)), ((r0 0), .inl (cI, 8, .inl A_0_0_kinds)), ((r0 1), .inl (cI, 8, .inl A_0_1_amounts))] sz) := by
  refine m_met (own := RX5) (cc := cX5_append) (maxL := 3) (ret := none) [.ref h0, .int x1, .int x2] [(0, .ref h0), (1, .int x1), (2, .int x2)] (by decide) rfl rfl (Nat.le_of_ble_eq_true rfl) rfl ?_
  intro p e s m args below meth c Q A hQ hA C0 hr hnm hsz hM ls hl
  have hx := C0.1
  have hb := C0.2.1
  have hown := C0.2.2.2.1
  unfold wp_X5_append at h
  refine lv_aload_n hx hb dX5_append_0 rfl (lv_at hl 0 rfl) ?_
  refine m_get (C := RX5) (T := TX5) (N := 3) (ci := 4) (ref := "LoweredPowers$Plan") (v := .int I_0_size) C0 hM 0 rfl rfl kt_X5_append_X5 2 (by decide) kw_X5_append_1 rfl rfl dX5_append_1 ?_
  refine lv_bipush (v := (8 : Int32)) hx hb dX5_append_4 (by decide) ?_
  refine lv_icmp_ge (tgt := 39) hx hb dX5_append_6 (by decide) (fun hq => ?_) (fun hq => ?_)
  · have h := h.1 hq
    subst hsz; subst hA; subst hQ
    exact m_vret C0 hr hM (I_0_size, A_0_0_kinds, A_0_1_amounts) h rfl dX5_append_39
  · have h := h.2 hq
    refine lv_aload_n hx hb dX5_append_9 rfl (lv_at hl 0 rfl) ?_
    refine m_get (C := RX5) (T := TX5) (N := 3) (ci := 4) (ref := "LoweredPowers$Plan") (v := .ref (r0 0)) C0 hM 0 rfl rfl kt_X5_append_X5 0 (by decide) kw_X5_append_2 rfl rfl dX5_append_10 ?_
    refine lv_aload_n hx hb dX5_append_13 rfl (lv_at hl 0 rfl) ?_
    refine m_get (C := RX5) (T := TX5) (N := 3) (ci := 4) (ref := "LoweredPowers$Plan") (v := .int I_0_size) C0 hM 0 rfl rfl kt_X5_append_X5 2 (by decide) kw_X5_append_1 rfl rfl dX5_append_14 ?_
    refine lv_iload_n hx hb dX5_append_17 rfl (lv_at hl 1 rfl) ?_
    obtain ⟨hc1, h⟩ := h
    refine m_iast (ws' := [(h0, .inr (4, oX5 r0 I_0_size)), ((r0 0), .inl (cI, 8, .inl (upd A_0_0_kinds (I_0_size).toNatClampNeg x1))), ((r0 1), .inl (cI, 8, .inl A_0_1_amounts))]) C0 hM 1 rfl hc1 rfl dX5_append_18 (fun H locs hM => ?_)
    refine lv_aload_n hx hb dX5_append_19 rfl (lv_at hl 0 rfl) ?_
    refine m_get (C := RX5) (T := TX5) (N := 3) (ci := 4) (ref := "LoweredPowers$Plan") (v := .ref (r0 1)) C0 hM 0 rfl rfl kt_X5_append_X5 1 (by decide) kw_X5_append_3 rfl rfl dX5_append_20 ?_
    refine lv_aload_n hx hb dX5_append_23 rfl (lv_at hl 0 rfl) ?_
    refine m_get (C := RX5) (T := TX5) (N := 3) (ci := 4) (ref := "LoweredPowers$Plan") (v := .int I_0_size) C0 hM 0 rfl rfl kt_X5_append_X5 2 (by decide) kw_X5_append_1 rfl rfl dX5_append_24 ?_
    refine lv_iload_n hx hb dX5_append_27 rfl (lv_at hl 2 rfl) ?_
    refine m_iast (ws' := [(h0, .inr (4, oX5 r0 I_0_size)), ((r0 0), .inl (cI, 8, .inl (upd A_0_0_kinds (I_0_size).toNatClampNeg x1))), ((r0 1), .inl (cI, 8, .inl (upd A_0_1_amounts (I_0_size).toNatClampNeg x2)))]) C0 hM 2 rfl hc1 rfl dX5_append_28 (fun H locs hM => ?_)
    refine lv_aload_n hx hb dX5_append_29 rfl (lv_at hl 0 rfl) ?_
    refine lv_dup hx hb dX5_append_30 rfl ?_
    refine m_get (C := RX5) (T := TX5) (N := 3) (ci := 4) (ref := "LoweredPowers$Plan") (v := .int I_0_size) C0 hM 0 rfl rfl kt_X5_append_X5 2 (by decide) kw_X5_append_1 rfl rfl dX5_append_31 ?_
    refine lv_iconst (v := (1 : Int32)) hx hb dX5_append_34 (by decide) ?_
    refine lv_iadd hx hb dX5_append_35 ?_
    refine lv_topi (fun y2 ey2 => ?_)
    have h := h y2 ey2
    refine m_put (ws' := [(h0, .inr (4, oX5 r0 y2)), ((r0 0), .inl (cI, 8, .inl (upd A_0_0_kinds (I_0_size).toNatClampNeg x1))), ((r0 1), .inl (cI, 8, .inl (upd A_0_1_amounts (I_0_size).toNatClampNeg x2)))]) (C := RX5) (T := TX5) (N := 3) (ci := 4) (ref := "LoweredPowers$Plan") (v := .int y2) C0 hM 0 rfl rfl kt_X5_append_X5 tyX5 tyX5_ok nmX5 2 (by decide) kw_X5_append_1 rfl rfl rfl rfl (Nat.le_of_ble_eq_true rfl) rfl dX5_append_36 (fun H locs hM => ?_)
    subst hsz; subst hA; subst hQ
    exact m_vret C0 hr hM (y2, (upd A_0_0_kinds (I_0_size).toNatClampNeg x1), (upd A_0_1_amounts (I_0_size).toNatClampNeg x2)) h rfl dX5_append_39
abbrev rm_X5_become : Room := { frames := 1, cells := 0, slots := 0, locals := 26 }
set_option maxRecDepth 100000 in
set_option maxHeartbeats 4000000 in
theorem ct_X5_become (l : Launch) (D : va_G) (cI cJ cZ : ClassId) (h0 : Nat) (h1 : Nat) (r0 : Nat → Nat) (r1 : Nat → Nat) (I_0_size : Int32) (A_0_0_kinds : (Nat → Int32)) (A_0_1_amounts : (Nat → Int32)) (I_1_size : Int32) (A_1_0_kinds : (Nat → Int32)) (A_1_1_amounts : (Nat → Int32)) (sz : Nat) (K : Int32 → (Nat → Int32) → (Nat → Int32) → Prop) (h : wp_X5_become I_0_size A_0_0_kinds A_0_1_amounts I_1_size A_1_0_kinds A_1_1_amounts K) : Met l yX5_become wsX5_become rm_X5_become (va_Pc [.ref h0, .ref h1] (WX D cI cJ cZ [(h0, .inr (4, oX5 r0 I_0_size)), ((r0 0), .inl (cI, 8, .inl A_0_0_kinds)), ((r0 1), .inl (cI, 8, .inl A_0_1_amounts)), (h1, .inr (4, oX5 r1 I_1_size)), ((r1 0), .inl (cI, 8, .inl A_1_0_kinds)), ((r1 1), .inl (cI, 8, .inl A_1_1_amounts))] sz)) (va_Qv (fun (u : Int32 × (Nat → Int32) × (Nat → Int32)) => K u.1 u.2.1 u.2.2) (fun (u : Int32 × (Nat → Int32) × (Nat → Int32)) t => WY D (va_A [(h0, .inr (4, oX5 r0 I_0_size)), ((r0 0), .inl (cI, 8, .inl A_0_0_kinds)), ((r0 1), .inl (cI, 8, .inl A_0_1_amounts)), (h1, .inr (4, oX5 r1 I_1_size)), ((r1 0), .inl (cI, 8, .inl A_1_0_kinds)), ((r1 1), .inl (cI, 8, .inl A_1_1_amounts))] sz) [(h0, .inr (4, oX5 r0 u.1)), ((r0 0), .inl (cI, 8, .inl u.2.1)), ((r0 1), .inl (cI, 8, .inl u.2.2)), (h1, .inr (4, oX5 r1 I_1_size)), ((r1 0), .inl (cI, 8, .inl A_1_0_kinds)), ((r1 1), .inl (cI, 8, .inl A_1_1_amounts))] t) (va_A [(h0, .inr (4, oX5 r0 I_0_size)), ((r0 0), .inl (cI, 8, .inl A_0_0_kinds)), ((r0 1), .inl (cI, 8, .inl A_0_1_amounts)), (h1, .inr (4, oX5 r1 I_1_size)), ((r1 0), .inl (cI, 8, .inl A_1_0_kinds)), ((r1 1), .inl (cI, 8, .inl A_1_1_amounts))] sz)) 0 0 (va_A [(h0, .inr (4, oX5 r0 I_0_size)), ((r0 0), .inl (cI, 8, .inl A_0_0_kinds)), ((r0 1), .inl (cI, 8, .inl A_0_1_amounts)), (h1, .inr (4, oX5 r1 I_1_size)), ((r1 0), .inl (cI, 8, .inl A_1_0_kinds)), ((r1 1), .inl (cI, 8, .inl A_1_1_amounts))] sz) := by
  refine m_met (own := RX5) (cc := cX5_become) (maxL := 2) (ret := none) [.ref h0, .ref h1] [(0, .ref h0), (1, .ref h1)] (by decide) rfl rfl (Nat.le_of_ble_eq_true rfl) rfl ?_
  intro p e s m args below meth c Q A hQ hA C0 hr hnm hsz hM ls hl
  have hx := C0.1
  have hb := C0.2.1
  have hown := C0.2.2.2.1
  unfold wp_X5_become at h
  refine lv_aload_n hx hb dX5_become_0 rfl (lv_at hl 1 rfl) ?_
  refine m_get (C := RX5) (T := TX5) (N := 3) (ci := 4) (ref := "LoweredPowers$Plan") (v := .ref (r1 0)) C0 hM 3 rfl rfl kt_X5_become_X5 0 (by decide) kw_X5_become_1 rfl rfl dX5_become_1 ?_
  refine lv_iconst (v := (0 : Int32)) hx hb dX5_become_4 (by decide) ?_
  refine lv_aload_n hx hb dX5_become_5 rfl (lv_at hl 0 rfl) ?_
  refine m_get (C := RX5) (T := TX5) (N := 3) (ci := 4) (ref := "LoweredPowers$Plan") (v := .ref (r0 0)) C0 hM 0 rfl rfl kt_X5_become_X5 0 (by decide) kw_X5_become_1 rfl rfl dX5_become_6 ?_
  refine lv_iconst (v := (0 : Int32)) hx hb dX5_become_9 (by decide) ?_
  refine lv_bipush (v := (8 : Int32)) hx hb dX5_become_10 (by decide) ?_
  refine m_copyi (ws' := [(h0, .inr (4, oX5 r0 I_0_size)), ((r0 0), .inl (cI, 8, .inl (va_cpy A_1_0_kinds A_0_0_kinds ((0 : Int32)).toNatClampNeg ((0 : Int32)).toNatClampNeg ((8 : Int32)).toNatClampNeg))), ((r0 1), .inl (cI, 8, .inl A_0_1_amounts)), (h1, .inr (4, oX5 r1 I_1_size)), ((r1 0), .inl (cI, 8, .inl A_1_0_kinds)), ((r1 1), .inl (cI, 8, .inl A_1_1_amounts))]) C0 hM hl.1 kw_X5_become_2 kw_X5_become_3 kw_X5_become_4 kw_X5_become_5 4 1 rfl rfl (by decide) (Nat.le_of_ble_eq_true rfl) (Nat.le_of_ble_eq_true rfl) rfl dX5_become_12 (fun H locs hM => ?_)
  refine lv_aload_n hx hb dX5_become_15 rfl (lv_at hl 1 rfl) ?_
  refine m_get (C := RX5) (T := TX5) (N := 3) (ci := 4) (ref := "LoweredPowers$Plan") (v := .ref (r1 1)) C0 hM 3 rfl rfl kt_X5_become_X5 1 (by decide) kw_X5_become_6 rfl rfl dX5_become_16 ?_
  refine lv_iconst (v := (0 : Int32)) hx hb dX5_become_19 (by decide) ?_
  refine lv_aload_n hx hb dX5_become_20 rfl (lv_at hl 0 rfl) ?_
  refine m_get (C := RX5) (T := TX5) (N := 3) (ci := 4) (ref := "LoweredPowers$Plan") (v := .ref (r0 1)) C0 hM 0 rfl rfl kt_X5_become_X5 1 (by decide) kw_X5_become_6 rfl rfl dX5_become_21 ?_
  refine lv_iconst (v := (0 : Int32)) hx hb dX5_become_24 (by decide) ?_
  refine lv_bipush (v := (8 : Int32)) hx hb dX5_become_25 (by decide) ?_
  refine m_copyi (ws' := [(h0, .inr (4, oX5 r0 I_0_size)), ((r0 0), .inl (cI, 8, .inl (va_cpy A_1_0_kinds A_0_0_kinds ((0 : Int32)).toNatClampNeg ((0 : Int32)).toNatClampNeg ((8 : Int32)).toNatClampNeg))), ((r0 1), .inl (cI, 8, .inl (va_cpy A_1_1_amounts A_0_1_amounts ((0 : Int32)).toNatClampNeg ((0 : Int32)).toNatClampNeg ((8 : Int32)).toNatClampNeg))), (h1, .inr (4, oX5 r1 I_1_size)), ((r1 0), .inl (cI, 8, .inl A_1_0_kinds)), ((r1 1), .inl (cI, 8, .inl A_1_1_amounts))]) C0 hM hl.1 kw_X5_become_2 kw_X5_become_3 kw_X5_become_4 kw_X5_become_5 5 2 rfl rfl (by decide) (Nat.le_of_ble_eq_true rfl) (Nat.le_of_ble_eq_true rfl) rfl dX5_become_27 (fun H locs hM => ?_)
  refine lv_aload_n hx hb dX5_become_30 rfl (lv_at hl 0 rfl) ?_
  refine lv_aload_n hx hb dX5_become_31 rfl (lv_at hl 1 rfl) ?_
  refine m_get (C := RX5) (T := TX5) (N := 3) (ci := 4) (ref := "LoweredPowers$Plan") (v := .int I_1_size) C0 hM 3 rfl rfl kt_X5_become_X5 2 (by decide) kw_X5_become_7 rfl rfl dX5_become_32 ?_
  refine m_put (ws' := [(h0, .inr (4, oX5 r0 I_1_size)), ((r0 0), .inl (cI, 8, .inl (va_cpy A_1_0_kinds A_0_0_kinds ((0 : Int32)).toNatClampNeg ((0 : Int32)).toNatClampNeg ((8 : Int32)).toNatClampNeg))), ((r0 1), .inl (cI, 8, .inl (va_cpy A_1_1_amounts A_0_1_amounts ((0 : Int32)).toNatClampNeg ((0 : Int32)).toNatClampNeg ((8 : Int32)).toNatClampNeg))), (h1, .inr (4, oX5 r1 I_1_size)), ((r1 0), .inl (cI, 8, .inl A_1_0_kinds)), ((r1 1), .inl (cI, 8, .inl A_1_1_amounts))]) (C := RX5) (T := TX5) (N := 3) (ci := 4) (ref := "LoweredPowers$Plan") (v := .int I_1_size) C0 hM 0 rfl rfl kt_X5_become_X5 tyX5 tyX5_ok nmX5 2 (by decide) kw_X5_become_7 rfl rfl rfl rfl (Nat.le_of_ble_eq_true rfl) rfl dX5_become_35 (fun H locs hM => ?_)
  subst hsz; subst hA; subst hQ
  exact m_vret C0 hr hM (I_1_size, (va_cpy A_1_0_kinds A_0_0_kinds ((0 : Int32)).toNatClampNeg ((0 : Int32)).toNatClampNeg ((8 : Int32)).toNatClampNeg), (va_cpy A_1_1_amounts A_0_1_amounts ((0 : Int32)).toNatClampNeg ((0 : Int32)).toNatClampNeg ((8 : Int32)).toNatClampNeg)) h rfl dX5_become_38
abbrev rm_X5_turn : Room := { frames := 0, cells := 0, slots := 0, locals := 0 }
set_option maxRecDepth 100000 in
set_option maxHeartbeats 4000000 in
theorem ct_X5_turn (l : Launch) (D : va_G) (cI cJ cZ : ClassId) (h0 : Nat) (A0 : (Nat → Int32)) (sz : Nat) (K : (Nat → Int32) → Prop) (h : wp_X5_turn A0 K) : Met l yX5_turn wsX5_turn rm_X5_turn (va_Pc [.ref h0] (WX D cI cJ cZ [(h0, .inl (cI, 5, .inl A0))] sz)) (va_Qv (fun (u : (Nat → Int32)) => K u) (fun (u : (Nat → Int32)) t => WY D (va_A [(h0, .inl (cI, 5, .inl A0))] sz) [(h0, .inl (cI, 5, .inl u))] t) (va_A [(h0, .inl (cI, 5, .inl A0))] sz)) 0 0 (va_A [(h0, .inl (cI, 5, .inl A0))] sz) := by
  refine m_met (own := RX5) (cc := cX5_turn) (maxL := 3) (ret := none) [.ref h0] [(0, .ref h0)] (by decide) rfl rfl (Nat.le_of_ble_eq_true rfl) rfl ?_
  intro p e s m args below meth c Q A hQ hA C0 hr hnm hsz hM ls hl
  have hx := C0.1
  have hb := C0.2.1
  have hown := C0.2.2.2.1
  have lq2 : ∀ (k2 : Nat) (x1 : Int32) (A0 : (Nat → Int32)) (H : Heap) (locs : List Loc) (ls : Array Slot) , lp_X5_turn_2  K k2 x1 A0 → MW D A s.heap [(h0, .inl (cI, 5, .inl A0))] H locs → lv_has ls 3 [(0, .ref h0), (1, .int x1)] → W p l e rm_X5_turn s m args below meth c H locs 0 0 Q (F0 m 2 ls []) := by
    intro k2
    induction k2 with
    | zero =>
      intro x1 A0 H locs ls h
      unfold lp_X5_turn_2 at h
      exact h.elim
    | succ k2 ih2 =>
      intro x1 A0 H locs ls h hM hl
      unfold lp_X5_turn_2 at h
      refine lv_iload_n hx hb dX5_turn_2 rfl (lv_at hl 1 rfl) ?_
      refine lv_iconst (v := (4 : Int32)) hx hb dX5_turn_3 (by decide) ?_
      refine lv_iload_n hx hb dX5_turn_4 rfl (lv_at hl 1 rfl) ?_
      refine lv_isub hx hb dX5_turn_5 ?_
      refine lv_icmp_ge (tgt := 33) hx hb dX5_turn_6 (by decide) (fun hq => ?_) (fun hq => ?_)
      · have h := h.1 hq
        subst hsz; subst hA; subst hQ
        exact m_vret C0 hr hM A0 h rfl dX5_turn_33
      · have h := h.2 hq
        refine lv_aload_n hx hb dX5_turn_9 rfl (lv_at hl 0 rfl) ?_
        refine lv_iload_n hx hb dX5_turn_10 rfl (lv_at hl 1 rfl) ?_
        obtain ⟨hc1, h⟩ := h
        refine m_iald C0 hM 0 rfl hc1 dX5_turn_11 ?_
        refine lv_topi (fun y2 ey2 => ?_)
        have h := h y2 ey2
        refine lv_istore_n (lv' := [(2, .int y2), (0, .ref h0), (1, .int x1)]) hx hb dX5_turn_12 rfl hl (by decide) rfl (fun ls hl => ?_)
        refine lv_aload_n hx hb dX5_turn_13 rfl (lv_at hl 1 rfl) ?_
        refine lv_iload_n hx hb dX5_turn_14 rfl (lv_at hl 2 rfl) ?_
        refine lv_aload_n hx hb dX5_turn_15 rfl (lv_at hl 1 rfl) ?_
        refine lv_iconst (v := (4 : Int32)) hx hb dX5_turn_16 (by decide) ?_
        refine lv_iload_n hx hb dX5_turn_17 rfl (lv_at hl 2 rfl) ?_
        refine lv_isub hx hb dX5_turn_18 ?_
        obtain ⟨hc3, h⟩ := h
        refine m_iald C0 hM 0 rfl hc3 dX5_turn_19 ?_
        refine lv_topi (fun y4 ey4 => ?_)
        have h := h y4 ey4
        refine m_iast (ws' := [(h0, .inl (cI, 5, .inl (upd A0 (x1).toNatClampNeg y4)))]) C0 hM 0 rfl hc1 rfl dX5_turn_20 (fun H locs hM => ?_)
        refine lv_aload_n hx hb dX5_turn_21 rfl (lv_at hl 1 rfl) ?_
        refine lv_iconst (v := (4 : Int32)) hx hb dX5_turn_22 (by decide) ?_
        refine lv_iload_n hx hb dX5_turn_23 rfl (lv_at hl 2 rfl) ?_
        refine lv_isub hx hb dX5_turn_24 ?_
        refine lv_iload_n hx hb dX5_turn_25 rfl (lv_at hl 0 rfl) ?_
        refine m_iast (ws' := [(h0, .inl (cI, 5, .inl (upd (upd A0 (x1).toNatClampNeg y4) (((4 : Int32) - x1)).toNatClampNeg y2)))]) C0 hM 0 rfl hc3 rfl dX5_turn_26 (fun H locs hM => ?_)
        refine lv_iinc (v := (x1 + (1 : Int32))) (lv' := [(1, .int (x1 + (1 : Int32))), (2, .int y2), (0, .ref h0)]) hx hb dX5_turn_27 hl (k := 2) rfl rfl (by decide) rfl (fun ls hl => ?_)
        refine lv_goto (tgt := 2) hx hb dX5_turn_30 (by decide) ?_
        exact ih2 _ _ _ _ _ h hM (lv_sub hl [2, 0] rfl)
  unfold wp_X5_turn at h
  refine lv_iconst (v := (0 : Int32)) hx hb dX5_turn_0 (by decide) ?_
  refine lv_istore_n (lv' := [(1, .int (0 : Int32)), (0, .ref h0)]) hx hb dX5_turn_1 rfl hl (by decide) rfl (fun ls hl => ?_)
  obtain ⟨k0, h⟩ := h
  exact lq2 k0 _ _ _ _ _ h hM (lv_sub hl [1, 0] rfl)
abbrev rm_X5_stretch : Room := { frames := 1, cells := 0, slots := 0, locals := 22 }
set_option maxRecDepth 100000 in
set_option maxHeartbeats 4000000 in
theorem ct_X5_stretch (l : Launch) (D : va_G) (cI cJ cZ : ClassId) (h0 : Nat) (A0 : (Nat → Int32)) (x1 : Int32) (x2 : Int32) (sz : Nat) (K : (Nat → Int32) → Prop) (h : wp_X5_stretch x1 x2 A0 K) : Met l yX5_stretch wsX5_stretch rm_X5_stretch (va_Pc [.ref h0, .int x1, .int x2] (WX D cI cJ cZ [(h0, .inl (cI, 5, .inl A0))] sz)) (va_Qv (fun (u : (Nat → Int32)) => K u) (fun (u : (Nat → Int32)) t => WY D (va_A [(h0, .inl (cI, 5, .inl A0))] sz) [(h0, .inl (cI, 5, .inl u))] t) (va_A [(h0, .inl (cI, 5, .inl A0))] sz)) 0 0 (va_A [(h0, .inl (cI, 5, .inl A0))] sz) := by
  refine m_met (own := RX5) (cc := cX5_stretch) (maxL := 5) (ret := none) [.ref h0, .int x1, .int x2] [(0, .ref h0), (1, .int x1), (2, .int x2)] (by decide) rfl rfl (Nat.le_of_ble_eq_true rfl) rfl ?_
  intro p e s m args below meth c Q A hQ hA C0 hr hnm hsz hM ls hl
  have hx := C0.1
  have hb := C0.2.1
  have hown := C0.2.2.2.1
  have lq5 : ∀ (k5 : Nat) (x3 : Int32) (x4 : Int32) (A0 : (Nat → Int32)) (H : Heap) (locs : List Loc) (ls : Array Slot) , lp_X5_stretch_5 x1 x2 K k5 x3 x4 A0 → MW D A s.heap [(h0, .inl (cI, 5, .inl A0))] H locs → lv_has ls 5 [(0, .ref h0), (2, .int x2), (3, .int x3), (4, .int x4)] → W p l e rm_X5_stretch s m args below meth c H locs 0 0 Q (F0 m 5 ls []) := by
    intro k5
    induction k5 with
    | zero =>
      intro x3 x4 A0 H locs ls h
      unfold lp_X5_stretch_5 at h
      exact h.elim
    | succ k5 ih5 =>
      intro x3 x4 A0 H locs ls h hM hl
      unfold lp_X5_stretch_5 at h
      refine lv_iload hx hb dX5_stretch_5 (lv_at hl 3 rfl) ?_
      refine lv_iconst (v := (4 : Int32)) hx hb dX5_stretch_7 (by decide) ?_
      refine lv_icmp_gt (tgt := 41) hx hb dX5_stretch_8 (by decide) (fun hq => ?_) (fun hq => ?_)
      · have h := h.1 hq
        subst hsz; subst hA; subst hQ
        exact m_vret C0 hr hM A0 h rfl dX5_stretch_41
      · have h := h.2 hq
        refine lv_aload_n hx hb dX5_stretch_11 rfl (lv_at hl 0 rfl) ?_
        refine lv_iload hx hb dX5_stretch_12 (lv_at hl 3 rfl) ?_
        refine lv_iload_n hx hb dX5_stretch_14 rfl (lv_at hl 2 rfl) ?_
        refine lv_i2l hx hb dX5_stretch_15 rfl ?_
        refine lv_aload_n hx hb dX5_stretch_16 rfl (lv_at hl 0 rfl) ?_
        refine lv_iload hx hb dX5_stretch_17 (lv_at hl 3 rfl) ?_
        obtain ⟨hc1, h⟩ := h
        refine m_iald C0 hM 0 rfl hc1 dX5_stretch_19 ?_
        refine lv_i2l hx hb dX5_stretch_20 rfl ?_
        refine lv_lmul hx hb dX5_stretch_21 ?_
        refine m_calli (wc := []) C0 hM [] rfl (m_runS (wc := []) (As := [.long ((x3.toInt64) * ((A0 (x4).toNatClampNeg).toInt64))]) (rest := [.int x4, .ref h0]) C0 hM (ct_X3_fold l D cI cJ cZ ((x3.toInt64) * ((A0 (x4).toNatClampNeg).toInt64)) _ _ h) [] rfl (by decide) gX5_stretch_X3_fold rfl rfl rfl hd_X3_fold ⟨Nat.le_of_ble_eq_true rfl, Nat.le_of_ble_eq_true rfl⟩ rfl hl.1 rfl (Nat.le_of_ble_eq_true rfl) dX5_stretch_22 ⟨Nat.le_of_ble_eq_true rfl, Nat.le_of_ble_eq_true rfl⟩) (fun _ => [(h0, .inl (cI, 5, .inl A0))]) (fun _ => rfl) (fun _ => rfl) (fun y2 _ H locs h hM => ?_)
        refine m_iast (ws' := [(h0, .inl (cI, 5, .inl (upd A0 (x4).toNatClampNeg y2)))]) C0 hM 0 rfl hc1 rfl dX5_stretch_25 (fun H locs hM => ?_)
        refine lv_iload_n hx hb dX5_stretch_26 rfl (lv_at hl 2 rfl) ?_
        refine lv_i2l hx hb dX5_stretch_27 rfl ?_
        refine lv_iload_n hx hb dX5_stretch_28 rfl (lv_at hl 1 rfl) ?_
        refine lv_i2l hx hb dX5_stretch_29 rfl ?_
        refine lv_lmul hx hb dX5_stretch_30 ?_
        refine m_calli (wc := []) C0 hM [] rfl (m_runS (wc := []) (As := [.long ((x3.toInt64) * (x2.toInt64))]) (rest := []) C0 hM (ct_X3_fold l D cI cJ cZ ((x3.toInt64) * (x2.toInt64)) _ _ h) [] rfl (by decide) gX5_stretch_X3_fold rfl rfl rfl hd_X3_fold ⟨Nat.le_of_ble_eq_true rfl, Nat.le_of_ble_eq_true rfl⟩ rfl hl.1 rfl (Nat.le_of_ble_eq_true rfl) dX5_stretch_31 ⟨Nat.le_of_ble_eq_true rfl, Nat.le_of_ble_eq_true rfl⟩) (fun _ => [(h0, .inl (cI, 5, .inl (upd A0 (x4).toNatClampNeg y2)))]) (fun _ => rfl) (fun _ => rfl) (fun y3 _ H locs h hM => ?_)
        refine lv_istore_n (lv' := [(3, .int y3), (0, .ref h0), (2, .int x2), (4, .int x4)]) hx hb dX5_stretch_34 rfl hl (by decide) rfl (fun ls hl => ?_)
        refine lv_iinc (v := (x4 + (1 : Int32))) (lv' := [(4, .int (x4 + (1 : Int32))), (3, .int y3), (0, .ref h0), (2, .int x2)]) hx hb dX5_stretch_35 hl (k := 3) rfl rfl (by decide) rfl (fun ls hl => ?_)
        refine lv_goto (tgt := 5) hx hb dX5_stretch_38 (by decide) ?_
        exact ih5 _ _ _ _ _ _ h hM (lv_sub hl [2, 3, 1, 0] rfl)
  unfold wp_X5_stretch at h
  refine lv_iload_n hx hb dX5_stretch_0 rfl (lv_at hl 1 rfl) ?_
  refine lv_istore_n (lv' := [(3, .int x1), (0, .ref h0), (1, .int x1), (2, .int x2)]) hx hb dX5_stretch_1 rfl hl (by decide) rfl (fun ls hl => ?_)
  refine lv_iconst (v := (0 : Int32)) hx hb dX5_stretch_2 (by decide) ?_
  refine lv_istore (lv' := [(4, .int (0 : Int32)), (3, .int x1), (0, .ref h0), (1, .int x1), (2, .int x2)]) hx hb dX5_stretch_3 hl (by decide) rfl (fun ls hl => ?_)
  obtain ⟨k0, h⟩ := h
  exact lq5 k0 _ _ _ _ _ _ h hM (lv_sub hl [2, 4, 1, 0] rfl)
abbrev rm_X5_move : Room := { frames := 1, cells := 0, slots := 0, locals := 22 }
set_option maxRecDepth 100000 in
set_option maxHeartbeats 4000000 in
theorem ct_X5_move (l : Launch) (D : va_G) (cI cJ cZ : ClassId) (h0 : Nat) (A0 : (Nat → Int32)) (x1 : Int32) (sz : Nat) (K : (Nat → Int32) → Prop) (h : wp_X5_move x1 A0 K) : Met l yX5_move wsX5_move rm_X5_move (va_Pc [.ref h0, .int x1] (WX D cI cJ cZ [(h0, .inl (cI, 5, .inl A0))] sz)) (va_Qv (fun (u : (Nat → Int32)) => K u) (fun (u : (Nat → Int32)) t => WY D (va_A [(h0, .inl (cI, 5, .inl A0))] sz) [(h0, .inl (cI, 5, .inl u))] t) (va_A [(h0, .inl (cI, 5, .inl A0))] sz)) 0 0 (va_A [(h0, .inl (cI, 5, .inl A0))] sz) := by
  refine m_met (own := RX5) (cc := cX5_move) (maxL := 4) (ret := none) [.ref h0, .int x1] [(0, .ref h0), (1, .int x1)] (by decide) rfl rfl (Nat.le_of_ble_eq_true rfl) rfl ?_
  intro p e s m args below meth c Q A hQ hA C0 hr hnm hsz hM ls hl
  have hx := C0.1
  have hb := C0.2.1
  have hown := C0.2.2.2.1
  have lq2 : ∀ (k2 : Nat) (x2 : Int32) (A0 : (Nat → Int32)) (H : Heap) (locs : List Loc) (ls : Array Slot) , lp_X5_move_2 x1 K k2 x2 A0 → MW D A s.heap [(h0, .inl (cI, 5, .inl A0))] H locs → lv_has ls 4 [(0, .ref h0), (1, .int x1), (2, .int x2)] → W p l e rm_X5_move s m args below meth c H locs 0 0 Q (F0 m 2 ls []) := by
    intro k2
    induction k2 with
    | zero =>
      intro x2 A0 H locs ls h
      unfold lp_X5_move_2 at h
      exact h.elim
    | succ k2 ih2 =>
      have jq40 : ∀ (x2 : Int32) (A0 : (Nat → Int32)) (H : Heap) (locs : List Loc) (ls : Array Slot) , jn_X5_move_40 x1 (fun x2 A0 => lp_X5_move_2 x1 K k2 x2 A0) K x2 A0 → MW D A s.heap [(h0, .inl (cI, 5, .inl A0))] H locs → lv_has ls 4 [(0, .ref h0), (1, .int x1), (2, .int x2)] → W p l e rm_X5_move s m args below meth c H locs 0 0 Q (F0 m 40 ls []) := by
        intro x2 A0 H locs ls h hM hl
        unfold jn_X5_move_40 at h
        refine lv_iinc (v := (x2 + (1 : Int32))) (lv' := [(2, .int (x2 + (1 : Int32))), (0, .ref h0), (1, .int x1)]) hx hb dX5_move_40 hl (k := 2) rfl rfl (by decide) rfl (fun ls hl => ?_)
        refine lv_goto (tgt := 2) hx hb dX5_move_43 (by decide) ?_
        exact ih2 _ _ _ _ _ h hM (lv_sub hl [1, 2, 0] rfl)
      have lq9 : ∀ (k9 : Nat) (x2 : Int32) (x3 : Int32) (A0 : (Nat → Int32)) (H : Heap) (locs : List Loc) (ls : Array Slot) , lp_X5_move_9 x1 (jn_X5_move_40 x1 (fun x2 A0 => lp_X5_move_2 x1 K k2 x2 A0) K) K k9 x2 x3 A0 → MW D A s.heap [(h0, .inl (cI, 5, .inl A0))] H locs → lv_has ls 4 [(0, .ref h0), (1, .int x1), (2, .int x2), (3, .int x3)] → W p l e rm_X5_move s m args below meth c H locs 0 0 Q (F0 m 9 ls []) := by
        intro k9
        induction k9 with
        | zero =>
          intro x2 x3 A0 H locs ls h
          unfold lp_X5_move_9 at h
          exact h.elim
        | succ k9 ih9 =>
          intro x2 x3 A0 H locs ls h hM hl
          unfold lp_X5_move_9 at h
          refine lv_iload_n hx hb dX5_move_9 rfl (lv_at hl 3 rfl) ?_
          refine lv_iload_n hx hb dX5_move_10 rfl (lv_at hl 2 rfl) ?_
          refine lv_icmp_lt (tgt := 40) hx hb dX5_move_11 (by decide) (fun hq => ?_) (fun hq => ?_)
          · have h := h.1 hq
            exact jq40 _ _ _ _ _ h hM (lv_sub hl [0, 1, 2] rfl)
          · have h := h.2 hq
            refine lv_aload_n hx hb dX5_move_14 rfl (lv_at hl 0 rfl) ?_
            refine lv_iload_n hx hb dX5_move_15 rfl (lv_at hl 3 rfl) ?_
            refine lv_aload_n hx hb dX5_move_16 rfl (lv_at hl 0 rfl) ?_
            refine lv_iload_n hx hb dX5_move_17 rfl (lv_at hl 3 rfl) ?_
            obtain ⟨hc1, h⟩ := h
            refine m_iald C0 hM 0 rfl hc1 dX5_move_18 ?_
            refine lv_i2l hx hb dX5_move_19 rfl ?_
            refine lv_iload_n hx hb dX5_move_20 rfl (lv_at hl 1 rfl) ?_
            refine lv_i2l hx hb dX5_move_21 rfl ?_
            refine lv_aload_n hx hb dX5_move_22 rfl (lv_at hl 0 rfl) ?_
            refine lv_iload_n hx hb dX5_move_23 rfl (lv_at hl 3 rfl) ?_
            refine lv_iconst (v := (1 : Int32)) hx hb dX5_move_24 (by decide) ?_
            refine lv_iadd hx hb dX5_move_25 ?_
            obtain ⟨hc2, h⟩ := h
            refine m_iald C0 hM 0 rfl hc2 dX5_move_26 ?_
            refine lv_i2l hx hb dX5_move_27 rfl ?_
            refine lv_lmul hx hb dX5_move_28 ?_
            refine lv_ladd hx hb dX5_move_29 ?_
            refine m_calli (wc := []) C0 hM [] rfl (m_runS (wc := []) (As := [.long (((A0 (x3).toNatClampNeg).toInt64) + ((x1.toInt64) * ((A0 ((x3 + (1 : Int32))).toNatClampNeg).toInt64)))]) (rest := [.int x3, .ref h0]) C0 hM (ct_X3_fold l D cI cJ cZ (((A0 (x3).toNatClampNeg).toInt64) + ((x1.toInt64) * ((A0 ((x3 + (1 : Int32))).toNatClampNeg).toInt64))) _ _ h) [] rfl (by decide) gX5_move_X3_fold rfl rfl rfl hd_X3_fold ⟨Nat.le_of_ble_eq_true rfl, Nat.le_of_ble_eq_true rfl⟩ rfl hl.1 rfl (Nat.le_of_ble_eq_true rfl) dX5_move_30 ⟨Nat.le_of_ble_eq_true rfl, Nat.le_of_ble_eq_true rfl⟩) (fun _ => [(h0, .inl (cI, 5, .inl A0))]) (fun _ => rfl) (fun _ => rfl) (fun y3 _ H locs h hM => ?_)
            refine m_iast (ws' := [(h0, .inl (cI, 5, .inl (upd A0 (x3).toNatClampNeg y3)))]) C0 hM 0 rfl hc1 rfl dX5_move_33 (fun H locs hM => ?_)
            refine lv_iinc (v := (x3 + (-1 : Int32))) (lv' := [(3, .int (x3 + (-1 : Int32))), (0, .ref h0), (1, .int x1), (2, .int x2)]) hx hb dX5_move_34 hl (k := 3) rfl rfl (by decide) rfl (fun ls hl => ?_)
            refine lv_goto (tgt := 9) hx hb dX5_move_37 (by decide) ?_
            exact ih9 _ _ _ _ _ _ h hM (lv_sub hl [1, 2, 3, 0] rfl)
      intro x2 A0 H locs ls h hM hl
      unfold lp_X5_move_2 at h
      refine lv_iload_n hx hb dX5_move_2 rfl (lv_at hl 2 rfl) ?_
      refine lv_iconst (v := (4 : Int32)) hx hb dX5_move_3 (by decide) ?_
      refine lv_icmp_ge (tgt := 46) hx hb dX5_move_4 (by decide) (fun hq => ?_) (fun hq => ?_)
      · have h := h.1 hq
        subst hsz; subst hA; subst hQ
        exact m_vret C0 hr hM A0 h rfl dX5_move_46
      · have h := h.2 hq
        refine lv_iconst (v := (3 : Int32)) hx hb dX5_move_7 (by decide) ?_
        refine lv_istore_n (lv' := [(3, .int (3 : Int32)), (0, .ref h0), (1, .int x1), (2, .int x2)]) hx hb dX5_move_8 rfl hl (by decide) rfl (fun ls hl => ?_)
        obtain ⟨k0, h⟩ := h
        exact lq9 k0 _ _ _ _ _ _ h hM (lv_sub hl [1, 2, 3, 0] rfl)
  unfold wp_X5_move at h
  refine lv_iconst (v := (0 : Int32)) hx hb dX5_move_0 (by decide) ?_
  refine lv_istore_n (lv' := [(2, .int (0 : Int32)), (0, .ref h0), (1, .int x1)]) hx hb dX5_move_1 rfl hl (by decide) rfl (fun ls hl => ?_)
  obtain ⟨k0, h⟩ := h
  exact lq2 k0 _ _ _ _ _ h hM (lv_sub hl [1, 2, 0] rfl)
abbrev rm_X5_changeOnce : Room := { frames := 2, cells := 0, slots := 0, locals := 46 }
set_option maxRecDepth 100000 in
set_option maxHeartbeats 4000000 in
theorem ct_X5_changeOnce (l : Launch) (D : va_G) (cI cJ cZ : ClassId) (h0 : Nat) (A0 : (Nat → Int32)) (x1 : Int32) (x2 : Int32) (sz : Nat) (K : (Nat → Int32) → Prop) (h : wp_X5_changeOnce x1 x2 A0 K) : Met l yX5_changeOnce wsX5_changeOnce rm_X5_changeOnce (va_Pc [.ref h0, .int x1, .int x2] (WX D cI cJ cZ [(h0, .inl (cI, 5, .inl A0))] sz)) (va_Qv (fun (u : (Nat → Int32)) => K u) (fun (u : (Nat → Int32)) t => WY D (va_A [(h0, .inl (cI, 5, .inl A0))] sz) [(h0, .inl (cI, 5, .inl u))] t) (va_A [(h0, .inl (cI, 5, .inl A0))] sz)) 0 0 (va_A [(h0, .inl (cI, 5, .inl A0))] sz) := by
  refine m_met (own := RX5) (cc := cX5_changeOnce) (maxL := 3) (ret := none) [.ref h0, .int x1, .int x2] [(0, .ref h0), (1, .int x1), (2, .int x2)] (by decide) rfl rfl (Nat.le_of_ble_eq_true rfl) rfl ?_
  intro p e s m args below meth c Q A hQ hA C0 hr hnm hsz hM ls hl
  have hx := C0.1
  have hb := C0.2.1
  have hown := C0.2.2.2.1
  unfold wp_X5_changeOnce at h
  refine lv_iload_n hx hb dX5_changeOnce_0 rfl (lv_at hl 1 rfl) ?_
  by_cases hs0 : x1 = (0 : Int32)
  · refine lv_tableIn (off := 31) (tgt := 32) hx hb dX5_changeOnce_1 (by rw [hs0]; decide) (by rw [hs0]; decide) (by rw [hs0]; rfl) (by decide) ?_
    have h := h.1 hs0
    refine lv_aload_n hx hb dX5_changeOnce_32 rfl (lv_at hl 0 rfl) ?_
    refine lv_iload_n hx hb dX5_changeOnce_33 rfl (lv_at hl 2 rfl) ?_
    refine m_callv (wc := [(h0, .inl (cI, 5, .inl A0))]) C0 hM [0] rfl (m_runS (wc := [(h0, .inl (cI, 5, .inl A0))]) (As := [.ref h0, .int x2]) (rest := []) C0 hM (ct_X5_move l D cI cJ cZ h0 A0 x2 _ _ h) [0] rfl (by decide) gX5_changeOnce_X5_move rfl rfl rfl hd_X5_move ⟨Nat.le_of_ble_eq_true rfl, Nat.le_of_ble_eq_true rfl⟩ rfl hl.1 rfl (Nat.le_of_ble_eq_true rfl) dX5_changeOnce_34 ⟨Nat.le_of_ble_eq_true rfl, Nat.le_of_ble_eq_true rfl⟩) (fun u => [(h0, .inl (cI, 5, .inl u))]) (fun _ => rfl) (fun _ => rfl) (fun b1 H locs h hM => ?_)
    refine lv_goto (tgt := 69) hx hb dX5_changeOnce_37 (by decide) ?_
    subst hsz; subst hA; subst hQ
    exact m_vret C0 hr hM b1 h rfl dX5_changeOnce_69
  replace h := h.2
  by_cases hs1 : x1 = (1 : Int32)
  · refine lv_tableIn (off := 39) (tgt := 40) hx hb dX5_changeOnce_1 (by rw [hs1]; decide) (by rw [hs1]; decide) (by rw [hs1]; rfl) (by decide) ?_
    have h := h.1 hs1
    refine lv_aload_n hx hb dX5_changeOnce_40 rfl (lv_at hl 0 rfl) ?_
    refine lv_iload_n hx hb dX5_changeOnce_41 rfl (lv_at hl 2 rfl) ?_
    refine lv_iconst (v := (1 : Int32)) hx hb dX5_changeOnce_42 (by decide) ?_
    refine m_callv (wc := [(h0, .inl (cI, 5, .inl A0))]) C0 hM [0] rfl (m_runS (wc := [(h0, .inl (cI, 5, .inl A0))]) (As := [.ref h0, .int x2, .int (1 : Int32)]) (rest := []) C0 hM (ct_X5_stretch l D cI cJ cZ h0 A0 x2 (1 : Int32) _ _ h) [0] rfl (by decide) gX5_changeOnce_X5_stretch rfl rfl rfl hd_X5_stretch ⟨Nat.le_of_ble_eq_true rfl, Nat.le_of_ble_eq_true rfl⟩ rfl hl.1 rfl (Nat.le_of_ble_eq_true rfl) dX5_changeOnce_43 ⟨Nat.le_of_ble_eq_true rfl, Nat.le_of_ble_eq_true rfl⟩) (fun u => [(h0, .inl (cI, 5, .inl u))]) (fun _ => rfl) (fun _ => rfl) (fun b2 H locs h hM => ?_)
    refine lv_goto (tgt := 69) hx hb dX5_changeOnce_46 (by decide) ?_
    subst hsz; subst hA; subst hQ
    exact m_vret C0 hr hM b2 h rfl dX5_changeOnce_69
  replace h := h.2
  by_cases hs2 : x1 = (2 : Int32)
  · refine lv_tableIn (off := 48) (tgt := 49) hx hb dX5_changeOnce_1 (by rw [hs2]; decide) (by rw [hs2]; decide) (by rw [hs2]; rfl) (by decide) ?_
    have h := h.1 hs2
    refine lv_aload_n hx hb dX5_changeOnce_49 rfl (lv_at hl 0 rfl) ?_
    refine m_callv (wc := [(h0, .inl (cI, 5, .inl A0))]) C0 hM [0] rfl (m_runS (wc := [(h0, .inl (cI, 5, .inl A0))]) (As := [.ref h0]) (rest := []) C0 hM (ct_X5_turn l D cI cJ cZ h0 A0 _ _ h) [0] rfl (by decide) gX5_changeOnce_X5_turn rfl rfl rfl hd_X5_turn ⟨Nat.le_of_ble_eq_true rfl, Nat.le_of_ble_eq_true rfl⟩ rfl hl.1 rfl (Nat.le_of_ble_eq_true rfl) dX5_changeOnce_50 ⟨Nat.le_of_ble_eq_true rfl, Nat.le_of_ble_eq_true rfl⟩) (fun u => [(h0, .inl (cI, 5, .inl u))]) (fun _ => rfl) (fun _ => rfl) (fun b3 H locs h hM => ?_)
    refine lv_goto (tgt := 69) hx hb dX5_changeOnce_53 (by decide) ?_
    subst hsz; subst hA; subst hQ
    exact m_vret C0 hr hM b3 h rfl dX5_changeOnce_69
  replace h := h.2
  by_cases hs3 : x1 = (3 : Int32)
  · refine lv_tableIn (off := 55) (tgt := 56) hx hb dX5_changeOnce_1 (by rw [hs3]; decide) (by rw [hs3]; decide) (by rw [hs3]; rfl) (by decide) ?_
    have h := h.1 hs3
    refine lv_aload_n hx hb dX5_changeOnce_56 rfl (lv_at hl 0 rfl) ?_
    refine m_callv (wc := [(h0, .inl (cI, 5, .inl A0))]) C0 hM [0] rfl (m_runS (wc := [(h0, .inl (cI, 5, .inl A0))]) (As := [.ref h0]) (rest := []) C0 hM (ct_X3_derive l D cI cJ cZ h0 5 A0 _ _ h) [0] rfl (by decide) gX5_changeOnce_X3_derive rfl rfl rfl hd_X3_derive ⟨Nat.le_of_ble_eq_true rfl, Nat.le_of_ble_eq_true rfl⟩ rfl hl.1 rfl (Nat.le_of_ble_eq_true rfl) dX5_changeOnce_57 ⟨Nat.le_of_ble_eq_true rfl, Nat.le_of_ble_eq_true rfl⟩) (fun u => [(h0, .inl (cI, 5, .inl u))]) (fun _ => rfl) (fun _ => rfl) (fun b4 H locs h hM => ?_)
    refine lv_goto (tgt := 69) hx hb dX5_changeOnce_60 (by decide) ?_
    subst hsz; subst hA; subst hQ
    exact m_vret C0 hr hM b4 h rfl dX5_changeOnce_69
  replace h := h.2
  replace h := h hs0 hs1 hs2 hs3
  have ehs0 : x1.toInt ≠ 0 := sw_ne hs0
  have ehs1 : x1.toInt ≠ 1 := sw_ne hs1
  have ehs2 : x1.toInt ≠ 2 := sw_ne hs2
  have ehs3 : x1.toInt ≠ 3 := sw_ne hs3
  refine lv_tableOut (tgt := 63) hx hb dX5_changeOnce_1 (by omega) (by decide) ?_
  refine lv_aload_n hx hb dX5_changeOnce_63 rfl (lv_at hl 0 rfl) ?_
  refine lv_iconst (v := (1 : Int32)) hx hb dX5_changeOnce_64 (by decide) ?_
  refine lv_iload_n hx hb dX5_changeOnce_65 rfl (lv_at hl 2 rfl) ?_
  refine m_callv (wc := [(h0, .inl (cI, 5, .inl A0))]) C0 hM [0] rfl (m_runS (wc := [(h0, .inl (cI, 5, .inl A0))]) (As := [.ref h0, .int (1 : Int32), .int x2]) (rest := []) C0 hM (ct_X5_stretch l D cI cJ cZ h0 A0 (1 : Int32) x2 _ _ h) [0] rfl (by decide) gX5_changeOnce_X5_stretch rfl rfl rfl hd_X5_stretch ⟨Nat.le_of_ble_eq_true rfl, Nat.le_of_ble_eq_true rfl⟩ rfl hl.1 rfl (Nat.le_of_ble_eq_true rfl) dX5_changeOnce_66 ⟨Nat.le_of_ble_eq_true rfl, Nat.le_of_ble_eq_true rfl⟩) (fun u => [(h0, .inl (cI, 5, .inl u))]) (fun _ => rfl) (fun _ => rfl) (fun b5 H locs h hM => ?_)
  subst hsz; subst hA; subst hQ
  exact m_vret C0 hr hM b5 h rfl dX5_changeOnce_69
