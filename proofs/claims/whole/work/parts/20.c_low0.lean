theorem hd_X2_startDeriving : yX2_startDeriving.cls = RX2 ∧ yX2_startDeriving.cls ≠ "java/lang/invoke/MethodHandle" ∧ yX2_startDeriving.cls ≠ "java/lang/invoke/VarHandle" ∧ (parseMethodDescriptor yX2_startDeriving.desc).map (fun d => d.parameters.length) = some 0 := by decide +kernel
theorem hd_X2_deriveMore : yX2_deriveMore.cls = RX2 ∧ yX2_deriveMore.cls ≠ "java/lang/invoke/MethodHandle" ∧ yX2_deriveMore.cls ≠ "java/lang/invoke/VarHandle" ∧ (parseMethodDescriptor yX2_deriveMore.desc).map (fun d => d.parameters.length) = some 2 := by decide +kernel
theorem hd_X2_multiplyGrid : yX2_multiplyGrid.cls ≠ "java/lang/invoke/MethodHandle" ∧ yX2_multiplyGrid.cls ≠ "java/lang/invoke/VarHandle" ∧ (parseMethodDescriptor yX2_multiplyGrid.desc).map (fun d => d.parameters.length) = some 2 := by decide +kernel
theorem hd_X2_spread : yX2_spread.cls = RX2 ∧ yX2_spread.cls ≠ "java/lang/invoke/MethodHandle" ∧ yX2_spread.cls ≠ "java/lang/invoke/VarHandle" ∧ (parseMethodDescriptor yX2_spread.desc).map (fun d => d.parameters.length) = some 3 := by decide +kernel
theorem hd_X2_addTimes : yX2_addTimes.cls = RX2 ∧ yX2_addTimes.cls ≠ "java/lang/invoke/MethodHandle" ∧ yX2_addTimes.cls ≠ "java/lang/invoke/VarHandle" ∧ (parseMethodDescriptor yX2_addTimes.desc).map (fun d => d.parameters.length) = some 3 := by decide +kernel
theorem hd_X2_addShifted : yX2_addShifted.cls = RX2 ∧ yX2_addShifted.cls ≠ "java/lang/invoke/MethodHandle" ∧ yX2_addShifted.cls ≠ "java/lang/invoke/VarHandle" ∧ (parseMethodDescriptor yX2_addShifted.desc).map (fun d => d.parameters.length) = some 2 := by decide +kernel
theorem hd_X2_apply : yX2_apply.cls = RX2 ∧ yX2_apply.cls ≠ "java/lang/invoke/MethodHandle" ∧ yX2_apply.cls ≠ "java/lang/invoke/VarHandle" ∧ (parseMethodDescriptor yX2_apply.desc).map (fun d => d.parameters.length) = some 2 := by decide +kernel
theorem hd_X2_sumIsBTimesPower : yX2_sumIsBTimesPower.cls = RX2 ∧ yX2_sumIsBTimesPower.cls ≠ "java/lang/invoke/MethodHandle" ∧ yX2_sumIsBTimesPower.cls ≠ "java/lang/invoke/VarHandle" ∧ (parseMethodDescriptor yX2_sumIsBTimesPower.desc).map (fun d => d.parameters.length) = some 0 := by decide +kernel
theorem hd_X2_toPowerOfS : yX2_toPowerOfS.cls = RX2 ∧ yX2_toPowerOfS.cls ≠ "java/lang/invoke/MethodHandle" ∧ yX2_toPowerOfS.cls ≠ "java/lang/invoke/VarHandle" ∧ (parseMethodDescriptor yX2_toPowerOfS.desc).map (fun d => d.parameters.length) = some 2 := by decide +kernel
theorem hd_X2_factorOf : yX2_factorOf.cls ≠ "java/lang/invoke/MethodHandle" ∧ yX2_factorOf.cls ≠ "java/lang/invoke/VarHandle" ∧ (parseMethodDescriptor yX2_factorOf.desc).map (fun d => d.parameters.length) = some 4 := by decide +kernel
theorem hd_X2_addWhole : yX2_addWhole.cls = RX2 ∧ yX2_addWhole.cls ≠ "java/lang/invoke/MethodHandle" ∧ yX2_addWhole.cls ≠ "java/lang/invoke/VarHandle" ∧ (parseMethodDescriptor yX2_addWhole.desc).map (fun d => d.parameters.length) = some 2 := by decide +kernel
theorem hd_X2_applyToWhole : yX2_applyToWhole.cls = RX2 ∧ yX2_applyToWhole.cls ≠ "java/lang/invoke/MethodHandle" ∧ yX2_applyToWhole.cls ≠ "java/lang/invoke/VarHandle" ∧ (parseMethodDescriptor yX2_applyToWhole.desc).map (fun d => d.parameters.length) = some 3 := by decide +kernel
theorem kt_X2_addShifted_X4 : ∀ w ∈ u_ws RX4 TX4 1, w ∈ wsX2_addShifted := fun _ h => List.mem_cons_of_mem _ (List.mem_append_left _ (List.mem_append_right _ (h)))
theorem kt_X2_addTimes_X2 : ∀ w ∈ u_ws RX2 TX2 6, w ∈ wsX2_addTimes := fun _ h => List.mem_cons_of_mem _ (List.mem_append_right _ (h))
theorem kt_X2_addWhole_X2 : ∀ w ∈ u_ws RX2 TX2 6, w ∈ wsX2_addWhole := fun _ h => List.mem_cons_of_mem _ (List.mem_append_right _ (h))
theorem kt_X2_apply_X2 : ∀ w ∈ u_ws RX2 TX2 6, w ∈ wsX2_apply := fun _ h => List.mem_cons_of_mem _ (List.mem_append_left _ (List.mem_append_right _ (h)))
theorem kt_X2_applyToWhole_X2 : ∀ w ∈ u_ws RX2 TX2 6, w ∈ wsX2_applyToWhole := fun _ h => List.mem_cons_of_mem _ (List.mem_append_left _ (List.mem_append_right _ (h)))
theorem kt_X2_deriveMore_X2 : ∀ w ∈ u_ws RX2 TX2 6, w ∈ wsX2_deriveMore := fun _ h => List.mem_cons_of_mem _ (List.mem_append_right _ (h))
theorem kt_X2_factorOf_X4 : ∀ w ∈ u_ws RX4 TX4 1, w ∈ wsX2_factorOf := fun _ h => List.mem_cons_of_mem _ (List.mem_append_right _ (h))
theorem kt_X2_spread_X2 : ∀ w ∈ u_ws RX2 TX2 6, w ∈ wsX2_spread := fun _ h => List.mem_cons_of_mem _ (List.mem_append_right _ (h))
theorem kt_X2_startDeriving_X2 : ∀ w ∈ u_ws RX2 TX2 6, w ∈ wsX2_startDeriving := fun _ h => List.mem_cons_of_mem _ (List.mem_append_right _ (h))
theorem kt_X2_sumIsBTimesPower_X2 : ∀ w ∈ u_ws RX2 TX2 6, w ∈ wsX2_sumIsBTimesPower := fun _ h => List.mem_cons_of_mem _ (List.mem_append_right _ (h))
theorem kt_X2_toPowerOfS_X2 : ∀ w ∈ u_ws RX2 TX2 6, w ∈ wsX2_toPowerOfS := fun _ h => List.mem_cons_of_mem _ (List.mem_append_left _ (List.mem_append_right _ (h)))
theorem kw_X2_startDeriving_1 : Cond.fieldLink RX2 21 "LoweredPowers$Lowering" "derived" "[I" ∈ wsX2_startDeriving := List.mem_of_getElem? (i := 1) rfl
theorem kw_X2_deriveMore_2 : Cond.fieldLink RX2 24 "LoweredPowers$Lowering" "next" "[I" ∈ wsX2_deriveMore := List.mem_of_getElem? (i := 2) rfl
theorem kw_X2_deriveMore_1 : Cond.fieldLink RX2 21 "LoweredPowers$Lowering" "derived" "[I" ∈ wsX2_deriveMore := List.mem_of_getElem? (i := 1) rfl
theorem kw_X2_deriveMore_3 : Cond.methodLink RX2 42 arraycopyName ∈ wsX2_deriveMore := List.mem_of_getElem? (i := 3) rfl
theorem kw_X2_deriveMore_4 : Cond.native arraycopyName ∈ wsX2_deriveMore := List.mem_of_getElem? (i := 4) rfl
theorem kw_X2_deriveMore_5 : Cond.static arraycopyName ∈ wsX2_deriveMore := List.mem_of_getElem? (i := 5) rfl
theorem kw_X2_deriveMore_6 : Cond.initialized RJ10 ∈ wsX2_deriveMore := List.mem_of_getElem? (i := 6) rfl
theorem kw_X2_spread_1 : Cond.fieldLink RX2 21 "LoweredPowers$Lowering" "derived" "[I" ∈ wsX2_spread := List.mem_of_getElem? (i := 1) rfl
theorem kw_X2_spread_2 : Cond.methodLink RX2 42 arraycopyName ∈ wsX2_spread := List.mem_of_getElem? (i := 2) rfl
theorem kw_X2_spread_3 : Cond.native arraycopyName ∈ wsX2_spread := List.mem_of_getElem? (i := 3) rfl
theorem kw_X2_spread_4 : Cond.static arraycopyName ∈ wsX2_spread := List.mem_of_getElem? (i := 4) rfl
theorem kw_X2_spread_5 : Cond.initialized RJ10 ∈ wsX2_spread := List.mem_of_getElem? (i := 5) rfl
theorem kw_X2_addTimes_1 : Cond.fieldLink RX2 11 "LoweredPowers$Lowering" "sum" "[I" ∈ wsX2_addTimes := List.mem_of_getElem? (i := 1) rfl
theorem kw_X2_addTimes_2 : Cond.fieldLink RX2 21 "LoweredPowers$Lowering" "derived" "[I" ∈ wsX2_addTimes := List.mem_of_getElem? (i := 2) rfl
theorem kw_X2_addShifted_1 : Cond.fieldLink RX2 68 "LoweredPowers$Operator" "numbers" "[I" ∈ wsX2_addShifted := List.mem_of_getElem? (i := 1) rfl
theorem kw_X2_apply_1 : Cond.fieldLink RX2 11 "LoweredPowers$Lowering" "sum" "[I" ∈ wsX2_apply := List.mem_of_getElem? (i := 1) rfl
theorem kw_X2_sumIsBTimesPower_1 : Cond.fieldLink RX2 11 "LoweredPowers$Lowering" "sum" "[I" ∈ wsX2_sumIsBTimesPower := List.mem_of_getElem? (i := 1) rfl
theorem kw_X2_sumIsBTimesPower_2 : Cond.fieldLink RX2 15 "LoweredPowers$Lowering" "b" "[I" ∈ wsX2_sumIsBTimesPower := List.mem_of_getElem? (i := 2) rfl
theorem kw_X2_sumIsBTimesPower_3 : Cond.fieldLink RX2 27 "LoweredPowers$Lowering" "power" "[I" ∈ wsX2_sumIsBTimesPower := List.mem_of_getElem? (i := 3) rfl
theorem kw_X2_toPowerOfS_1 : Cond.fieldLink RX2 15 "LoweredPowers$Lowering" "b" "[I" ∈ wsX2_toPowerOfS := List.mem_of_getElem? (i := 1) rfl
theorem kw_X2_toPowerOfS_2 : Cond.fieldLink RX2 11 "LoweredPowers$Lowering" "sum" "[I" ∈ wsX2_toPowerOfS := List.mem_of_getElem? (i := 2) rfl
theorem kw_X2_toPowerOfS_3 : Cond.fieldLink RX2 27 "LoweredPowers$Lowering" "power" "[I" ∈ wsX2_toPowerOfS := List.mem_of_getElem? (i := 3) rfl
theorem kw_X2_factorOf_1 : Cond.fieldLink RX2 68 "LoweredPowers$Operator" "numbers" "[I" ∈ wsX2_factorOf := List.mem_of_getElem? (i := 1) rfl
theorem kw_X2_addWhole_1 : Cond.fieldLink RX2 18 "LoweredPowers$Lowering" "whole" "[I" ∈ wsX2_addWhole := List.mem_of_getElem? (i := 1) rfl
theorem kw_X2_addWhole_2 : Cond.fieldLink RX2 27 "LoweredPowers$Lowering" "power" "[I" ∈ wsX2_addWhole := List.mem_of_getElem? (i := 2) rfl
theorem kw_X2_applyToWhole_1 : Cond.fieldLink RX2 27 "LoweredPowers$Lowering" "power" "[I" ∈ wsX2_applyToWhole := List.mem_of_getElem? (i := 1) rfl
theorem kw_X2_applyToWhole_2 : Cond.fieldLink RX2 18 "LoweredPowers$Lowering" "whole" "[I" ∈ wsX2_applyToWhole := List.mem_of_getElem? (i := 2) rfl
abbrev rm_X2_startDeriving : Room := { frames := 1, cells := 0, slots := 0, locals := 23 }
set_option maxRecDepth 100000 in
set_option maxHeartbeats 4000000 in
theorem ct_X2_startDeriving (l : Launch) (D : va_G) (cI cJ cZ : ClassId) (h0 : Nat) (r0 : Nat → Nat) (A_0_3_derived : (Nat → Int32)) (sz : Nat) (K : (Nat → Int32) → Prop) (h : wp_X2_startDeriving A_0_3_derived K) : Met l yX2_startDeriving wsX2_startDeriving rm_X2_startDeriving (va_Pc [.ref h0] (WX D cI cJ cZ [(h0, .inr (2, oX2 r0 )), ((r0 3), .inl (cI, 225, .inl A_0_3_derived))] sz)) (va_Qv (fun (u : (Nat → Int32)) => K u) (fun (u : (Nat → Int32)) t => WY D (va_A [(h0, .inr (2, oX2 r0 )), ((r0 3), .inl (cI, 225, .inl A_0_3_derived))] sz) [(h0, .inr (2, oX2 r0 )), ((r0 3), .inl (cI, 225, .inl u))] t) (va_A [(h0, .inr (2, oX2 r0 )), ((r0 3), .inl (cI, 225, .inl A_0_3_derived))] sz)) 0 0 (va_A [(h0, .inr (2, oX2 r0 )), ((r0 3), .inl (cI, 225, .inl A_0_3_derived))] sz) := by
  refine m_met (own := RX2) (cc := cX2_startDeriving) (maxL := 1) (ret := none) [.ref h0] [(0, .ref h0)] (by decide) rfl rfl (Nat.le_of_ble_eq_true rfl) rfl ?_
  intro p e s m args below meth c Q A hQ hA C0 hr hnm hsz hM ls hl
  have hx := C0.1
  have hb := C0.2.1
  have hown := C0.2.2.2.1
  unfold wp_X2_startDeriving at h
  refine lv_aload_n hx hb dX2_startDeriving_0 rfl (lv_at hl 0 rfl) ?_
  refine m_get (C := RX2) (T := TX2) (N := 6) (ci := 2) (ref := "LoweredPowers$Lowering") (v := .ref (r0 3)) C0 hM 0 rfl rfl kt_X2_startDeriving_X2 3 (by decide) kw_X2_startDeriving_1 rfl rfl dX2_startDeriving_1 ?_
  refine lv_iconst (v := (0 : Int32)) hx hb dX2_startDeriving_4 (by decide) ?_
  refine m_callv (wc := [((r0 3), .inl (cI, 225, .inl A_0_3_derived))]) C0 hM [1] rfl (m_runS (wc := [((r0 3), .inl (cI, 225, .inl A_0_3_derived))]) (As := [.ref (r0 3), .int (0 : Int32)]) (rest := []) C0 hM (ct_J7_fill_53178 l D cI cJ cZ (r0 3) 225 A_0_3_derived (0 : Int32) _ _ h) [1] rfl (by decide) gX2_startDeriving_J7_fill_53178 rfl rfl rfl hd_J7_fill_53178 ⟨Nat.le_of_ble_eq_true rfl, Nat.le_of_ble_eq_true rfl⟩ rfl hl.1 rfl (Nat.le_of_ble_eq_true rfl) dX2_startDeriving_5 ⟨Nat.le_of_ble_eq_true rfl, Nat.le_of_ble_eq_true rfl⟩) (fun u => [(h0, .inr (2, oX2 r0 )), ((r0 3), .inl (cI, 225, .inl u))]) (fun _ => rfl) (fun _ => rfl) (fun b1 H locs h hM => ?_)
  refine lv_aload_n hx hb dX2_startDeriving_8 rfl (lv_at hl 0 rfl) ?_
  refine m_get (C := RX2) (T := TX2) (N := 6) (ci := 2) (ref := "LoweredPowers$Lowering") (v := .ref (r0 3)) C0 hM 0 rfl rfl kt_X2_startDeriving_X2 3 (by decide) kw_X2_startDeriving_1 rfl rfl dX2_startDeriving_9 ?_
  refine lv_iconst (v := (0 : Int32)) hx hb dX2_startDeriving_12 (by decide) ?_
  refine lv_iconst (v := (1 : Int32)) hx hb dX2_startDeriving_13 (by decide) ?_
  refine m_iast (ws' := [(h0, .inr (2, oX2 r0 )), ((r0 3), .inl (cI, 225, .inl (upd b1 ((0 : Int32)).toNatClampNeg (1 : Int32))))]) C0 hM 1 rfl (by unfold vp_in; decide) rfl dX2_startDeriving_14 (fun H locs hM => ?_)
  subst hsz; subst hA; subst hQ
  exact m_vret C0 hr hM (upd b1 ((0 : Int32)).toNatClampNeg (1 : Int32)) h rfl dX2_startDeriving_15
abbrev rm_X2_deriveMore : Room := { frames := 1, cells := 0, slots := 0, locals := 26 }
set_option maxRecDepth 100000 in
set_option maxHeartbeats 4000000 in
theorem ct_X2_deriveMore (l : Launch) (D : va_G) (cI cJ cZ : ClassId) (h0 : Nat) (h1 : Nat) (r0 : Nat → Nat) (A_0_3_derived : (Nat → Int32)) (A_0_4_next : (Nat → Int32)) (A1 : (Nat → Int32)) (x2 : Int32) (sz : Nat) (K : (Nat → Int32) → (Nat → Int32) → Prop) (h : wp_X2_deriveMore x2 A_0_3_derived A_0_4_next A1 K) : Met l yX2_deriveMore wsX2_deriveMore rm_X2_deriveMore (va_Pc [.ref h0, .ref h1, .int x2] (WX D cI cJ cZ [(h0, .inr (2, oX2 r0 )), ((r0 3), .inl (cI, 225, .inl A_0_3_derived)), ((r0 4), .inl (cI, 225, .inl A_0_4_next)), (h1, .inl (cI, 5, .inl A1))] sz)) (va_Qv (fun (u : (Nat → Int32) × (Nat → Int32)) => K u.1 u.2) (fun (u : (Nat → Int32) × (Nat → Int32)) t => WY D (va_A [(h0, .inr (2, oX2 r0 )), ((r0 3), .inl (cI, 225, .inl A_0_3_derived)), ((r0 4), .inl (cI, 225, .inl A_0_4_next)), (h1, .inl (cI, 5, .inl A1))] sz) [(h0, .inr (2, oX2 r0 )), ((r0 3), .inl (cI, 225, .inl u.1)), ((r0 4), .inl (cI, 225, .inl u.2)), (h1, .inl (cI, 5, .inl A1))] t) (va_A [(h0, .inr (2, oX2 r0 )), ((r0 3), .inl (cI, 225, .inl A_0_3_derived)), ((r0 4), .inl (cI, 225, .inl A_0_4_next)), (h1, .inl (cI, 5, .inl A1))] sz)) 0 0 (va_A [(h0, .inr (2, oX2 r0 )), ((r0 3), .inl (cI, 225, .inl A_0_3_derived)), ((r0 4), .inl (cI, 225, .inl A_0_4_next)), (h1, .inl (cI, 5, .inl A1))] sz) := by
  refine m_met (own := RX2) (cc := cX2_deriveMore) (maxL := 13) (ret := none) [.ref h0, .ref h1, .int x2] [(0, .ref h0), (1, .ref h1), (2, .int x2)] (by decide) rfl rfl (Nat.le_of_ble_eq_true rfl) rfl ?_
  intro p e s m args below meth c Q A hQ hA C0 hr hnm hsz hM ls hl
  have hx := C0.1
  have hb := C0.2.1
  have hown := C0.2.2.2.1
  have jq166 : ∀ (A_0_3_derived : (Nat → Int32)) (A_0_4_next : (Nat → Int32)) (H : Heap) (locs : List Loc) (ls : Array Slot) , jn_X2_deriveMore_166 x2 A1 K A_0_3_derived A_0_4_next → MW D A s.heap [(h0, .inr (2, oX2 r0 )), ((r0 3), .inl (cI, 225, .inl A_0_3_derived)), ((r0 4), .inl (cI, 225, .inl A_0_4_next)), (h1, .inl (cI, 5, .inl A1))] H locs → lv_has ls 13 [(0, .ref h0)] → W p l e rm_X2_deriveMore s m args below meth c H locs 0 0 Q (F0 m 166 ls []) := by
    intro A_0_3_derived A_0_4_next H locs ls h hM hl
    unfold jn_X2_deriveMore_166 at h
    refine lv_aload_n hx hb dX2_deriveMore_166 rfl (lv_at hl 0 rfl) ?_
    refine m_get (C := RX2) (T := TX2) (N := 6) (ci := 2) (ref := "LoweredPowers$Lowering") (v := .ref (r0 4)) C0 hM 0 rfl rfl kt_X2_deriveMore_X2 4 (by decide) kw_X2_deriveMore_2 rfl rfl dX2_deriveMore_167 ?_
    refine lv_iconst (v := (0 : Int32)) hx hb dX2_deriveMore_170 (by decide) ?_
    refine lv_aload_n hx hb dX2_deriveMore_171 rfl (lv_at hl 0 rfl) ?_
    refine m_get (C := RX2) (T := TX2) (N := 6) (ci := 2) (ref := "LoweredPowers$Lowering") (v := .ref (r0 3)) C0 hM 0 rfl rfl kt_X2_deriveMore_X2 3 (by decide) kw_X2_deriveMore_1 rfl rfl dX2_deriveMore_172 ?_
    refine lv_iconst (v := (0 : Int32)) hx hb dX2_deriveMore_175 (by decide) ?_
    refine lv_sipush (v := (225 : Int32)) hx hb dX2_deriveMore_176 (by decide) ?_
    refine m_copyi (ws' := [(h0, .inr (2, oX2 r0 )), ((r0 3), .inl (cI, 225, .inl (va_cpy A_0_4_next A_0_3_derived ((0 : Int32)).toNatClampNeg ((0 : Int32)).toNatClampNeg ((225 : Int32)).toNatClampNeg))), ((r0 4), .inl (cI, 225, .inl A_0_4_next)), (h1, .inl (cI, 5, .inl A1))]) C0 hM hl.1 kw_X2_deriveMore_3 kw_X2_deriveMore_4 kw_X2_deriveMore_5 kw_X2_deriveMore_6 2 1 rfl rfl (by decide) (Nat.le_of_ble_eq_true rfl) (Nat.le_of_ble_eq_true rfl) rfl dX2_deriveMore_179 (fun H locs hM => ?_)
    subst hsz; subst hA; subst hQ
    exact m_vret C0 hr hM ((va_cpy A_0_4_next A_0_3_derived ((0 : Int32)).toNatClampNeg ((0 : Int32)).toNatClampNeg ((225 : Int32)).toNatClampNeg), A_0_4_next) h rfl dX2_deriveMore_182
  have lq2 : ∀ (k2 : Nat) (x3 : Int32) (A_0_3_derived : (Nat → Int32)) (A_0_4_next : (Nat → Int32)) (H : Heap) (locs : List Loc) (ls : Array Slot) , lp_X2_deriveMore_2 x2 A1 (jn_X2_deriveMore_166 x2 A1 K) K k2 x3 A_0_3_derived A_0_4_next → MW D A s.heap [(h0, .inr (2, oX2 r0 )), ((r0 3), .inl (cI, 225, .inl A_0_3_derived)), ((r0 4), .inl (cI, 225, .inl A_0_4_next)), (h1, .inl (cI, 5, .inl A1))] H locs → lv_has ls 13 [(0, .ref h0), (1, .ref h1), (2, .int x2), (3, .int x3)] → W p l e rm_X2_deriveMore s m args below meth c H locs 0 0 Q (F0 m 2 ls []) := by
    intro k2
    induction k2 with
    | zero =>
      intro x3 A_0_3_derived A_0_4_next H locs ls h
      unfold lp_X2_deriveMore_2 at h
      exact h.elim
    | succ k2 ih2 =>
      have jq160 : ∀ (x3 : Int32) (A_0_3_derived : (Nat → Int32)) (A_0_4_next : (Nat → Int32)) (H : Heap) (locs : List Loc) (ls : Array Slot) , jn_X2_deriveMore_160 x2 A1 (fun x3 A_0_3_derived A_0_4_next => lp_X2_deriveMore_2 x2 A1 (jn_X2_deriveMore_166 x2 A1 K) K k2 x3 A_0_3_derived A_0_4_next) (jn_X2_deriveMore_166 x2 A1 K) K x3 A_0_3_derived A_0_4_next → MW D A s.heap [(h0, .inr (2, oX2 r0 )), ((r0 3), .inl (cI, 225, .inl A_0_3_derived)), ((r0 4), .inl (cI, 225, .inl A_0_4_next)), (h1, .inl (cI, 5, .inl A1))] H locs → lv_has ls 13 [(0, .ref h0), (1, .ref h1), (2, .int x2), (3, .int x3)] → W p l e rm_X2_deriveMore s m args below meth c H locs 0 0 Q (F0 m 160 ls []) := by
        intro x3 A_0_3_derived A_0_4_next H locs ls h hM hl
        unfold jn_X2_deriveMore_160 at h
        refine lv_iinc (v := (x3 + (1 : Int32))) (lv' := [(3, .int (x3 + (1 : Int32))), (0, .ref h0), (1, .ref h1), (2, .int x2)]) hx hb dX2_deriveMore_160 hl (k := 3) rfl rfl (by decide) rfl (fun ls hl => ?_)
        refine lv_goto (tgt := 2) hx hb dX2_deriveMore_163 (by decide) ?_
        exact ih2 _ _ _ _ _ _ h hM (lv_sub hl [1, 2, 3, 0] rfl)
      have lq11 : ∀ (k11 : Nat) (x3 : Int32) (x4 : Int32) (A_0_3_derived : (Nat → Int32)) (A_0_4_next : (Nat → Int32)) (H : Heap) (locs : List Loc) (ls : Array Slot) , lp_X2_deriveMore_11 x2 A1 (jn_X2_deriveMore_160 x2 A1 (fun x3 A_0_3_derived A_0_4_next => lp_X2_deriveMore_2 x2 A1 (jn_X2_deriveMore_166 x2 A1 K) K k2 x3 A_0_3_derived A_0_4_next) (jn_X2_deriveMore_166 x2 A1 K) K) K k11 x3 x4 A_0_3_derived A_0_4_next → MW D A s.heap [(h0, .inr (2, oX2 r0 )), ((r0 3), .inl (cI, 225, .inl A_0_3_derived)), ((r0 4), .inl (cI, 225, .inl A_0_4_next)), (h1, .inl (cI, 5, .inl A1))] H locs → lv_has ls 13 [(0, .ref h0), (1, .ref h1), (2, .int x2), (3, .int x3), (4, .int x4)] → W p l e rm_X2_deriveMore s m args below meth c H locs 0 0 Q (F0 m 11 ls []) := by
        intro k11
        induction k11 with
        | zero =>
          intro x3 x4 A_0_3_derived A_0_4_next H locs ls h
          unfold lp_X2_deriveMore_11 at h
          exact h.elim
        | succ k11 ih11 =>
          have jq137 : ∀ (x3 : Int32) (x4 : Int32) (x5 : Int64) (A_0_3_derived : (Nat → Int32)) (A_0_4_next : (Nat → Int32)) (H : Heap) (locs : List Loc) (ls : Array Slot) , jn_X2_deriveMore_137 x2 A1 (fun x3 x4 A_0_3_derived A_0_4_next => lp_X2_deriveMore_11 x2 A1 (jn_X2_deriveMore_160 x2 A1 (fun x3 A_0_3_derived A_0_4_next => lp_X2_deriveMore_2 x2 A1 (jn_X2_deriveMore_166 x2 A1 K) K k2 x3 A_0_3_derived A_0_4_next) (jn_X2_deriveMore_166 x2 A1 K) K) K k11 x3 x4 A_0_3_derived A_0_4_next) (jn_X2_deriveMore_160 x2 A1 (fun x3 A_0_3_derived A_0_4_next => lp_X2_deriveMore_2 x2 A1 (jn_X2_deriveMore_166 x2 A1 K) K k2 x3 A_0_3_derived A_0_4_next) (jn_X2_deriveMore_166 x2 A1 K) K) K x3 x4 x5 A_0_3_derived A_0_4_next → MW D A s.heap [(h0, .inr (2, oX2 r0 )), ((r0 3), .inl (cI, 225, .inl A_0_3_derived)), ((r0 4), .inl (cI, 225, .inl A_0_4_next)), (h1, .inl (cI, 5, .inl A1))] H locs → lv_has ls 13 [(0, .ref h0), (1, .ref h1), (2, .int x2), (3, .int x3), (4, .int x4), (5, .long x5)] → W p l e rm_X2_deriveMore s m args below meth c H locs 0 0 Q (F0 m 137 ls []) := by
            intro x3 x4 x5 A_0_3_derived A_0_4_next H locs ls h hM hl
            unfold jn_X2_deriveMore_137 at h
            refine lv_aload_n hx hb dX2_deriveMore_137 rfl (lv_at hl 0 rfl) ?_
            refine m_get (C := RX2) (T := TX2) (N := 6) (ci := 2) (ref := "LoweredPowers$Lowering") (v := .ref (r0 4)) C0 hM 0 rfl rfl kt_X2_deriveMore_X2 4 (by decide) kw_X2_deriveMore_2 rfl rfl dX2_deriveMore_138 ?_
            refine lv_iload_n hx hb dX2_deriveMore_141 rfl (lv_at hl 3 rfl) ?_
            refine lv_bipush (v := (9 : Int32)) hx hb dX2_deriveMore_142 (by decide) ?_
            refine lv_imul hx hb dX2_deriveMore_144 ?_
            refine lv_iload hx hb dX2_deriveMore_145 (lv_at hl 4 rfl) ?_
            refine lv_iadd hx hb dX2_deriveMore_147 ?_
            refine lv_lload hx hb dX2_deriveMore_148 (lv_at hl 5 rfl) ?_
            refine m_calli (wc := []) C0 hM [] rfl (m_runS (wc := []) (As := [.long x5]) (rest := [.int ((x3 * (9 : Int32)) + x4), .ref (r0 4)]) C0 hM (ct_X3_fold l D cI cJ cZ x5 _ _ h) [] rfl (by decide) gX2_deriveMore_X3_fold rfl rfl rfl hd_X3_fold ⟨Nat.le_of_ble_eq_true rfl, Nat.le_of_ble_eq_true rfl⟩ rfl hl.1 rfl (Nat.le_of_ble_eq_true rfl) dX2_deriveMore_150 ⟨Nat.le_of_ble_eq_true rfl, Nat.le_of_ble_eq_true rfl⟩) (fun _ => [(h0, .inr (2, oX2 r0 )), ((r0 3), .inl (cI, 225, .inl A_0_3_derived)), ((r0 4), .inl (cI, 225, .inl A_0_4_next)), (h1, .inl (cI, 5, .inl A1))]) (fun _ => rfl) (fun _ => rfl) (fun y1 _ H locs h hM => ?_)
            obtain ⟨hc2, h⟩ := h
            refine m_iast (ws' := [(h0, .inr (2, oX2 r0 )), ((r0 3), .inl (cI, 225, .inl A_0_3_derived)), ((r0 4), .inl (cI, 225, .inl (upd A_0_4_next (((x3 * (9 : Int32)) + x4)).toNatClampNeg y1))), (h1, .inl (cI, 5, .inl A1))]) C0 hM 2 rfl hc2 rfl dX2_deriveMore_153 (fun H locs hM => ?_)
            refine lv_iinc (v := (x4 + (1 : Int32))) (lv' := [(4, .int (x4 + (1 : Int32))), (0, .ref h0), (1, .ref h1), (2, .int x2), (3, .int x3), (5, .long x5)]) hx hb dX2_deriveMore_154 hl (k := 4) rfl rfl (by decide) rfl (fun ls hl => ?_)
            refine lv_goto (tgt := 11) hx hb dX2_deriveMore_157 (by decide) ?_
            exact ih11 _ _ _ _ _ _ _ h hM (lv_sub hl [1, 2, 3, 4, 0] rfl)
          have lq24 : ∀ (k24 : Nat) (x3 : Int32) (x4 : Int32) (x5 : Int64) (x7 : Int32) (A_0_3_derived : (Nat → Int32)) (A_0_4_next : (Nat → Int32)) (H : Heap) (locs : List Loc) (ls : Array Slot) , lp_X2_deriveMore_24 x2 A1 (jn_X2_deriveMore_137 x2 A1 (fun x3 x4 A_0_3_derived A_0_4_next => lp_X2_deriveMore_11 x2 A1 (jn_X2_deriveMore_160 x2 A1 (fun x3 A_0_3_derived A_0_4_next => lp_X2_deriveMore_2 x2 A1 (jn_X2_deriveMore_166 x2 A1 K) K k2 x3 A_0_3_derived A_0_4_next) (jn_X2_deriveMore_166 x2 A1 K) K) K k11 x3 x4 A_0_3_derived A_0_4_next) (jn_X2_deriveMore_160 x2 A1 (fun x3 A_0_3_derived A_0_4_next => lp_X2_deriveMore_2 x2 A1 (jn_X2_deriveMore_166 x2 A1 K) K k2 x3 A_0_3_derived A_0_4_next) (jn_X2_deriveMore_166 x2 A1 K) K) K) K k24 x3 x4 x5 x7 A_0_3_derived A_0_4_next → MW D A s.heap [(h0, .inr (2, oX2 r0 )), ((r0 3), .inl (cI, 225, .inl A_0_3_derived)), ((r0 4), .inl (cI, 225, .inl A_0_4_next)), (h1, .inl (cI, 5, .inl A1))] H locs → lv_has ls 13 [(0, .ref h0), (1, .ref h1), (2, .int x2), (3, .int x3), (4, .int x4), (5, .long x5), (7, .int x7)] → W p l e rm_X2_deriveMore s m args below meth c H locs 0 0 Q (F0 m 24 ls []) := by
            intro k24
            induction k24 with
            | zero =>
              intro x3 x4 x5 x7 A_0_3_derived A_0_4_next H locs ls h
              unfold lp_X2_deriveMore_24 at h
              exact h.elim
            | succ k24 ih24 =>
              have jq131 : ∀ (x3 : Int32) (x4 : Int32) (x5 : Int64) (x7 : Int32) (A_0_3_derived : (Nat → Int32)) (A_0_4_next : (Nat → Int32)) (H : Heap) (locs : List Loc) (ls : Array Slot) , jn_X2_deriveMore_131 x2 A1 (fun x3 x4 x5 x7 A_0_3_derived A_0_4_next => lp_X2_deriveMore_24 x2 A1 (jn_X2_deriveMore_137 x2 A1 (fun x3 x4 A_0_3_derived A_0_4_next => lp_X2_deriveMore_11 x2 A1 (jn_X2_deriveMore_160 x2 A1 (fun x3 A_0_3_derived A_0_4_next => lp_X2_deriveMore_2 x2 A1 (jn_X2_deriveMore_166 x2 A1 K) K k2 x3 A_0_3_derived A_0_4_next) (jn_X2_deriveMore_166 x2 A1 K) K) K k11 x3 x4 A_0_3_derived A_0_4_next) (jn_X2_deriveMore_160 x2 A1 (fun x3 A_0_3_derived A_0_4_next => lp_X2_deriveMore_2 x2 A1 (jn_X2_deriveMore_166 x2 A1 K) K k2 x3 A_0_3_derived A_0_4_next) (jn_X2_deriveMore_166 x2 A1 K) K) K) K k24 x3 x4 x5 x7 A_0_3_derived A_0_4_next) (jn_X2_deriveMore_137 x2 A1 (fun x3 x4 A_0_3_derived A_0_4_next => lp_X2_deriveMore_11 x2 A1 (jn_X2_deriveMore_160 x2 A1 (fun x3 A_0_3_derived A_0_4_next => lp_X2_deriveMore_2 x2 A1 (jn_X2_deriveMore_166 x2 A1 K) K k2 x3 A_0_3_derived A_0_4_next) (jn_X2_deriveMore_166 x2 A1 K) K) K k11 x3 x4 A_0_3_derived A_0_4_next) (jn_X2_deriveMore_160 x2 A1 (fun x3 A_0_3_derived A_0_4_next => lp_X2_deriveMore_2 x2 A1 (jn_X2_deriveMore_166 x2 A1 K) K k2 x3 A_0_3_derived A_0_4_next) (jn_X2_deriveMore_166 x2 A1 K) K) K) K x3 x4 x5 x7 A_0_3_derived A_0_4_next → MW D A s.heap [(h0, .inr (2, oX2 r0 )), ((r0 3), .inl (cI, 225, .inl A_0_3_derived)), ((r0 4), .inl (cI, 225, .inl A_0_4_next)), (h1, .inl (cI, 5, .inl A1))] H locs → lv_has ls 13 [(0, .ref h0), (1, .ref h1), (2, .int x2), (3, .int x3), (4, .int x4), (5, .long x5), (7, .int x7)] → W p l e rm_X2_deriveMore s m args below meth c H locs 0 0 Q (F0 m 131 ls []) := by
                intro x3 x4 x5 x7 A_0_3_derived A_0_4_next H locs ls h hM hl
                unfold jn_X2_deriveMore_131 at h
                refine lv_iinc (v := (x7 + (1 : Int32))) (lv' := [(7, .int (x7 + (1 : Int32))), (0, .ref h0), (1, .ref h1), (2, .int x2), (3, .int x3), (4, .int x4), (5, .long x5)]) hx hb dX2_deriveMore_131 hl (k := 6) rfl rfl (by decide) rfl (fun ls hl => ?_)
                refine lv_goto (tgt := 24) hx hb dX2_deriveMore_134 (by decide) ?_
                exact ih24 _ _ _ _ _ _ _ _ _ h hM (lv_sub hl [1, 2, 3, 4, 5, 6, 0] rfl)
              have jq98 : ∀ (x3 : Int32) (x4 : Int32) (x5 : Int64) (x7 : Int32) (x8 : Int32) (x9 : Int64) (s0 : Int64) (A_0_3_derived : (Nat → Int32)) (A_0_4_next : (Nat → Int32)) (H : Heap) (locs : List Loc) (ls : Array Slot) , jn_X2_deriveMore_98 x2 A1 (fun x3 x4 x5 x7 A_0_3_derived A_0_4_next => lp_X2_deriveMore_24 x2 A1 (jn_X2_deriveMore_137 x2 A1 (fun x3 x4 A_0_3_derived A_0_4_next => lp_X2_deriveMore_11 x2 A1 (jn_X2_deriveMore_160 x2 A1 (fun x3 A_0_3_derived A_0_4_next => lp_X2_deriveMore_2 x2 A1 (jn_X2_deriveMore_166 x2 A1 K) K k2 x3 A_0_3_derived A_0_4_next) (jn_X2_deriveMore_166 x2 A1 K) K) K k11 x3 x4 A_0_3_derived A_0_4_next) (jn_X2_deriveMore_160 x2 A1 (fun x3 A_0_3_derived A_0_4_next => lp_X2_deriveMore_2 x2 A1 (jn_X2_deriveMore_166 x2 A1 K) K k2 x3 A_0_3_derived A_0_4_next) (jn_X2_deriveMore_166 x2 A1 K) K) K) K k24 x3 x4 x5 x7 A_0_3_derived A_0_4_next) (jn_X2_deriveMore_137 x2 A1 (fun x3 x4 A_0_3_derived A_0_4_next => lp_X2_deriveMore_11 x2 A1 (jn_X2_deriveMore_160 x2 A1 (fun x3 A_0_3_derived A_0_4_next => lp_X2_deriveMore_2 x2 A1 (jn_X2_deriveMore_166 x2 A1 K) K k2 x3 A_0_3_derived A_0_4_next) (jn_X2_deriveMore_166 x2 A1 K) K) K k11 x3 x4 A_0_3_derived A_0_4_next) (jn_X2_deriveMore_160 x2 A1 (fun x3 A_0_3_derived A_0_4_next => lp_X2_deriveMore_2 x2 A1 (jn_X2_deriveMore_166 x2 A1 K) K k2 x3 A_0_3_derived A_0_4_next) (jn_X2_deriveMore_166 x2 A1 K) K) K) K x3 x4 x5 x7 x8 x9 s0 A_0_3_derived A_0_4_next → MW D A s.heap [(h0, .inr (2, oX2 r0 )), ((r0 3), .inl (cI, 225, .inl A_0_3_derived)), ((r0 4), .inl (cI, 225, .inl A_0_4_next)), (h1, .inl (cI, 5, .inl A1))] H locs → lv_has ls 13 [(0, .ref h0), (1, .ref h1), (2, .int x2), (3, .int x3), (4, .int x4), (5, .long x5), (7, .int x7), (8, .int x8), (9, .long x9)] → W p l e rm_X2_deriveMore s m args below meth c H locs 0 0 Q (F0 m 98 ls [.long s0]) := by
                intro x3 x4 x5 x7 x8 x9 s0 A_0_3_derived A_0_4_next H locs ls h hM hl
                unfold jn_X2_deriveMore_98 at h
                refine lv_lstore (lv' := [(11, .long s0), (0, .ref h0), (1, .ref h1), (2, .int x2), (3, .int x3), (4, .int x4), (5, .long x5), (7, .int x7), (8, .int x8), (9, .long x9)]) hx hb dX2_deriveMore_98 hl (by decide) rfl (fun ls hl => ?_)
                refine lv_lload hx hb dX2_deriveMore_100 (lv_at hl 6 rfl) ?_
                refine lv_aload_n hx hb dX2_deriveMore_102 rfl (lv_at hl 2 rfl) ?_
                refine lv_iload hx hb dX2_deriveMore_103 (lv_at hl 7 rfl) ?_
                obtain ⟨hc3, h⟩ := h
                refine m_iald C0 hM 3 rfl hc3 dX2_deriveMore_105 ?_
                refine lv_i2l hx hb dX2_deriveMore_106 rfl ?_
                refine lv_iload hx hb dX2_deriveMore_107 (lv_at hl 8 rfl) ?_
                refine lv_iload hx hb dX2_deriveMore_109 (lv_at hl 7 rfl) ?_
                refine lv_iconst (v := (1 : Int32)) hx hb dX2_deriveMore_111 (by decide) ?_
                refine lv_iload_n hx hb dX2_deriveMore_112 rfl (lv_at hl 3 rfl) ?_
                refine lv_isub hx hb dX2_deriveMore_113 ?_
                refine lv_imul hx hb dX2_deriveMore_114 ?_
                refine lv_iadd hx hb dX2_deriveMore_115 ?_
                refine lv_i2l hx hb dX2_deriveMore_116 rfl ?_
                refine lv_lload hx hb dX2_deriveMore_117 (lv_at hl 9 rfl) ?_
                refine lv_lmul hx hb dX2_deriveMore_119 ?_
                refine lv_iload hx hb dX2_deriveMore_120 (lv_at hl 7 rfl) ?_
                refine lv_i2l hx hb dX2_deriveMore_122 rfl ?_
                refine lv_lload hx hb dX2_deriveMore_123 (lv_at hl 0 rfl) ?_
                refine lv_lmul hx hb dX2_deriveMore_125 ?_
                refine lv_ladd hx hb dX2_deriveMore_126 ?_
                refine lv_lmul hx hb dX2_deriveMore_127 ?_
                refine lv_ladd hx hb dX2_deriveMore_128 ?_
                refine lv_topl (fun y4 ey4 => ?_)
                have h := h y4 ey4
                refine lv_lstore (lv' := [(5, .long y4), (11, .long s0), (0, .ref h0), (1, .ref h1), (2, .int x2), (3, .int x3), (4, .int x4), (7, .int x7), (8, .int x8), (9, .long x9)]) hx hb dX2_deriveMore_129 hl (by decide) rfl (fun ls hl => ?_)
                exact jq131 _ _ _ _ _ _ _ _ _ h hM (lv_sub hl [2, 3, 4, 5, 6, 0, 7] rfl)
              intro x3 x4 x5 x7 A_0_3_derived A_0_4_next H locs ls h hM hl
              unfold lp_X2_deriveMore_24 at h
              refine lv_iload hx hb dX2_deriveMore_24 (lv_at hl 6 rfl) ?_
              refine lv_iconst (v := (4 : Int32)) hx hb dX2_deriveMore_26 (by decide) ?_
              refine lv_icmp_gt (tgt := 137) hx hb dX2_deriveMore_27 (by decide) (fun hq => ?_) (fun hq => ?_)
              · have h := h.1 hq
                exact jq137 _ _ _ _ _ _ _ _ h hM (lv_sub hl [0, 1, 2, 3, 4, 5] rfl)
              · have h := h.2 hq
                refine lv_iload_n hx hb dX2_deriveMore_30 rfl (lv_at hl 3 rfl) ?_
                refine lv_iload hx hb dX2_deriveMore_31 (lv_at hl 6 rfl) ?_
                refine lv_isub hx hb dX2_deriveMore_33 ?_
                refine lv_iconst (v := (1 : Int32)) hx hb dX2_deriveMore_34 (by decide) ?_
                refine lv_iadd hx hb dX2_deriveMore_35 ?_
                refine lv_topi (fun y5 ey5 => ?_)
                have h := h y5 ey5
                refine lv_istore (lv' := [(8, .int y5), (0, .ref h0), (1, .ref h1), (2, .int x2), (3, .int x3), (4, .int x4), (5, .long x5), (7, .int x7)]) hx hb dX2_deriveMore_36 hl (by decide) rfl (fun ls hl => ?_)
                refine lv_iload hx hb dX2_deriveMore_38 (lv_at hl 0 rfl) ?_
                refine lv_if_lt (tgt := 131) hx hb dX2_deriveMore_40 (by decide) (fun hq => ?_) (fun hq => ?_)
                · have h := h.1 hq
                  exact jq131 _ _ _ _ _ _ _ _ _ h hM (lv_sub hl [1, 2, 3, 4, 5, 6, 7] rfl)
                · have h := h.2 hq
                  refine lv_iload hx hb dX2_deriveMore_43 (lv_at hl 0 rfl) ?_
                  refine lv_bipush (v := (25 : Int32)) hx hb dX2_deriveMore_45 (by decide) ?_
                  refine lv_icmp_ge (tgt := 131) hx hb dX2_deriveMore_47 (by decide) (fun hq => ?_) (fun hq => ?_)
                  · have h := h.1 hq
                    exact jq131 _ _ _ _ _ _ _ _ _ h hM (lv_sub hl [1, 2, 3, 4, 5, 6, 7] rfl)
                  · have h := h.2 hq
                    refine lv_aload_n hx hb dX2_deriveMore_50 rfl (lv_at hl 2 rfl) ?_
                    refine lv_iload hx hb dX2_deriveMore_51 (lv_at hl 7 rfl) ?_
                    obtain ⟨hc6, h⟩ := h
                    refine m_iald C0 hM 3 rfl hc6 dX2_deriveMore_53 ?_
                    refine lv_if_eq (tgt := 131) hx hb dX2_deriveMore_54 (by decide) (fun hq => ?_) (fun hq => ?_)
                    · have h := h.1 hq
                      exact jq131 _ _ _ _ _ _ _ _ _ h hM (lv_sub hl [1, 2, 3, 4, 5, 6, 7] rfl)
                    · have h := h.2 hq
                      refine lv_aload_n hx hb dX2_deriveMore_57 rfl (lv_at hl 1 rfl) ?_
                      refine m_get (C := RX2) (T := TX2) (N := 6) (ci := 2) (ref := "LoweredPowers$Lowering") (v := .ref (r0 3)) C0 hM 0 rfl rfl kt_X2_deriveMore_X2 3 (by decide) kw_X2_deriveMore_1 rfl rfl dX2_deriveMore_58 ?_
                      refine lv_iload hx hb dX2_deriveMore_61 (lv_at hl 0 rfl) ?_
                      refine lv_bipush (v := (9 : Int32)) hx hb dX2_deriveMore_63 (by decide) ?_
                      refine lv_imul hx hb dX2_deriveMore_65 ?_
                      refine lv_iload hx hb dX2_deriveMore_66 (lv_at hl 5 rfl) ?_
                      refine lv_iadd hx hb dX2_deriveMore_68 ?_
                      obtain ⟨hc7, h⟩ := h
                      refine m_iald C0 hM 1 rfl hc7 dX2_deriveMore_69 ?_
                      refine lv_i2l hx hb dX2_deriveMore_70 rfl ?_
                      refine lv_topl (fun y8 ey8 => ?_)
                      have h := h y8 ey8
                      refine lv_lstore (lv' := [(9, .long y8), (8, .int y5), (0, .ref h0), (1, .ref h1), (2, .int x2), (3, .int x3), (4, .int x4), (5, .long x5), (7, .int x7)]) hx hb dX2_deriveMore_71 hl (by decide) rfl (fun ls hl => ?_)
                      refine lv_iload hx hb dX2_deriveMore_73 (lv_at hl 6 rfl) ?_
                      refine lv_if_le (tgt := 97) hx hb dX2_deriveMore_75 (by decide) (fun hq => ?_) (fun hq => ?_)
                      · have h := h.1 hq
                        refine lv_lconst (v := (0 : Int64)) hx hb dX2_deriveMore_97 (by decide) ?_
                        exact jq98 _ _ _ _ _ _ _ _ _ _ _ _ h hM (lv_sub hl [2, 3, 4, 5, 6, 7, 8, 1, 0] rfl)
                      · have h := h.2 hq
                        refine lv_aload_n hx hb dX2_deriveMore_78 rfl (lv_at hl 2 rfl) ?_
                        refine m_get (C := RX2) (T := TX2) (N := 6) (ci := 2) (ref := "LoweredPowers$Lowering") (v := .ref (r0 3)) C0 hM 0 rfl rfl kt_X2_deriveMore_X2 3 (by decide) kw_X2_deriveMore_1 rfl rfl dX2_deriveMore_79 ?_
                        refine lv_iload hx hb dX2_deriveMore_82 (lv_at hl 1 rfl) ?_
                        refine lv_bipush (v := (9 : Int32)) hx hb dX2_deriveMore_84 (by decide) ?_
                        refine lv_imul hx hb dX2_deriveMore_86 ?_
                        refine lv_iload hx hb dX2_deriveMore_87 (lv_at hl 6 rfl) ?_
                        refine lv_iadd hx hb dX2_deriveMore_89 ?_
                        refine lv_iconst (v := (1 : Int32)) hx hb dX2_deriveMore_90 (by decide) ?_
                        refine lv_isub hx hb dX2_deriveMore_91 ?_
                        obtain ⟨hc9, h⟩ := h
                        refine m_iald C0 hM 1 rfl hc9 dX2_deriveMore_92 ?_
                        refine lv_i2l hx hb dX2_deriveMore_93 rfl ?_
                        refine lv_goto (tgt := 98) hx hb dX2_deriveMore_94 (by decide) ?_
                        exact jq98 _ _ _ _ _ _ _ _ _ _ _ _ h hM (lv_sub hl [2, 3, 4, 5, 6, 7, 8, 1, 0] rfl)
          intro x3 x4 A_0_3_derived A_0_4_next H locs ls h hM hl
          unfold lp_X2_deriveMore_11 at h
          refine lv_iload hx hb dX2_deriveMore_11 (lv_at hl 4 rfl) ?_
          refine lv_bipush (v := (9 : Int32)) hx hb dX2_deriveMore_13 (by decide) ?_
          refine lv_icmp_ge (tgt := 160) hx hb dX2_deriveMore_15 (by decide) (fun hq => ?_) (fun hq => ?_)
          · have h := h.1 hq
            exact jq160 _ _ _ _ _ _ h hM (lv_sub hl [0, 1, 2, 3] rfl)
          · have h := h.2 hq
            refine lv_lconst (v := (0 : Int64)) hx hb dX2_deriveMore_18 (by decide) ?_
            refine lv_lstore (lv' := [(5, .long (0 : Int64)), (0, .ref h0), (1, .ref h1), (2, .int x2), (3, .int x3), (4, .int x4)]) hx hb dX2_deriveMore_19 hl (by decide) rfl (fun ls hl => ?_)
            refine lv_iconst (v := (0 : Int32)) hx hb dX2_deriveMore_21 (by decide) ?_
            refine lv_istore (lv' := [(7, .int (0 : Int32)), (5, .long (0 : Int64)), (0, .ref h0), (1, .ref h1), (2, .int x2), (3, .int x3), (4, .int x4)]) hx hb dX2_deriveMore_22 hl (by decide) rfl (fun ls hl => ?_)
            obtain ⟨k0, h⟩ := h
            exact lq24 k0 _ _ _ _ _ _ _ _ _ h hM (lv_sub hl [2, 3, 4, 5, 6, 1, 0] rfl)
      intro x3 A_0_3_derived A_0_4_next H locs ls h hM hl
      unfold lp_X2_deriveMore_2 at h
      refine lv_iload_n hx hb dX2_deriveMore_2 rfl (lv_at hl 3 rfl) ?_
      refine lv_bipush (v := (25 : Int32)) hx hb dX2_deriveMore_3 (by decide) ?_
      refine lv_icmp_ge (tgt := 166) hx hb dX2_deriveMore_5 (by decide) (fun hq => ?_) (fun hq => ?_)
      · have h := h.1 hq
        exact jq166 _ _ _ _ _ h hM (lv_sub hl [0] rfl)
      · have h := h.2 hq
        refine lv_iconst (v := (0 : Int32)) hx hb dX2_deriveMore_8 (by decide) ?_
        refine lv_istore (lv' := [(4, .int (0 : Int32)), (0, .ref h0), (1, .ref h1), (2, .int x2), (3, .int x3)]) hx hb dX2_deriveMore_9 hl (by decide) rfl (fun ls hl => ?_)
        obtain ⟨k0, h⟩ := h
        exact lq11 k0 _ _ _ _ _ _ _ h hM (lv_sub hl [1, 2, 3, 4, 0] rfl)
  unfold wp_X2_deriveMore at h
  refine lv_iconst (v := (0 : Int32)) hx hb dX2_deriveMore_0 (by decide) ?_
  refine lv_istore_n (lv' := [(3, .int (0 : Int32)), (0, .ref h0), (1, .ref h1), (2, .int x2)]) hx hb dX2_deriveMore_1 rfl hl (by decide) rfl (fun ls hl => ?_)
  obtain ⟨k0, h⟩ := h
  exact lq2 k0 _ _ _ _ _ _ h hM (lv_sub hl [1, 2, 3, 0] rfl)
abbrev rm_X2_multiplyGrid : Room := { frames := 1, cells := 0, slots := 0, locals := 22 }
set_option maxRecDepth 100000 in
set_option maxHeartbeats 4000000 in
theorem ct_X2_multiplyGrid (l : Launch) (D : va_G) (cI cJ cZ : ClassId) (h0 : Nat) (h1 : Nat) (A0 : (Nat → Int32)) (A1 : (Nat → Int32)) (sz : Nat) (K : (Nat → Int32) → Prop) (h : wp_X2_multiplyGrid A0 A1 K) : Met l yX2_multiplyGrid wsX2_multiplyGrid rm_X2_multiplyGrid (va_Pc [.ref h0, .ref h1] (WX D cI cJ cZ [(h0, .inl (cI, 225, .inl A0)), (h1, .inl (cI, 5, .inl A1))] sz)) (va_Qv (fun (u : (Nat → Int32)) => K u) (fun (u : (Nat → Int32)) t => WY D (va_A [(h0, .inl (cI, 225, .inl A0)), (h1, .inl (cI, 5, .inl A1))] sz) [(h0, .inl (cI, 225, .inl u)), (h1, .inl (cI, 5, .inl A1))] t) (va_A [(h0, .inl (cI, 225, .inl A0)), (h1, .inl (cI, 5, .inl A1))] sz)) 0 0 (va_A [(h0, .inl (cI, 225, .inl A0)), (h1, .inl (cI, 5, .inl A1))] sz) := by
  refine m_met (own := RX2) (cc := cX2_multiplyGrid) (maxL := 7) (ret := none) [.ref h0, .ref h1] [(0, .ref h0), (1, .ref h1)] (by decide) rfl rfl (Nat.le_of_ble_eq_true rfl) rfl ?_
  intro p e s m args below meth c Q A hQ hA C0 hr hnm hsz hM ls hl
  have hx := C0.1
  have hb := C0.2.1
  have hown := C0.2.2.2.1
  have lq3 : ∀ (k3 : Nat) (x2 : Int32) (A0 : (Nat → Int32)) (H : Heap) (locs : List Loc) (ls : Array Slot) , lp_X2_multiplyGrid_3 A1 K k3 x2 A0 → MW D A s.heap [(h0, .inl (cI, 225, .inl A0)), (h1, .inl (cI, 5, .inl A1))] H locs → lv_has ls 7 [(0, .ref h0), (1, .ref h1), (2, .int x2)] → W p l e rm_X2_multiplyGrid s m args below meth c H locs 0 0 Q (F0 m 3 ls []) := by
    intro k3
    induction k3 with
    | zero =>
      intro x2 A0 H locs ls h
      unfold lp_X2_multiplyGrid_3 at h
      exact h.elim
    | succ k3 ih3 =>
      have jq81 : ∀ (x2 : Int32) (A0 : (Nat → Int32)) (H : Heap) (locs : List Loc) (ls : Array Slot) , jn_X2_multiplyGrid_81 A1 (fun x2 A0 => lp_X2_multiplyGrid_3 A1 K k3 x2 A0) K x2 A0 → MW D A s.heap [(h0, .inl (cI, 225, .inl A0)), (h1, .inl (cI, 5, .inl A1))] H locs → lv_has ls 7 [(0, .ref h0), (1, .ref h1), (2, .int x2)] → W p l e rm_X2_multiplyGrid s m args below meth c H locs 0 0 Q (F0 m 81 ls []) := by
        intro x2 A0 H locs ls h hM hl
        unfold jn_X2_multiplyGrid_81 at h
        refine lv_iinc (v := (x2 + (-1 : Int32))) (lv' := [(2, .int (x2 + (-1 : Int32))), (0, .ref h0), (1, .ref h1)]) hx hb dX2_multiplyGrid_81 hl (k := 2) rfl rfl (by decide) rfl (fun ls hl => ?_)
        refine lv_goto (tgt := 3) hx hb dX2_multiplyGrid_84 (by decide) ?_
        exact ih3 _ _ _ _ _ h hM (lv_sub hl [1, 2, 0] rfl)
      have lq9 : ∀ (k9 : Nat) (x2 : Int32) (x3 : Int32) (A0 : (Nat → Int32)) (H : Heap) (locs : List Loc) (ls : Array Slot) , lp_X2_multiplyGrid_9 A1 (jn_X2_multiplyGrid_81 A1 (fun x2 A0 => lp_X2_multiplyGrid_3 A1 K k3 x2 A0) K) K k9 x2 x3 A0 → MW D A s.heap [(h0, .inl (cI, 225, .inl A0)), (h1, .inl (cI, 5, .inl A1))] H locs → lv_has ls 7 [(0, .ref h0), (1, .ref h1), (2, .int x2), (3, .int x3)] → W p l e rm_X2_multiplyGrid s m args below meth c H locs 0 0 Q (F0 m 9 ls []) := by
        intro k9
        induction k9 with
        | zero =>
          intro x2 x3 A0 H locs ls h
          unfold lp_X2_multiplyGrid_9 at h
          exact h.elim
        | succ k9 ih9 =>
          have jq62 : ∀ (x2 : Int32) (x3 : Int32) (x4 : Int64) (A0 : (Nat → Int32)) (H : Heap) (locs : List Loc) (ls : Array Slot) , jn_X2_multiplyGrid_62 A1 (fun x2 x3 A0 => lp_X2_multiplyGrid_9 A1 (jn_X2_multiplyGrid_81 A1 (fun x2 A0 => lp_X2_multiplyGrid_3 A1 K k3 x2 A0) K) K k9 x2 x3 A0) (jn_X2_multiplyGrid_81 A1 (fun x2 A0 => lp_X2_multiplyGrid_3 A1 K k3 x2 A0) K) K x2 x3 x4 A0 → MW D A s.heap [(h0, .inl (cI, 225, .inl A0)), (h1, .inl (cI, 5, .inl A1))] H locs → lv_has ls 7 [(0, .ref h0), (1, .ref h1), (2, .int x2), (3, .int x3), (4, .long x4)] → W p l e rm_X2_multiplyGrid s m args below meth c H locs 0 0 Q (F0 m 62 ls []) := by
            intro x2 x3 x4 A0 H locs ls h hM hl
            unfold jn_X2_multiplyGrid_62 at h
            refine lv_aload_n hx hb dX2_multiplyGrid_62 rfl (lv_at hl 0 rfl) ?_
            refine lv_iload_n hx hb dX2_multiplyGrid_63 rfl (lv_at hl 2 rfl) ?_
            refine lv_bipush (v := (9 : Int32)) hx hb dX2_multiplyGrid_64 (by decide) ?_
            refine lv_imul hx hb dX2_multiplyGrid_66 ?_
            refine lv_iload_n hx hb dX2_multiplyGrid_67 rfl (lv_at hl 3 rfl) ?_
            refine lv_iadd hx hb dX2_multiplyGrid_68 ?_
            refine lv_lload hx hb dX2_multiplyGrid_69 (lv_at hl 4 rfl) ?_
            refine m_calli (wc := []) C0 hM [] rfl (m_runS (wc := []) (As := [.long x4]) (rest := [.int ((x2 * (9 : Int32)) + x3), .ref h0]) C0 hM (ct_X3_fold l D cI cJ cZ x4 _ _ h) [] rfl (by decide) gX2_multiplyGrid_X3_fold rfl rfl rfl hd_X3_fold ⟨Nat.le_of_ble_eq_true rfl, Nat.le_of_ble_eq_true rfl⟩ rfl hl.1 rfl (Nat.le_of_ble_eq_true rfl) dX2_multiplyGrid_71 ⟨Nat.le_of_ble_eq_true rfl, Nat.le_of_ble_eq_true rfl⟩) (fun _ => [(h0, .inl (cI, 225, .inl A0)), (h1, .inl (cI, 5, .inl A1))]) (fun _ => rfl) (fun _ => rfl) (fun y1 _ H locs h hM => ?_)
            obtain ⟨hc2, h⟩ := h
            refine m_iast (ws' := [(h0, .inl (cI, 225, .inl (upd A0 (((x2 * (9 : Int32)) + x3)).toNatClampNeg y1))), (h1, .inl (cI, 5, .inl A1))]) C0 hM 0 rfl hc2 rfl dX2_multiplyGrid_74 (fun H locs hM => ?_)
            refine lv_iinc (v := (x3 + (1 : Int32))) (lv' := [(3, .int (x3 + (1 : Int32))), (0, .ref h0), (1, .ref h1), (2, .int x2), (4, .long x4)]) hx hb dX2_multiplyGrid_75 hl (k := 3) rfl rfl (by decide) rfl (fun ls hl => ?_)
            refine lv_goto (tgt := 9) hx hb dX2_multiplyGrid_78 (by decide) ?_
            exact ih9 _ _ _ _ _ _ h hM (lv_sub hl [1, 2, 3, 0] rfl)
          have lq21 : ∀ (k21 : Nat) (x2 : Int32) (x3 : Int32) (x4 : Int64) (x6 : Int32) (A0 : (Nat → Int32)) (H : Heap) (locs : List Loc) (ls : Array Slot) , lp_X2_multiplyGrid_21 A1 (jn_X2_multiplyGrid_62 A1 (fun x2 x3 A0 => lp_X2_multiplyGrid_9 A1 (jn_X2_multiplyGrid_81 A1 (fun x2 A0 => lp_X2_multiplyGrid_3 A1 K k3 x2 A0) K) K k9 x2 x3 A0) (jn_X2_multiplyGrid_81 A1 (fun x2 A0 => lp_X2_multiplyGrid_3 A1 K k3 x2 A0) K) K) K k21 x2 x3 x4 x6 A0 → MW D A s.heap [(h0, .inl (cI, 225, .inl A0)), (h1, .inl (cI, 5, .inl A1))] H locs → lv_has ls 7 [(0, .ref h0), (1, .ref h1), (2, .int x2), (3, .int x3), (4, .long x4), (6, .int x6)] → W p l e rm_X2_multiplyGrid s m args below meth c H locs 0 0 Q (F0 m 21 ls []) := by
            intro k21
            induction k21 with
            | zero =>
              intro x2 x3 x4 x6 A0 H locs ls h
              unfold lp_X2_multiplyGrid_21 at h
              exact h.elim
            | succ k21 ih21 =>
              intro x2 x3 x4 x6 A0 H locs ls h hM hl
              unfold lp_X2_multiplyGrid_21 at h
              refine lv_iload hx hb dX2_multiplyGrid_21 (lv_at hl 5 rfl) ?_
              refine lv_iconst (v := (4 : Int32)) hx hb dX2_multiplyGrid_23 (by decide) ?_
              refine lv_icmp_gt (tgt := 62) hx hb dX2_multiplyGrid_24 (by decide) (fun hq => ?_) (fun hq => ?_)
              · have h := h.1 hq
                exact jq62 _ _ _ _ _ _ _ h hM (lv_sub hl [0, 1, 2, 3, 4] rfl)
              · have h := h.2 hq
                refine lv_iload hx hb dX2_multiplyGrid_27 (lv_at hl 5 rfl) ?_
                refine lv_iload_n hx hb dX2_multiplyGrid_29 rfl (lv_at hl 2 rfl) ?_
                refine lv_icmp_gt (tgt := 62) hx hb dX2_multiplyGrid_30 (by decide) (fun hq => ?_) (fun hq => ?_)
                · have h := h.1 hq
                  exact jq62 _ _ _ _ _ _ _ h hM (lv_sub hl [0, 1, 2, 3, 4] rfl)
                · have h := h.2 hq
                  refine lv_lload hx hb dX2_multiplyGrid_33 (lv_at hl 4 rfl) ?_
                  refine lv_aload_n hx hb dX2_multiplyGrid_35 rfl (lv_at hl 1 rfl) ?_
                  refine lv_iload hx hb dX2_multiplyGrid_36 (lv_at hl 5 rfl) ?_
                  obtain ⟨hc3, h⟩ := h
                  refine m_iald C0 hM 1 rfl hc3 dX2_multiplyGrid_38 ?_
                  refine lv_i2l hx hb dX2_multiplyGrid_39 rfl ?_
                  refine lv_aload_n hx hb dX2_multiplyGrid_40 rfl (lv_at hl 0 rfl) ?_
                  refine lv_iload_n hx hb dX2_multiplyGrid_41 rfl (lv_at hl 2 rfl) ?_
                  refine lv_iload hx hb dX2_multiplyGrid_42 (lv_at hl 5 rfl) ?_
                  refine lv_isub hx hb dX2_multiplyGrid_44 ?_
                  refine lv_bipush (v := (9 : Int32)) hx hb dX2_multiplyGrid_45 (by decide) ?_
                  refine lv_imul hx hb dX2_multiplyGrid_47 ?_
                  refine lv_iload_n hx hb dX2_multiplyGrid_48 rfl (lv_at hl 3 rfl) ?_
                  refine lv_iadd hx hb dX2_multiplyGrid_49 ?_
                  obtain ⟨hc4, h⟩ := h
                  refine m_iald C0 hM 0 rfl hc4 dX2_multiplyGrid_50 ?_
                  refine lv_i2l hx hb dX2_multiplyGrid_51 rfl ?_
                  refine lv_lmul hx hb dX2_multiplyGrid_52 ?_
                  refine lv_ladd hx hb dX2_multiplyGrid_53 ?_
                  refine lv_topl (fun y5 ey5 => ?_)
                  have h := h y5 ey5
                  refine lv_lstore (lv' := [(4, .long y5), (0, .ref h0), (1, .ref h1), (2, .int x2), (3, .int x3), (6, .int x6)]) hx hb dX2_multiplyGrid_54 hl (by decide) rfl (fun ls hl => ?_)
                  refine lv_iinc (v := (x6 + (1 : Int32))) (lv' := [(6, .int (x6 + (1 : Int32))), (4, .long y5), (0, .ref h0), (1, .ref h1), (2, .int x2), (3, .int x3)]) hx hb dX2_multiplyGrid_56 hl (k := 5) rfl rfl (by decide) rfl (fun ls hl => ?_)
                  refine lv_goto (tgt := 21) hx hb dX2_multiplyGrid_59 (by decide) ?_
                  exact ih21 _ _ _ _ _ _ _ _ h hM (lv_sub hl [2, 3, 4, 5, 1, 0] rfl)
          intro x2 x3 A0 H locs ls h hM hl
          unfold lp_X2_multiplyGrid_9 at h
          refine lv_iload_n hx hb dX2_multiplyGrid_9 rfl (lv_at hl 3 rfl) ?_
          refine lv_bipush (v := (9 : Int32)) hx hb dX2_multiplyGrid_10 (by decide) ?_
          refine lv_icmp_ge (tgt := 81) hx hb dX2_multiplyGrid_12 (by decide) (fun hq => ?_) (fun hq => ?_)
          · have h := h.1 hq
            exact jq81 _ _ _ _ _ h hM (lv_sub hl [0, 1, 2] rfl)
          · have h := h.2 hq
            refine lv_lconst (v := (0 : Int64)) hx hb dX2_multiplyGrid_15 (by decide) ?_
            refine lv_lstore (lv' := [(4, .long (0 : Int64)), (0, .ref h0), (1, .ref h1), (2, .int x2), (3, .int x3)]) hx hb dX2_multiplyGrid_16 hl (by decide) rfl (fun ls hl => ?_)
            refine lv_iconst (v := (0 : Int32)) hx hb dX2_multiplyGrid_18 (by decide) ?_
            refine lv_istore (lv' := [(6, .int (0 : Int32)), (4, .long (0 : Int64)), (0, .ref h0), (1, .ref h1), (2, .int x2), (3, .int x3)]) hx hb dX2_multiplyGrid_19 hl (by decide) rfl (fun ls hl => ?_)
            obtain ⟨k0, h⟩ := h
            exact lq21 k0 _ _ _ _ _ _ _ _ h hM (lv_sub hl [2, 3, 4, 5, 1, 0] rfl)
      intro x2 A0 H locs ls h hM hl
      unfold lp_X2_multiplyGrid_3 at h
      refine lv_iload_n hx hb dX2_multiplyGrid_3 rfl (lv_at hl 2 rfl) ?_
      refine lv_if_lt (tgt := 87) hx hb dX2_multiplyGrid_4 (by decide) (fun hq => ?_) (fun hq => ?_)
      · have h := h.1 hq
        subst hsz; subst hA; subst hQ
        exact m_vret C0 hr hM A0 h rfl dX2_multiplyGrid_87
      · have h := h.2 hq
        refine lv_iconst (v := (0 : Int32)) hx hb dX2_multiplyGrid_7 (by decide) ?_
        refine lv_istore_n (lv' := [(3, .int (0 : Int32)), (0, .ref h0), (1, .ref h1), (2, .int x2)]) hx hb dX2_multiplyGrid_8 rfl hl (by decide) rfl (fun ls hl => ?_)
        obtain ⟨k0, h⟩ := h
        exact lq9 k0 _ _ _ _ _ _ h hM (lv_sub hl [1, 2, 3, 0] rfl)
  unfold wp_X2_multiplyGrid at h
  refine lv_bipush (v := (24 : Int32)) hx hb dX2_multiplyGrid_0 (by decide) ?_
  refine lv_istore_n (lv' := [(2, .int (24 : Int32)), (0, .ref h0), (1, .ref h1)]) hx hb dX2_multiplyGrid_2 rfl hl (by decide) rfl (fun ls hl => ?_)
  obtain ⟨k0, h⟩ := h
  exact lq3 k0 _ _ _ _ _ h hM (lv_sub hl [1, 2, 0] rfl)
abbrev rm_X2_spread : Room := { frames := 2, cells := 0, slots := 0, locals := 48 }
set_option maxRecDepth 100000 in
set_option maxHeartbeats 4000000 in
theorem ct_X2_spread (l : Launch) (D : va_G) (cI cJ cZ : ClassId) (h0 : Nat) (h1 : Nat) (h2 : Nat) (r0 : Nat → Nat) (A_0_3_derived : (Nat → Int32)) (A1 : (Nat → Int32)) (A2 : (Nat → Int32)) (x3 : Int32) (sz : Nat) (K : (Nat → Int32) → Prop) (h : wp_X2_spread x3 A_0_3_derived A1 A2 K) : Met l yX2_spread wsX2_spread rm_X2_spread (va_Pc [.ref h0, .ref h1, .ref h2, .int x3] (WX D cI cJ cZ [(h0, .inr (2, oX2 r0 )), ((r0 3), .inl (cI, 225, .inl A_0_3_derived)), (h1, .inl (cI, 225, .inl A1)), (h2, .inl (cI, 5, .inl A2))] sz)) (va_Qv (fun (u : (Nat → Int32)) => K u) (fun (u : (Nat → Int32)) t => WY D (va_A [(h0, .inr (2, oX2 r0 )), ((r0 3), .inl (cI, 225, .inl A_0_3_derived)), (h1, .inl (cI, 225, .inl A1)), (h2, .inl (cI, 5, .inl A2))] sz) [(h0, .inr (2, oX2 r0 )), ((r0 3), .inl (cI, 225, .inl A_0_3_derived)), (h1, .inl (cI, 225, .inl u)), (h2, .inl (cI, 5, .inl A2))] t) (va_A [(h0, .inr (2, oX2 r0 )), ((r0 3), .inl (cI, 225, .inl A_0_3_derived)), (h1, .inl (cI, 225, .inl A1)), (h2, .inl (cI, 5, .inl A2))] sz)) 0 0 (va_A [(h0, .inr (2, oX2 r0 )), ((r0 3), .inl (cI, 225, .inl A_0_3_derived)), (h1, .inl (cI, 225, .inl A1)), (h2, .inl (cI, 5, .inl A2))] sz) := by
  refine m_met (own := RX2) (cc := cX2_spread) (maxL := 5) (ret := none) [.ref h0, .ref h1, .ref h2, .int x3] [(0, .ref h0), (1, .ref h1), (2, .ref h2), (3, .int x3)] (by decide) rfl rfl (Nat.le_of_ble_eq_true rfl) rfl ?_
  intro p e s m args below meth c Q A hQ hA C0 hr hnm hsz hM ls hl
  have hx := C0.1
  have hb := C0.2.1
  have hown := C0.2.2.2.1
  have lq16 : ∀ (k16 : Nat) (x4 : Int32) (A1 : (Nat → Int32)) (H : Heap) (locs : List Loc) (ls : Array Slot) , lp_X2_spread_16 x3 A_0_3_derived A2 K k16 x4 A1 → MW D A s.heap [(h0, .inr (2, oX2 r0 )), ((r0 3), .inl (cI, 225, .inl A_0_3_derived)), (h1, .inl (cI, 225, .inl A1)), (h2, .inl (cI, 5, .inl A2))] H locs → lv_has ls 5 [(1, .ref h1), (2, .ref h2), (3, .int x3), (4, .int x4)] → W p l e rm_X2_spread s m args below meth c H locs 0 0 Q (F0 m 16 ls []) := by
    intro k16
    induction k16 with
    | zero =>
      intro x4 A1 H locs ls h
      unfold lp_X2_spread_16 at h
      exact h.elim
    | succ k16 ih16 =>
      intro x4 A1 H locs ls h hM hl
      unfold lp_X2_spread_16 at h
      refine lv_iload hx hb dX2_spread_16 (lv_at hl 3 rfl) ?_
      refine lv_iload_n hx hb dX2_spread_18 rfl (lv_at hl 2 rfl) ?_
      refine lv_icmp_ge (tgt := 33) hx hb dX2_spread_19 (by decide) (fun hq => ?_) (fun hq => ?_)
      · have h := h.1 hq
        subst hsz; subst hA; subst hQ
        exact m_vret C0 hr hM A1 h rfl dX2_spread_33
      · have h := h.2 hq
        refine lv_aload_n hx hb dX2_spread_22 rfl (lv_at hl 0 rfl) ?_
        refine lv_aload_n hx hb dX2_spread_23 rfl (lv_at hl 1 rfl) ?_
        refine m_callv (wc := [(h1, .inl (cI, 225, .inl A1)), (h2, .inl (cI, 5, .inl A2))]) C0 hM [2, 3] rfl (m_runS (wc := [(h1, .inl (cI, 225, .inl A1)), (h2, .inl (cI, 5, .inl A2))]) (As := [.ref h1, .ref h2]) (rest := []) C0 hM (ct_X2_multiplyGrid l D cI cJ cZ h1 h2 A1 A2 _ _ h) [2, 3] rfl (by decide) gX2_spread_X2_multiplyGrid rfl rfl rfl hd_X2_multiplyGrid ⟨Nat.le_of_ble_eq_true rfl, Nat.le_of_ble_eq_true rfl⟩ rfl hl.1 rfl (Nat.le_of_ble_eq_true rfl) dX2_spread_24 ⟨Nat.le_of_ble_eq_true rfl, Nat.le_of_ble_eq_true rfl⟩) (fun u => [(h0, .inr (2, oX2 r0 )), ((r0 3), .inl (cI, 225, .inl A_0_3_derived)), (h1, .inl (cI, 225, .inl u)), (h2, .inl (cI, 5, .inl A2))]) (fun _ => rfl) (fun _ => rfl) (fun b1 H locs h hM => ?_)
        refine lv_iinc (v := (x4 + (1 : Int32))) (lv' := [(4, .int (x4 + (1 : Int32))), (1, .ref h1), (2, .ref h2), (3, .int x3)]) hx hb dX2_spread_27 hl (k := 3) rfl rfl (by decide) rfl (fun ls hl => ?_)
        refine lv_goto (tgt := 16) hx hb dX2_spread_30 (by decide) ?_
        exact ih16 _ _ _ _ _ h hM (lv_sub hl [1, 2, 3, 0] rfl)
  unfold wp_X2_spread at h
  refine lv_aload_n hx hb dX2_spread_0 rfl (lv_at hl 0 rfl) ?_
  refine m_get (C := RX2) (T := TX2) (N := 6) (ci := 2) (ref := "LoweredPowers$Lowering") (v := .ref (r0 3)) C0 hM 0 rfl rfl kt_X2_spread_X2 3 (by decide) kw_X2_spread_1 rfl rfl dX2_spread_1 ?_
  refine lv_iconst (v := (0 : Int32)) hx hb dX2_spread_4 (by decide) ?_
  refine lv_aload_n hx hb dX2_spread_5 rfl (lv_at hl 1 rfl) ?_
  refine lv_iconst (v := (0 : Int32)) hx hb dX2_spread_6 (by decide) ?_
  refine lv_sipush (v := (225 : Int32)) hx hb dX2_spread_7 (by decide) ?_
  refine m_copyi (ws' := [(h0, .inr (2, oX2 r0 )), ((r0 3), .inl (cI, 225, .inl A_0_3_derived)), (h1, .inl (cI, 225, .inl (va_cpy A_0_3_derived A1 ((0 : Int32)).toNatClampNeg ((0 : Int32)).toNatClampNeg ((225 : Int32)).toNatClampNeg))), (h2, .inl (cI, 5, .inl A2))]) C0 hM hl.1 kw_X2_spread_2 kw_X2_spread_3 kw_X2_spread_4 kw_X2_spread_5 1 2 rfl rfl (by decide) (Nat.le_of_ble_eq_true rfl) (Nat.le_of_ble_eq_true rfl) rfl dX2_spread_10 (fun H locs hM => ?_)
  refine lv_iconst (v := (0 : Int32)) hx hb dX2_spread_13 (by decide) ?_
  refine lv_istore (lv' := [(4, .int (0 : Int32)), (0, .ref h0), (1, .ref h1), (2, .ref h2), (3, .int x3)]) hx hb dX2_spread_14 hl (by decide) rfl (fun ls hl => ?_)
  obtain ⟨k0, h⟩ := h
  exact lq16 k0 _ _ _ _ _ h hM (lv_sub hl [2, 3, 4, 0] rfl)
abbrev rm_X2_addTimes : Room := { frames := 1, cells := 0, slots := 0, locals := 22 }
set_option maxRecDepth 100000 in
set_option maxHeartbeats 4000000 in
theorem ct_X2_addTimes (l : Launch) (D : va_G) (cI cJ cZ : ClassId) (h0 : Nat) (r0 : Nat → Nat) (A_0_0_sum : (Nat → Int32)) (A_0_3_derived : (Nat → Int32)) (x1 : Int32) (x2 : Int32) (x3 : Int32) (sz : Nat) (K : (Nat → Int32) → Prop) (h : wp_X2_addTimes x1 x2 x3 A_0_0_sum A_0_3_derived K) : Met l yX2_addTimes wsX2_addTimes rm_X2_addTimes (va_Pc [.ref h0, .int x1, .int x2, .int x3] (WX D cI cJ cZ [(h0, .inr (2, oX2 r0 )), ((r0 0), .inl (cI, 225, .inl A_0_0_sum)), ((r0 3), .inl (cI, 225, .inl A_0_3_derived))] sz)) (va_Qv (fun (u : (Nat → Int32)) => K u) (fun (u : (Nat → Int32)) t => WY D (va_A [(h0, .inr (2, oX2 r0 )), ((r0 0), .inl (cI, 225, .inl A_0_0_sum)), ((r0 3), .inl (cI, 225, .inl A_0_3_derived))] sz) [(h0, .inr (2, oX2 r0 )), ((r0 0), .inl (cI, 225, .inl u)), ((r0 3), .inl (cI, 225, .inl A_0_3_derived))] t) (va_A [(h0, .inr (2, oX2 r0 )), ((r0 0), .inl (cI, 225, .inl A_0_0_sum)), ((r0 3), .inl (cI, 225, .inl A_0_3_derived))] sz)) 0 0 (va_A [(h0, .inr (2, oX2 r0 )), ((r0 0), .inl (cI, 225, .inl A_0_0_sum)), ((r0 3), .inl (cI, 225, .inl A_0_3_derived))] sz) := by
  refine m_met (own := RX2) (cc := cX2_addTimes) (maxL := 7) (ret := none) [.ref h0, .int x1, .int x2, .int x3] [(0, .ref h0), (1, .int x1), (2, .int x2), (3, .int x3)] (by decide) rfl rfl (Nat.le_of_ble_eq_true rfl) rfl ?_
  intro p e s m args below meth c Q A hQ hA C0 hr hnm hsz hM ls hl
  have hx := C0.1
  have hb := C0.2.1
  have hown := C0.2.2.2.1
  have lq3 : ∀ (k3 : Nat) (x4 : Int32) (A_0_0_sum : (Nat → Int32)) (H : Heap) (locs : List Loc) (ls : Array Slot) , lp_X2_addTimes_3 x1 x2 x3 A_0_3_derived K k3 x4 A_0_0_sum → MW D A s.heap [(h0, .inr (2, oX2 r0 )), ((r0 0), .inl (cI, 225, .inl A_0_0_sum)), ((r0 3), .inl (cI, 225, .inl A_0_3_derived))] H locs → lv_has ls 7 [(0, .ref h0), (1, .int x1), (2, .int x2), (3, .int x3), (4, .int x4)] → W p l e rm_X2_addTimes s m args below meth c H locs 0 0 Q (F0 m 3 ls []) := by
    intro k3
    induction k3 with
    | zero =>
      intro x4 A_0_0_sum H locs ls h
      unfold lp_X2_addTimes_3 at h
      exact h.elim
    | succ k3 ih3 =>
      have jq76 : ∀ (x4 : Int32) (A_0_0_sum : (Nat → Int32)) (H : Heap) (locs : List Loc) (ls : Array Slot) , jn_X2_addTimes_76 x1 x2 x3 A_0_3_derived (fun x4 A_0_0_sum => lp_X2_addTimes_3 x1 x2 x3 A_0_3_derived K k3 x4 A_0_0_sum) K x4 A_0_0_sum → MW D A s.heap [(h0, .inr (2, oX2 r0 )), ((r0 0), .inl (cI, 225, .inl A_0_0_sum)), ((r0 3), .inl (cI, 225, .inl A_0_3_derived))] H locs → lv_has ls 7 [(0, .ref h0), (1, .int x1), (2, .int x2), (3, .int x3), (4, .int x4)] → W p l e rm_X2_addTimes s m args below meth c H locs 0 0 Q (F0 m 76 ls []) := by
        intro x4 A_0_0_sum H locs ls h hM hl
        unfold jn_X2_addTimes_76 at h
        refine lv_iinc (v := (x4 + (1 : Int32))) (lv' := [(4, .int (x4 + (1 : Int32))), (0, .ref h0), (1, .int x1), (2, .int x2), (3, .int x3)]) hx hb dX2_addTimes_76 hl (k := 4) rfl rfl (by decide) rfl (fun ls hl => ?_)
        refine lv_goto (tgt := 3) hx hb dX2_addTimes_79 (by decide) ?_
        exact ih3 _ _ _ _ _ h hM (lv_sub hl [1, 2, 3, 4, 0] rfl)
      have lq13 : ∀ (k13 : Nat) (x4 : Int32) (x5 : Int32) (A_0_0_sum : (Nat → Int32)) (H : Heap) (locs : List Loc) (ls : Array Slot) , lp_X2_addTimes_13 x1 x2 x3 A_0_3_derived (jn_X2_addTimes_76 x1 x2 x3 A_0_3_derived (fun x4 A_0_0_sum => lp_X2_addTimes_3 x1 x2 x3 A_0_3_derived K k3 x4 A_0_0_sum) K) K k13 x4 x5 A_0_0_sum → MW D A s.heap [(h0, .inr (2, oX2 r0 )), ((r0 0), .inl (cI, 225, .inl A_0_0_sum)), ((r0 3), .inl (cI, 225, .inl A_0_3_derived))] H locs → lv_has ls 7 [(0, .ref h0), (1, .int x1), (2, .int x2), (3, .int x3), (4, .int x4), (5, .int x5)] → W p l e rm_X2_addTimes s m args below meth c H locs 0 0 Q (F0 m 13 ls []) := by
        intro k13
        induction k13 with
        | zero =>
          intro x4 x5 A_0_0_sum H locs ls h
          unfold lp_X2_addTimes_13 at h
          exact h.elim
        | succ k13 ih13 =>
          intro x4 x5 A_0_0_sum H locs ls h hM hl
          unfold lp_X2_addTimes_13 at h
          refine lv_iload hx hb dX2_addTimes_13 (lv_at hl 5 rfl) ?_
          refine lv_bipush (v := (9 : Int32)) hx hb dX2_addTimes_15 (by decide) ?_
          refine lv_icmp_ge (tgt := 76) hx hb dX2_addTimes_17 (by decide) (fun hq => ?_) (fun hq => ?_)
          · have h := h.1 hq
            exact jq76 _ _ _ _ _ h hM (lv_sub hl [0, 1, 2, 3, 4] rfl)
          · have h := h.2 hq
            refine lv_iload hx hb dX2_addTimes_20 (lv_at hl 4 rfl) ?_
            refine lv_bipush (v := (9 : Int32)) hx hb dX2_addTimes_22 (by decide) ?_
            refine lv_imul hx hb dX2_addTimes_24 ?_
            refine lv_iload hx hb dX2_addTimes_25 (lv_at hl 5 rfl) ?_
            refine lv_iadd hx hb dX2_addTimes_27 ?_
            refine lv_topi (fun y1 ey1 => ?_)
            have h := h y1 ey1
            refine lv_istore (lv' := [(6, .int y1), (0, .ref h0), (1, .int x1), (2, .int x2), (3, .int x3), (4, .int x4), (5, .int x5)]) hx hb dX2_addTimes_28 hl (by decide) rfl (fun ls hl => ?_)
            refine lv_aload_n hx hb dX2_addTimes_30 rfl (lv_at hl 1 rfl) ?_
            refine m_get (C := RX2) (T := TX2) (N := 6) (ci := 2) (ref := "LoweredPowers$Lowering") (v := .ref (r0 0)) C0 hM 0 rfl rfl kt_X2_addTimes_X2 0 (by decide) kw_X2_addTimes_1 rfl rfl dX2_addTimes_31 ?_
            refine lv_iload hx hb dX2_addTimes_34 (lv_at hl 0 rfl) ?_
            refine lv_aload_n hx hb dX2_addTimes_36 rfl (lv_at hl 1 rfl) ?_
            refine m_get (C := RX2) (T := TX2) (N := 6) (ci := 2) (ref := "LoweredPowers$Lowering") (v := .ref (r0 0)) C0 hM 0 rfl rfl kt_X2_addTimes_X2 0 (by decide) kw_X2_addTimes_1 rfl rfl dX2_addTimes_37 ?_
            refine lv_iload hx hb dX2_addTimes_40 (lv_at hl 0 rfl) ?_
            obtain ⟨hc2, h⟩ := h
            refine m_iald C0 hM 1 rfl hc2 dX2_addTimes_42 ?_
            refine lv_i2l hx hb dX2_addTimes_43 rfl ?_
            refine lv_iload_n hx hb dX2_addTimes_44 rfl (lv_at hl 2 rfl) ?_
            refine lv_i2l hx hb dX2_addTimes_45 rfl ?_
            refine lv_aload_n hx hb dX2_addTimes_46 rfl (lv_at hl 1 rfl) ?_
            refine m_get (C := RX2) (T := TX2) (N := 6) (ci := 2) (ref := "LoweredPowers$Lowering") (v := .ref (r0 3)) C0 hM 0 rfl rfl kt_X2_addTimes_X2 3 (by decide) kw_X2_addTimes_2 rfl rfl dX2_addTimes_47 ?_
            refine lv_iload hx hb dX2_addTimes_50 (lv_at hl 5 rfl) ?_
            refine lv_iload_n hx hb dX2_addTimes_52 rfl (lv_at hl 3 rfl) ?_
            refine lv_isub hx hb dX2_addTimes_53 ?_
            refine lv_bipush (v := (9 : Int32)) hx hb dX2_addTimes_54 (by decide) ?_
            refine lv_imul hx hb dX2_addTimes_56 ?_
            refine lv_iload hx hb dX2_addTimes_57 (lv_at hl 6 rfl) ?_
            refine lv_iadd hx hb dX2_addTimes_59 ?_
            refine lv_iload_n hx hb dX2_addTimes_60 rfl (lv_at hl 4 rfl) ?_
            refine lv_isub hx hb dX2_addTimes_61 ?_
            obtain ⟨hc3, h⟩ := h
            refine m_iald C0 hM 2 rfl hc3 dX2_addTimes_62 ?_
            refine lv_i2l hx hb dX2_addTimes_63 rfl ?_
            refine lv_lmul hx hb dX2_addTimes_64 ?_
            refine lv_ladd hx hb dX2_addTimes_65 ?_
            refine m_calli (wc := []) C0 hM [] rfl (m_runS (wc := []) (As := [.long (((A_0_0_sum (y1).toNatClampNeg).toInt64) + ((x1.toInt64) * ((A_0_3_derived (((((x4 - x2) * (9 : Int32)) + x5) - x3)).toNatClampNeg).toInt64)))]) (rest := [.int y1, .ref (r0 0)]) C0 hM (ct_X3_fold l D cI cJ cZ (((A_0_0_sum (y1).toNatClampNeg).toInt64) + ((x1.toInt64) * ((A_0_3_derived (((((x4 - x2) * (9 : Int32)) + x5) - x3)).toNatClampNeg).toInt64))) _ _ h) [] rfl (by decide) gX2_addTimes_X3_fold rfl rfl rfl hd_X3_fold ⟨Nat.le_of_ble_eq_true rfl, Nat.le_of_ble_eq_true rfl⟩ rfl hl.1 rfl (Nat.le_of_ble_eq_true rfl) dX2_addTimes_66 ⟨Nat.le_of_ble_eq_true rfl, Nat.le_of_ble_eq_true rfl⟩) (fun _ => [(h0, .inr (2, oX2 r0 )), ((r0 0), .inl (cI, 225, .inl A_0_0_sum)), ((r0 3), .inl (cI, 225, .inl A_0_3_derived))]) (fun _ => rfl) (fun _ => rfl) (fun y4 _ H locs h hM => ?_)
            refine m_iast (ws' := [(h0, .inr (2, oX2 r0 )), ((r0 0), .inl (cI, 225, .inl (upd A_0_0_sum (y1).toNatClampNeg y4))), ((r0 3), .inl (cI, 225, .inl A_0_3_derived))]) C0 hM 1 rfl hc2 rfl dX2_addTimes_69 (fun H locs hM => ?_)
            refine lv_iinc (v := (x5 + (1 : Int32))) (lv' := [(5, .int (x5 + (1 : Int32))), (6, .int y1), (0, .ref h0), (1, .int x1), (2, .int x2), (3, .int x3), (4, .int x4)]) hx hb dX2_addTimes_70 hl (k := 6) rfl rfl (by decide) rfl (fun ls hl => ?_)
            refine lv_goto (tgt := 13) hx hb dX2_addTimes_73 (by decide) ?_
            exact ih13 _ _ _ _ _ _ h hM (lv_sub hl [2, 3, 4, 5, 6, 0] rfl)
      intro x4 A_0_0_sum H locs ls h hM hl
      unfold lp_X2_addTimes_3 at h
      refine lv_iload hx hb dX2_addTimes_3 (lv_at hl 4 rfl) ?_
      refine lv_bipush (v := (25 : Int32)) hx hb dX2_addTimes_5 (by decide) ?_
      refine lv_icmp_ge (tgt := 82) hx hb dX2_addTimes_7 (by decide) (fun hq => ?_) (fun hq => ?_)
      · have h := h.1 hq
        subst hsz; subst hA; subst hQ
        exact m_vret C0 hr hM A_0_0_sum h rfl dX2_addTimes_82
      · have h := h.2 hq
        refine lv_iload_n hx hb dX2_addTimes_10 rfl (lv_at hl 3 rfl) ?_
        refine lv_istore (lv' := [(5, .int x3), (0, .ref h0), (1, .int x1), (2, .int x2), (3, .int x3), (4, .int x4)]) hx hb dX2_addTimes_11 hl (by decide) rfl (fun ls hl => ?_)
        obtain ⟨k0, h⟩ := h
        exact lq13 k0 _ _ _ _ _ _ h hM (lv_sub hl [1, 2, 3, 4, 5, 0] rfl)
  unfold wp_X2_addTimes at h
  refine lv_iload_n hx hb dX2_addTimes_0 rfl (lv_at hl 2 rfl) ?_
  refine lv_istore (lv' := [(4, .int x2), (0, .ref h0), (1, .int x1), (2, .int x2), (3, .int x3)]) hx hb dX2_addTimes_1 hl (by decide) rfl (fun ls hl => ?_)
  obtain ⟨k0, h⟩ := h
  exact lq3 k0 _ _ _ _ _ h hM (lv_sub hl [1, 2, 3, 4, 0] rfl)
abbrev rm_X2_addShifted : Room := { frames := 2, cells := 0, slots := 0, locals := 48 }
set_option maxRecDepth 100000 in
set_option maxHeartbeats 4000000 in
theorem ct_X2_addShifted (l : Launch) (D : va_G) (cI cJ cZ : ClassId) (h0 : Nat) (h1 : Nat) (r0 : Nat → Nat) (r1 : Nat → Nat) (A_0_0_sum : (Nat → Int32)) (A_0_3_derived : (Nat → Int32)) (A_1_0_numbers : (Nat → Int32)) (x2 : Int32) (sz : Nat) (K : (Nat → Int32) → Prop) (h : wp_X2_addShifted x2 A_0_0_sum A_0_3_derived A_1_0_numbers K) : Met l yX2_addShifted wsX2_addShifted rm_X2_addShifted (va_Pc [.ref h0, .ref h1, .int x2] (WX D cI cJ cZ [(h0, .inr (2, oX2 r0 )), ((r0 0), .inl (cI, 225, .inl A_0_0_sum)), ((r0 3), .inl (cI, 225, .inl A_0_3_derived)), (h1, .inr (3, oX4 r1 )), ((r1 0), .inl (cI, 75, .inl A_1_0_numbers))] sz)) (va_Qv (fun (u : (Nat → Int32)) => K u) (fun (u : (Nat → Int32)) t => WY D (va_A [(h0, .inr (2, oX2 r0 )), ((r0 0), .inl (cI, 225, .inl A_0_0_sum)), ((r0 3), .inl (cI, 225, .inl A_0_3_derived)), (h1, .inr (3, oX4 r1 )), ((r1 0), .inl (cI, 75, .inl A_1_0_numbers))] sz) [(h0, .inr (2, oX2 r0 )), ((r0 0), .inl (cI, 225, .inl u)), ((r0 3), .inl (cI, 225, .inl A_0_3_derived)), (h1, .inr (3, oX4 r1 )), ((r1 0), .inl (cI, 75, .inl A_1_0_numbers))] t) (va_A [(h0, .inr (2, oX2 r0 )), ((r0 0), .inl (cI, 225, .inl A_0_0_sum)), ((r0 3), .inl (cI, 225, .inl A_0_3_derived)), (h1, .inr (3, oX4 r1 )), ((r1 0), .inl (cI, 75, .inl A_1_0_numbers))] sz)) 0 0 (va_A [(h0, .inr (2, oX2 r0 )), ((r0 0), .inl (cI, 225, .inl A_0_0_sum)), ((r0 3), .inl (cI, 225, .inl A_0_3_derived)), (h1, .inr (3, oX4 r1 )), ((r1 0), .inl (cI, 75, .inl A_1_0_numbers))] sz) := by
  refine m_met (own := RX2) (cc := cX2_addShifted) (maxL := 6) (ret := none) [.ref h0, .ref h1, .int x2] [(0, .ref h0), (1, .ref h1), (2, .int x2)] (by decide) rfl rfl (Nat.le_of_ble_eq_true rfl) rfl ?_
  intro p e s m args below meth c Q A hQ hA C0 hr hnm hsz hM ls hl
  have hx := C0.1
  have hb := C0.2.1
  have hown := C0.2.2.2.1
  have lq2 : ∀ (k2 : Nat) (x3 : Int32) (A_0_0_sum : (Nat → Int32)) (H : Heap) (locs : List Loc) (ls : Array Slot) , lp_X2_addShifted_2 x2 A_0_3_derived A_1_0_numbers K k2 x3 A_0_0_sum → MW D A s.heap [(h0, .inr (2, oX2 r0 )), ((r0 0), .inl (cI, 225, .inl A_0_0_sum)), ((r0 3), .inl (cI, 225, .inl A_0_3_derived)), (h1, .inr (3, oX4 r1 )), ((r1 0), .inl (cI, 75, .inl A_1_0_numbers))] H locs → lv_has ls 6 [(0, .ref h0), (1, .ref h1), (2, .int x2), (3, .int x3)] → W p l e rm_X2_addShifted s m args below meth c H locs 0 0 Q (F0 m 2 ls []) := by
    intro k2
    induction k2 with
    | zero =>
      intro x3 A_0_0_sum H locs ls h
      unfold lp_X2_addShifted_2 at h
      exact h.elim
    | succ k2 ih2 =>
      have jq50 : ∀ (x3 : Int32) (A_0_0_sum : (Nat → Int32)) (H : Heap) (locs : List Loc) (ls : Array Slot) , jn_X2_addShifted_50 x2 A_0_3_derived A_1_0_numbers (fun x3 A_0_0_sum => lp_X2_addShifted_2 x2 A_0_3_derived A_1_0_numbers K k2 x3 A_0_0_sum) K x3 A_0_0_sum → MW D A s.heap [(h0, .inr (2, oX2 r0 )), ((r0 0), .inl (cI, 225, .inl A_0_0_sum)), ((r0 3), .inl (cI, 225, .inl A_0_3_derived)), (h1, .inr (3, oX4 r1 )), ((r1 0), .inl (cI, 75, .inl A_1_0_numbers))] H locs → lv_has ls 6 [(0, .ref h0), (1, .ref h1), (2, .int x2), (3, .int x3)] → W p l e rm_X2_addShifted s m args below meth c H locs 0 0 Q (F0 m 50 ls []) := by
        intro x3 A_0_0_sum H locs ls h hM hl
        unfold jn_X2_addShifted_50 at h
        refine lv_iinc (v := (x3 + (1 : Int32))) (lv' := [(3, .int (x3 + (1 : Int32))), (0, .ref h0), (1, .ref h1), (2, .int x2)]) hx hb dX2_addShifted_50 hl (k := 3) rfl rfl (by decide) rfl (fun ls hl => ?_)
        refine lv_goto (tgt := 2) hx hb dX2_addShifted_53 (by decide) ?_
        exact ih2 _ _ _ _ _ h hM (lv_sub hl [1, 2, 3, 0] rfl)
      have lq10 : ∀ (k10 : Nat) (x3 : Int32) (x4 : Int32) (A_0_0_sum : (Nat → Int32)) (H : Heap) (locs : List Loc) (ls : Array Slot) , lp_X2_addShifted_10 x2 A_0_3_derived A_1_0_numbers (jn_X2_addShifted_50 x2 A_0_3_derived A_1_0_numbers (fun x3 A_0_0_sum => lp_X2_addShifted_2 x2 A_0_3_derived A_1_0_numbers K k2 x3 A_0_0_sum) K) K k10 x3 x4 A_0_0_sum → MW D A s.heap [(h0, .inr (2, oX2 r0 )), ((r0 0), .inl (cI, 225, .inl A_0_0_sum)), ((r0 3), .inl (cI, 225, .inl A_0_3_derived)), (h1, .inr (3, oX4 r1 )), ((r1 0), .inl (cI, 75, .inl A_1_0_numbers))] H locs → lv_has ls 6 [(0, .ref h0), (1, .ref h1), (2, .int x2), (3, .int x3), (4, .int x4)] → W p l e rm_X2_addShifted s m args below meth c H locs 0 0 Q (F0 m 10 ls []) := by
        intro k10
        induction k10 with
        | zero =>
          intro x3 x4 A_0_0_sum H locs ls h
          unfold lp_X2_addShifted_10 at h
          exact h.elim
        | succ k10 ih10 =>
          have jq44 : ∀ (x3 : Int32) (x4 : Int32) (A_0_0_sum : (Nat → Int32)) (H : Heap) (locs : List Loc) (ls : Array Slot) , jn_X2_addShifted_44 x2 A_0_3_derived A_1_0_numbers (fun x3 x4 A_0_0_sum => lp_X2_addShifted_10 x2 A_0_3_derived A_1_0_numbers (jn_X2_addShifted_50 x2 A_0_3_derived A_1_0_numbers (fun x3 A_0_0_sum => lp_X2_addShifted_2 x2 A_0_3_derived A_1_0_numbers K k2 x3 A_0_0_sum) K) K k10 x3 x4 A_0_0_sum) (jn_X2_addShifted_50 x2 A_0_3_derived A_1_0_numbers (fun x3 A_0_0_sum => lp_X2_addShifted_2 x2 A_0_3_derived A_1_0_numbers K k2 x3 A_0_0_sum) K) K x3 x4 A_0_0_sum → MW D A s.heap [(h0, .inr (2, oX2 r0 )), ((r0 0), .inl (cI, 225, .inl A_0_0_sum)), ((r0 3), .inl (cI, 225, .inl A_0_3_derived)), (h1, .inr (3, oX4 r1 )), ((r1 0), .inl (cI, 75, .inl A_1_0_numbers))] H locs → lv_has ls 6 [(0, .ref h0), (1, .ref h1), (2, .int x2), (3, .int x3), (4, .int x4)] → W p l e rm_X2_addShifted s m args below meth c H locs 0 0 Q (F0 m 44 ls []) := by
            intro x3 x4 A_0_0_sum H locs ls h hM hl
            unfold jn_X2_addShifted_44 at h
            refine lv_iinc (v := (x4 + (1 : Int32))) (lv' := [(4, .int (x4 + (1 : Int32))), (0, .ref h0), (1, .ref h1), (2, .int x2), (3, .int x3)]) hx hb dX2_addShifted_44 hl (k := 4) rfl rfl (by decide) rfl (fun ls hl => ?_)
            refine lv_goto (tgt := 10) hx hb dX2_addShifted_47 (by decide) ?_
            exact ih10 _ _ _ _ _ _ h hM (lv_sub hl [1, 2, 3, 4, 0] rfl)
          intro x3 x4 A_0_0_sum H locs ls h hM hl
          unfold lp_X2_addShifted_10 at h
          refine lv_iload hx hb dX2_addShifted_10 (lv_at hl 4 rfl) ?_
          refine lv_iconst (v := (2 : Int32)) hx hb dX2_addShifted_12 (by decide) ?_
          refine lv_icmp_gt (tgt := 50) hx hb dX2_addShifted_13 (by decide) (fun hq => ?_) (fun hq => ?_)
          · have h := h.1 hq
            exact jq50 _ _ _ _ _ h hM (lv_sub hl [0, 1, 2, 3] rfl)
          · have h := h.2 hq
            refine lv_aload_n hx hb dX2_addShifted_16 rfl (lv_at hl 1 rfl) ?_
            refine m_get (C := RX4) (T := TX4) (N := 1) (ci := 3) (ref := "LoweredPowers$Operator") (v := .ref (r1 0)) C0 hM 3 rfl rfl kt_X2_addShifted_X4 0 (by decide) kw_X2_addShifted_1 rfl rfl dX2_addShifted_17 ?_
            refine lv_iload_n hx hb dX2_addShifted_20 rfl (lv_at hl 2 rfl) ?_
            refine lv_iload_n hx hb dX2_addShifted_21 rfl (lv_at hl 3 rfl) ?_
            refine lv_iload hx hb dX2_addShifted_22 (lv_at hl 4 rfl) ?_
            refine m_calli (wc := []) C0 hM [] rfl (m_runS (wc := []) (As := [.int x2, .int x3, .int x4]) (rest := [.ref (r1 0)]) C0 hM (ct_X4_index l D cI cJ cZ x2 x3 x4 _ _ h) [] rfl (by decide) gX2_addShifted_X4_index rfl rfl rfl hd_X4_index ⟨Nat.le_of_ble_eq_true rfl, Nat.le_of_ble_eq_true rfl⟩ rfl hl.1 rfl (Nat.le_of_ble_eq_true rfl) dX2_addShifted_24 ⟨Nat.le_of_ble_eq_true rfl, Nat.le_of_ble_eq_true rfl⟩) (fun _ => [(h0, .inr (2, oX2 r0 )), ((r0 0), .inl (cI, 225, .inl A_0_0_sum)), ((r0 3), .inl (cI, 225, .inl A_0_3_derived)), (h1, .inr (3, oX4 r1 )), ((r1 0), .inl (cI, 75, .inl A_1_0_numbers))]) (fun _ => rfl) (fun _ => rfl) (fun y1 _ H locs h hM => ?_)
            obtain ⟨hc2, h⟩ := h
            refine m_iald C0 hM 4 rfl hc2 dX2_addShifted_27 ?_
            refine lv_topi (fun y3 ey3 => ?_)
            have h := h y3 ey3
            refine lv_istore (lv' := [(5, .int y3), (0, .ref h0), (1, .ref h1), (2, .int x2), (3, .int x3), (4, .int x4)]) hx hb dX2_addShifted_28 hl (by decide) rfl (fun ls hl => ?_)
            refine lv_iload hx hb dX2_addShifted_30 (lv_at hl 0 rfl) ?_
            refine lv_if_eq (tgt := 44) hx hb dX2_addShifted_32 (by decide) (fun hq => ?_) (fun hq => ?_)
            · have h := h.1 hq
              exact jq44 _ _ _ _ _ _ h hM (lv_sub hl [1, 2, 3, 4, 5] rfl)
            · have h := h.2 hq
              refine lv_aload_n hx hb dX2_addShifted_35 rfl (lv_at hl 1 rfl) ?_
              refine lv_iload hx hb dX2_addShifted_36 (lv_at hl 0 rfl) ?_
              refine lv_iload_n hx hb dX2_addShifted_38 rfl (lv_at hl 4 rfl) ?_
              refine lv_iload hx hb dX2_addShifted_39 (lv_at hl 5 rfl) ?_
              refine m_callv (wc := [(h0, .inr (2, oX2 r0 )), ((r0 0), .inl (cI, 225, .inl A_0_0_sum)), ((r0 3), .inl (cI, 225, .inl A_0_3_derived))]) C0 hM [0, 1, 2] rfl (m_runV (wc := [(h0, .inr (2, oX2 r0 )), ((r0 0), .inl (cI, 225, .inl A_0_0_sum)), ((r0 3), .inl (cI, 225, .inl A_0_3_derived))]) (As := [.int y3, .int x3, .int x4]) (rest := []) (ci := 2) C0 hM (ct_X2_addTimes l D cI cJ cZ h0 r0 A_0_0_sum A_0_3_derived y3 x3 x4 _ _ h) [0, 1, 2] rfl (by decide) gX2_addShifted_X2_addTimes rfl rfl rfl rfl rfl hd_X2_addTimes ⟨Nat.le_of_ble_eq_true rfl, Nat.le_of_ble_eq_true rfl⟩ rfl hl.1 rfl (Nat.le_of_ble_eq_true rfl) dX2_addShifted_41 ⟨Nat.le_of_ble_eq_true rfl, Nat.le_of_ble_eq_true rfl⟩) (fun u => [(h0, .inr (2, oX2 r0 )), ((r0 0), .inl (cI, 225, .inl u)), ((r0 3), .inl (cI, 225, .inl A_0_3_derived)), (h1, .inr (3, oX4 r1 )), ((r1 0), .inl (cI, 75, .inl A_1_0_numbers))]) (fun _ => rfl) (fun _ => rfl) (fun b4 H locs h hM => ?_)
              exact jq44 _ _ _ _ _ _ h hM (lv_sub hl [1, 2, 3, 4, 5] rfl)
      intro x3 A_0_0_sum H locs ls h hM hl
      unfold lp_X2_addShifted_2 at h
      refine lv_iload_n hx hb dX2_addShifted_2 rfl (lv_at hl 3 rfl) ?_
      refine lv_iconst (v := (4 : Int32)) hx hb dX2_addShifted_3 (by decide) ?_
      refine lv_icmp_gt (tgt := 56) hx hb dX2_addShifted_4 (by decide) (fun hq => ?_) (fun hq => ?_)
      · have h := h.1 hq
        subst hsz; subst hA; subst hQ
        exact m_vret C0 hr hM A_0_0_sum h rfl dX2_addShifted_56
      · have h := h.2 hq
        refine lv_iconst (v := (0 : Int32)) hx hb dX2_addShifted_7 (by decide) ?_
        refine lv_istore (lv' := [(4, .int (0 : Int32)), (0, .ref h0), (1, .ref h1), (2, .int x2), (3, .int x3)]) hx hb dX2_addShifted_8 hl (by decide) rfl (fun ls hl => ?_)
        obtain ⟨k0, h⟩ := h
        exact lq10 k0 _ _ _ _ _ _ h hM (lv_sub hl [1, 2, 3, 4, 0] rfl)
  unfold wp_X2_addShifted at h
  refine lv_iconst (v := (0 : Int32)) hx hb dX2_addShifted_0 (by decide) ?_
  refine lv_istore_n (lv' := [(3, .int (0 : Int32)), (0, .ref h0), (1, .ref h1), (2, .int x2)]) hx hb dX2_addShifted_1 rfl hl (by decide) rfl (fun ls hl => ?_)
  obtain ⟨k0, h⟩ := h
  exact lq2 k0 _ _ _ _ _ h hM (lv_sub hl [1, 2, 3, 0] rfl)
abbrev rm_X2_apply : Room := { frames := 3, cells := 0, slots := 0, locals := 73 }
set_option maxRecDepth 100000 in
set_option maxHeartbeats 4000000 in
theorem ct_X2_apply (l : Launch) (D : va_G) (cI cJ cZ : ClassId) (h0 : Nat) (h1 : Nat) (h2 : Nat) (r0 : Nat → Nat) (r1 : Nat → Nat) (A_0_0_sum : (Nat → Int32)) (A_0_3_derived : (Nat → Int32)) (A_0_4_next : (Nat → Int32)) (A_1_0_numbers : (Nat → Int32)) (A2 : (Nat → Int32)) (sz : Nat) (K : (Nat → Int32) → (Nat → Int32) → (Nat → Int32) → Prop) (h : wp_X2_apply A_0_0_sum A_0_3_derived A_0_4_next A_1_0_numbers A2 K) : Met l yX2_apply wsX2_apply rm_X2_apply (va_Pc [.ref h0, .ref h1, .ref h2] (WX D cI cJ cZ [(h0, .inr (2, oX2 r0 )), ((r0 0), .inl (cI, 225, .inl A_0_0_sum)), ((r0 3), .inl (cI, 225, .inl A_0_3_derived)), ((r0 4), .inl (cI, 225, .inl A_0_4_next)), (h1, .inr (3, oX4 r1 )), ((r1 0), .inl (cI, 75, .inl A_1_0_numbers)), (h2, .inl (cI, 5, .inl A2))] sz)) (va_Qv (fun (u : (Nat → Int32) × (Nat → Int32) × (Nat → Int32)) => K u.1 u.2.1 u.2.2) (fun (u : (Nat → Int32) × (Nat → Int32) × (Nat → Int32)) t => WY D (va_A [(h0, .inr (2, oX2 r0 )), ((r0 0), .inl (cI, 225, .inl A_0_0_sum)), ((r0 3), .inl (cI, 225, .inl A_0_3_derived)), ((r0 4), .inl (cI, 225, .inl A_0_4_next)), (h1, .inr (3, oX4 r1 )), ((r1 0), .inl (cI, 75, .inl A_1_0_numbers)), (h2, .inl (cI, 5, .inl A2))] sz) [(h0, .inr (2, oX2 r0 )), ((r0 0), .inl (cI, 225, .inl u.1)), ((r0 3), .inl (cI, 225, .inl u.2.1)), ((r0 4), .inl (cI, 225, .inl u.2.2)), (h1, .inr (3, oX4 r1 )), ((r1 0), .inl (cI, 75, .inl A_1_0_numbers)), (h2, .inl (cI, 5, .inl A2))] t) (va_A [(h0, .inr (2, oX2 r0 )), ((r0 0), .inl (cI, 225, .inl A_0_0_sum)), ((r0 3), .inl (cI, 225, .inl A_0_3_derived)), ((r0 4), .inl (cI, 225, .inl A_0_4_next)), (h1, .inr (3, oX4 r1 )), ((r1 0), .inl (cI, 75, .inl A_1_0_numbers)), (h2, .inl (cI, 5, .inl A2))] sz)) 0 0 (va_A [(h0, .inr (2, oX2 r0 )), ((r0 0), .inl (cI, 225, .inl A_0_0_sum)), ((r0 3), .inl (cI, 225, .inl A_0_3_derived)), ((r0 4), .inl (cI, 225, .inl A_0_4_next)), (h1, .inr (3, oX4 r1 )), ((r1 0), .inl (cI, 75, .inl A_1_0_numbers)), (h2, .inl (cI, 5, .inl A2))] sz) := by
  refine m_met (own := RX2) (cc := cX2_apply) (maxL := 5) (ret := none) [.ref h0, .ref h1, .ref h2] [(0, .ref h0), (1, .ref h1), (2, .ref h2)] (by decide) rfl rfl (Nat.le_of_ble_eq_true rfl) rfl ?_
  intro p e s m args below meth c Q A hQ hA C0 hr hnm hsz hM ls hl
  have hx := C0.1
  have hb := C0.2.1
  have hown := C0.2.2.2.1
  have lq20 : ∀ (k20 : Nat) (x3 : Int32) (x4 : Int32) (A_0_0_sum : (Nat → Int32)) (A_0_3_derived : (Nat → Int32)) (A_0_4_next : (Nat → Int32)) (H : Heap) (locs : List Loc) (ls : Array Slot) , lp_X2_apply_20 A_1_0_numbers A2 K k20 x3 x4 A_0_0_sum A_0_3_derived A_0_4_next → MW D A s.heap [(h0, .inr (2, oX2 r0 )), ((r0 0), .inl (cI, 225, .inl A_0_0_sum)), ((r0 3), .inl (cI, 225, .inl A_0_3_derived)), ((r0 4), .inl (cI, 225, .inl A_0_4_next)), (h1, .inr (3, oX4 r1 )), ((r1 0), .inl (cI, 75, .inl A_1_0_numbers)), (h2, .inl (cI, 5, .inl A2))] H locs → lv_has ls 5 [(0, .ref h0), (1, .ref h1), (2, .ref h2), (3, .int x3), (4, .int x4)] → W p l e rm_X2_apply s m args below meth c H locs 0 0 Q (F0 m 20 ls []) := by
    intro k20
    induction k20 with
    | zero =>
      intro x3 x4 A_0_0_sum A_0_3_derived A_0_4_next H locs ls h
      unfold lp_X2_apply_20 at h
      exact h.elim
    | succ k20 ih20 =>
      have jq48 : ∀ (x3 : Int32) (x4 : Int32) (A_0_0_sum : (Nat → Int32)) (A_0_3_derived : (Nat → Int32)) (A_0_4_next : (Nat → Int32)) (H : Heap) (locs : List Loc) (ls : Array Slot) , jn_X2_apply_48 A_1_0_numbers A2 (fun x3 x4 A_0_0_sum A_0_3_derived A_0_4_next => lp_X2_apply_20 A_1_0_numbers A2 K k20 x3 x4 A_0_0_sum A_0_3_derived A_0_4_next) K x3 x4 A_0_0_sum A_0_3_derived A_0_4_next → MW D A s.heap [(h0, .inr (2, oX2 r0 )), ((r0 0), .inl (cI, 225, .inl A_0_0_sum)), ((r0 3), .inl (cI, 225, .inl A_0_3_derived)), ((r0 4), .inl (cI, 225, .inl A_0_4_next)), (h1, .inr (3, oX4 r1 )), ((r1 0), .inl (cI, 75, .inl A_1_0_numbers)), (h2, .inl (cI, 5, .inl A2))] H locs → lv_has ls 5 [(0, .ref h0), (1, .ref h1), (2, .ref h2), (3, .int x3), (4, .int x4)] → W p l e rm_X2_apply s m args below meth c H locs 0 0 Q (F0 m 48 ls []) := by
        intro x3 x4 A_0_0_sum A_0_3_derived A_0_4_next H locs ls h hM hl
        unfold jn_X2_apply_48 at h
        refine lv_aload_n hx hb dX2_apply_48 rfl (lv_at hl 0 rfl) ?_
        refine lv_aload_n hx hb dX2_apply_49 rfl (lv_at hl 1 rfl) ?_
        refine lv_iload hx hb dX2_apply_50 (lv_at hl 4 rfl) ?_
        refine m_callv (wc := [(h0, .inr (2, oX2 r0 )), ((r0 0), .inl (cI, 225, .inl A_0_0_sum)), ((r0 3), .inl (cI, 225, .inl A_0_3_derived)), (h1, .inr (3, oX4 r1 )), ((r1 0), .inl (cI, 75, .inl A_1_0_numbers))]) C0 hM [0, 1, 2, 4, 5] rfl (m_runV (wc := [(h0, .inr (2, oX2 r0 )), ((r0 0), .inl (cI, 225, .inl A_0_0_sum)), ((r0 3), .inl (cI, 225, .inl A_0_3_derived)), (h1, .inr (3, oX4 r1 )), ((r1 0), .inl (cI, 75, .inl A_1_0_numbers))]) (As := [.ref h1, .int x4]) (rest := []) (ci := 2) C0 hM (ct_X2_addShifted l D cI cJ cZ h0 h1 r0 r1 A_0_0_sum A_0_3_derived A_1_0_numbers x4 _ _ h) [0, 1, 2, 4, 5] rfl (by decide) gX2_apply_X2_addShifted rfl rfl rfl rfl rfl hd_X2_addShifted ⟨Nat.le_of_ble_eq_true rfl, Nat.le_of_ble_eq_true rfl⟩ rfl hl.1 rfl (Nat.le_of_ble_eq_true rfl) dX2_apply_52 ⟨Nat.le_of_ble_eq_true rfl, Nat.le_of_ble_eq_true rfl⟩) (fun u => [(h0, .inr (2, oX2 r0 )), ((r0 0), .inl (cI, 225, .inl u)), ((r0 3), .inl (cI, 225, .inl A_0_3_derived)), ((r0 4), .inl (cI, 225, .inl A_0_4_next)), (h1, .inr (3, oX4 r1 )), ((r1 0), .inl (cI, 75, .inl A_1_0_numbers)), (h2, .inl (cI, 5, .inl A2))]) (fun _ => rfl) (fun _ => rfl) (fun b1 H locs h hM => ?_)
        refine lv_iinc (v := (x4 + (1 : Int32))) (lv' := [(4, .int (x4 + (1 : Int32))), (0, .ref h0), (1, .ref h1), (2, .ref h2), (3, .int x3)]) hx hb dX2_apply_55 hl (k := 4) rfl rfl (by decide) rfl (fun ls hl => ?_)
        refine lv_goto (tgt := 20) hx hb dX2_apply_58 (by decide) ?_
        exact ih20 _ _ _ _ _ _ _ _ h hM (lv_sub hl [1, 2, 3, 4, 0] rfl)
      intro x3 x4 A_0_0_sum A_0_3_derived A_0_4_next H locs ls h hM hl
      unfold lp_X2_apply_20 at h
      refine lv_iload hx hb dX2_apply_20 (lv_at hl 4 rfl) ?_
      refine lv_iload_n hx hb dX2_apply_22 rfl (lv_at hl 3 rfl) ?_
      refine lv_icmp_gt (tgt := 61) hx hb dX2_apply_23 (by decide) (fun hq => ?_) (fun hq => ?_)
      · have h := h.1 hq
        subst hsz; subst hA; subst hQ
        exact m_vret C0 hr hM (A_0_0_sum, A_0_3_derived, A_0_4_next) h rfl dX2_apply_61
      · have h := h.2 hq
        refine lv_iload hx hb dX2_apply_26 (lv_at hl 4 rfl) ?_
        refine lv_if_le (tgt := 48) hx hb dX2_apply_28 (by decide) (fun hq => ?_) (fun hq => ?_)
        · have h := h.1 hq
          exact jq48 _ _ _ _ _ _ _ _ h hM (lv_sub hl [0, 1, 2, 3, 4] rfl)
        · have h := h.2 hq
          refine lv_aload_n hx hb dX2_apply_31 rfl (lv_at hl 0 rfl) ?_
          refine m_get (C := RX2) (T := TX2) (N := 6) (ci := 2) (ref := "LoweredPowers$Lowering") (v := .ref (r0 0)) C0 hM 0 rfl rfl kt_X2_apply_X2 0 (by decide) kw_X2_apply_1 rfl rfl dX2_apply_32 ?_
          refine lv_aload_n hx hb dX2_apply_35 rfl (lv_at hl 2 rfl) ?_
          refine m_callv (wc := [((r0 0), .inl (cI, 225, .inl A_0_0_sum)), (h2, .inl (cI, 5, .inl A2))]) C0 hM [1, 6] rfl (m_runS (wc := [((r0 0), .inl (cI, 225, .inl A_0_0_sum)), (h2, .inl (cI, 5, .inl A2))]) (As := [.ref (r0 0), .ref h2]) (rest := []) C0 hM (ct_X2_multiplyGrid l D cI cJ cZ (r0 0) h2 A_0_0_sum A2 _ _ h) [1, 6] rfl (by decide) gX2_apply_X2_multiplyGrid rfl rfl rfl hd_X2_multiplyGrid ⟨Nat.le_of_ble_eq_true rfl, Nat.le_of_ble_eq_true rfl⟩ rfl hl.1 rfl (Nat.le_of_ble_eq_true rfl) dX2_apply_36 ⟨Nat.le_of_ble_eq_true rfl, Nat.le_of_ble_eq_true rfl⟩) (fun u => [(h0, .inr (2, oX2 r0 )), ((r0 0), .inl (cI, 225, .inl u)), ((r0 3), .inl (cI, 225, .inl A_0_3_derived)), ((r0 4), .inl (cI, 225, .inl A_0_4_next)), (h1, .inr (3, oX4 r1 )), ((r1 0), .inl (cI, 75, .inl A_1_0_numbers)), (h2, .inl (cI, 5, .inl A2))]) (fun _ => rfl) (fun _ => rfl) (fun b2 H locs h hM => ?_)
          refine lv_aload_n hx hb dX2_apply_39 rfl (lv_at hl 0 rfl) ?_
          refine lv_aload_n hx hb dX2_apply_40 rfl (lv_at hl 2 rfl) ?_
          refine lv_iload hx hb dX2_apply_41 (lv_at hl 4 rfl) ?_
          refine lv_iconst (v := (1 : Int32)) hx hb dX2_apply_43 (by decide) ?_
          refine lv_isub hx hb dX2_apply_44 ?_
          refine m_callv (wc := [(h0, .inr (2, oX2 r0 )), ((r0 3), .inl (cI, 225, .inl A_0_3_derived)), ((r0 4), .inl (cI, 225, .inl A_0_4_next)), (h2, .inl (cI, 5, .inl A2))]) C0 hM [0, 2, 3, 6] rfl (m_runV (wc := [(h0, .inr (2, oX2 r0 )), ((r0 3), .inl (cI, 225, .inl A_0_3_derived)), ((r0 4), .inl (cI, 225, .inl A_0_4_next)), (h2, .inl (cI, 5, .inl A2))]) (As := [.ref h2, .int (x4 - (1 : Int32))]) (rest := []) (ci := 2) C0 hM (ct_X2_deriveMore l D cI cJ cZ h0 h2 r0 A_0_3_derived A_0_4_next A2 (x4 - (1 : Int32)) _ _ h) [0, 2, 3, 6] rfl (by decide) gX2_apply_X2_deriveMore rfl rfl rfl rfl rfl hd_X2_deriveMore ⟨Nat.le_of_ble_eq_true rfl, Nat.le_of_ble_eq_true rfl⟩ rfl hl.1 rfl (Nat.le_of_ble_eq_true rfl) dX2_apply_45 ⟨Nat.le_of_ble_eq_true rfl, Nat.le_of_ble_eq_true rfl⟩) (fun u => [(h0, .inr (2, oX2 r0 )), ((r0 0), .inl (cI, 225, .inl b2)), ((r0 3), .inl (cI, 225, .inl u.1)), ((r0 4), .inl (cI, 225, .inl u.2)), (h1, .inr (3, oX4 r1 )), ((r1 0), .inl (cI, 75, .inl A_1_0_numbers)), (h2, .inl (cI, 5, .inl A2))]) (fun _ => rfl) (fun _ => rfl) (fun u H locs h hM => ?_)
          obtain ⟨b3, b4⟩ := u
          dsimp only at h
          have hM : MW D A s.heap [(h0, .inr (2, oX2 r0 )), ((r0 0), .inl (cI, 225, .inl b2)), ((r0 3), .inl (cI, 225, .inl b3)), ((r0 4), .inl (cI, 225, .inl b4)), (h1, .inr (3, oX4 r1 )), ((r1 0), .inl (cI, 75, .inl A_1_0_numbers)), (h2, .inl (cI, 5, .inl A2))] H locs := hM
          exact jq48 _ _ _ _ _ _ _ _ h hM (lv_sub hl [0, 1, 2, 3, 4] rfl)
  unfold wp_X2_apply at h
  refine lv_aload_n hx hb dX2_apply_0 rfl (lv_at hl 0 rfl) ?_
  refine m_get (C := RX2) (T := TX2) (N := 6) (ci := 2) (ref := "LoweredPowers$Lowering") (v := .ref (r0 0)) C0 hM 0 rfl rfl kt_X2_apply_X2 0 (by decide) kw_X2_apply_1 rfl rfl dX2_apply_1 ?_
  refine lv_iconst (v := (0 : Int32)) hx hb dX2_apply_4 (by decide) ?_
  refine m_callv (wc := [((r0 0), .inl (cI, 225, .inl A_0_0_sum))]) C0 hM [1] rfl (m_runS (wc := [((r0 0), .inl (cI, 225, .inl A_0_0_sum))]) (As := [.ref (r0 0), .int (0 : Int32)]) (rest := []) C0 hM (ct_J7_fill_53178 l D cI cJ cZ (r0 0) 225 A_0_0_sum (0 : Int32) _ _ h) [1] rfl (by decide) gX2_apply_J7_fill_53178 rfl rfl rfl hd_J7_fill_53178 ⟨Nat.le_of_ble_eq_true rfl, Nat.le_of_ble_eq_true rfl⟩ rfl hl.1 rfl (Nat.le_of_ble_eq_true rfl) dX2_apply_5 ⟨Nat.le_of_ble_eq_true rfl, Nat.le_of_ble_eq_true rfl⟩) (fun u => [(h0, .inr (2, oX2 r0 )), ((r0 0), .inl (cI, 225, .inl u)), ((r0 3), .inl (cI, 225, .inl A_0_3_derived)), ((r0 4), .inl (cI, 225, .inl A_0_4_next)), (h1, .inr (3, oX4 r1 )), ((r1 0), .inl (cI, 75, .inl A_1_0_numbers)), (h2, .inl (cI, 5, .inl A2))]) (fun _ => rfl) (fun _ => rfl) (fun b5 H locs h hM => ?_)
  refine lv_aload_n hx hb dX2_apply_8 rfl (lv_at hl 0 rfl) ?_
  refine m_callv (wc := [(h0, .inr (2, oX2 r0 )), ((r0 3), .inl (cI, 225, .inl A_0_3_derived))]) C0 hM [0, 2] rfl (m_runV (wc := [(h0, .inr (2, oX2 r0 )), ((r0 3), .inl (cI, 225, .inl A_0_3_derived))]) (As := []) (rest := []) (ci := 2) C0 hM (ct_X2_startDeriving l D cI cJ cZ h0 r0 A_0_3_derived _ _ h) [0, 2] rfl (by decide) gX2_apply_X2_startDeriving rfl rfl rfl rfl rfl hd_X2_startDeriving ⟨Nat.le_of_ble_eq_true rfl, Nat.le_of_ble_eq_true rfl⟩ rfl hl.1 rfl (Nat.le_of_ble_eq_true rfl) dX2_apply_9 ⟨Nat.le_of_ble_eq_true rfl, Nat.le_of_ble_eq_true rfl⟩) (fun u => [(h0, .inr (2, oX2 r0 )), ((r0 0), .inl (cI, 225, .inl b5)), ((r0 3), .inl (cI, 225, .inl u)), ((r0 4), .inl (cI, 225, .inl A_0_4_next)), (h1, .inr (3, oX4 r1 )), ((r1 0), .inl (cI, 75, .inl A_1_0_numbers)), (h2, .inl (cI, 5, .inl A2))]) (fun _ => rfl) (fun _ => rfl) (fun b6 H locs h hM => ?_)
  refine lv_aload_n hx hb dX2_apply_12 rfl (lv_at hl 1 rfl) ?_
  refine m_calli (wc := [(h1, .inr (3, oX4 r1 )), ((r1 0), .inl (cI, 75, .inl A_1_0_numbers))]) C0 hM [4, 5] rfl (m_runV (wc := [(h1, .inr (3, oX4 r1 )), ((r1 0), .inl (cI, 75, .inl A_1_0_numbers))]) (As := []) (rest := []) (ci := 3) C0 hM (ct_X4_topDerivative l D cI cJ cZ h1 r1 A_1_0_numbers _ _ h) [4, 5] rfl (by decide) gX2_apply_X4_topDerivative rfl rfl rfl rfl rfl hd_X4_topDerivative ⟨Nat.le_of_ble_eq_true rfl, Nat.le_of_ble_eq_true rfl⟩ rfl hl.1 rfl (Nat.le_of_ble_eq_true rfl) dX2_apply_13 ⟨Nat.le_of_ble_eq_true rfl, Nat.le_of_ble_eq_true rfl⟩) (fun _ => [(h0, .inr (2, oX2 r0 )), ((r0 0), .inl (cI, 225, .inl b5)), ((r0 3), .inl (cI, 225, .inl b6)), ((r0 4), .inl (cI, 225, .inl A_0_4_next)), (h1, .inr (3, oX4 r1 )), ((r1 0), .inl (cI, 75, .inl A_1_0_numbers)), (h2, .inl (cI, 5, .inl A2))]) (fun _ => rfl) (fun _ => rfl) (fun y7 _ H locs h hM => ?_)
  refine lv_istore_n (lv' := [(3, .int y7), (0, .ref h0), (1, .ref h1), (2, .ref h2)]) hx hb dX2_apply_16 rfl hl (by decide) rfl (fun ls hl => ?_)
  refine lv_iconst (v := (0 : Int32)) hx hb dX2_apply_17 (by decide) ?_
  refine lv_istore (lv' := [(4, .int (0 : Int32)), (3, .int y7), (0, .ref h0), (1, .ref h1), (2, .ref h2)]) hx hb dX2_apply_18 hl (by decide) rfl (fun ls hl => ?_)
  obtain ⟨k0, h⟩ := h
  exact lq20 k0 _ _ _ _ _ _ _ _ h hM (lv_sub hl [2, 3, 4, 1, 0] rfl)
abbrev rm_X2_sumIsBTimesPower : Room := { frames := 1, cells := 0, slots := 0, locals := 22 }
set_option maxRecDepth 100000 in
set_option maxHeartbeats 4000000 in
theorem ct_X2_sumIsBTimesPower (l : Launch) (D : va_G) (cI cJ cZ : ClassId) (h0 : Nat) (r0 : Nat → Nat) (A_0_0_sum : (Nat → Int32)) (A_0_1_b : (Nat → Int32)) (A_0_5_power : (Nat → Int32)) (sz : Nat) (K : Int32 → Prop) (h : wp_X2_sumIsBTimesPower A_0_0_sum A_0_1_b A_0_5_power K) : Met l yX2_sumIsBTimesPower wsX2_sumIsBTimesPower rm_X2_sumIsBTimesPower (va_Pc [.ref h0] (WX D cI cJ cZ [(h0, .inr (2, oX2 r0 )), ((r0 0), .inl (cI, 225, .inl A_0_0_sum)), ((r0 1), .inl (cI, 9, .inl A_0_1_b)), ((r0 5), .inl (cI, 25, .inl A_0_5_power))] sz)) (va_Qi (fun (r : Int32) (_ : Unit) => K r ) (fun (_ : Unit) t => WY D (va_A [(h0, .inr (2, oX2 r0 )), ((r0 0), .inl (cI, 225, .inl A_0_0_sum)), ((r0 1), .inl (cI, 9, .inl A_0_1_b)), ((r0 5), .inl (cI, 25, .inl A_0_5_power))] sz) [(h0, .inr (2, oX2 r0 )), ((r0 0), .inl (cI, 225, .inl A_0_0_sum)), ((r0 1), .inl (cI, 9, .inl A_0_1_b)), ((r0 5), .inl (cI, 25, .inl A_0_5_power))] t) (va_A [(h0, .inr (2, oX2 r0 )), ((r0 0), .inl (cI, 225, .inl A_0_0_sum)), ((r0 1), .inl (cI, 9, .inl A_0_1_b)), ((r0 5), .inl (cI, 25, .inl A_0_5_power))] sz)) 0 0 (va_A [(h0, .inr (2, oX2 r0 )), ((r0 0), .inl (cI, 225, .inl A_0_0_sum)), ((r0 1), .inl (cI, 9, .inl A_0_1_b)), ((r0 5), .inl (cI, 25, .inl A_0_5_power))] sz) := by
  refine m_met (own := RX2) (cc := cX2_sumIsBTimesPower) (maxL := 3) (ret := some .boolean) [.ref h0] [(0, .ref h0)] (by decide) rfl rfl (Nat.le_of_ble_eq_true rfl) rfl ?_
  intro p e s m args below meth c Q A hQ hA C0 hr hnm hsz hM ls hl
  have hx := C0.1
  have hb := C0.2.1
  have hown := C0.2.2.2.1
  have lq2 : ∀ (k2 : Nat) (x1 : Int32) (H : Heap) (locs : List Loc) (ls : Array Slot) , lp_X2_sumIsBTimesPower_2 A_0_0_sum A_0_1_b A_0_5_power K k2 x1 → MW D A s.heap [(h0, .inr (2, oX2 r0 )), ((r0 0), .inl (cI, 225, .inl A_0_0_sum)), ((r0 1), .inl (cI, 9, .inl A_0_1_b)), ((r0 5), .inl (cI, 25, .inl A_0_5_power))] H locs → lv_has ls 3 [(0, .ref h0), (1, .int x1)] → W p l e rm_X2_sumIsBTimesPower s m args below meth c H locs 0 0 Q (F0 m 2 ls []) := by
    intro k2
    induction k2 with
    | zero =>
      intro x1 H locs ls h
      unfold lp_X2_sumIsBTimesPower_2 at h
      exact h.elim
    | succ k2 ih2 =>
      have jq56 : ∀ (x1 : Int32) (H : Heap) (locs : List Loc) (ls : Array Slot) , jn_X2_sumIsBTimesPower_56 A_0_0_sum A_0_1_b A_0_5_power (fun x1 => lp_X2_sumIsBTimesPower_2 A_0_0_sum A_0_1_b A_0_5_power K k2 x1) K x1 → MW D A s.heap [(h0, .inr (2, oX2 r0 )), ((r0 0), .inl (cI, 225, .inl A_0_0_sum)), ((r0 1), .inl (cI, 9, .inl A_0_1_b)), ((r0 5), .inl (cI, 25, .inl A_0_5_power))] H locs → lv_has ls 3 [(0, .ref h0), (1, .int x1)] → W p l e rm_X2_sumIsBTimesPower s m args below meth c H locs 0 0 Q (F0 m 56 ls []) := by
        intro x1 H locs ls h hM hl
        unfold jn_X2_sumIsBTimesPower_56 at h
        refine lv_iinc (v := (x1 + (1 : Int32))) (lv' := [(1, .int (x1 + (1 : Int32))), (0, .ref h0)]) hx hb dX2_sumIsBTimesPower_56 hl (k := 1) rfl rfl (by decide) rfl (fun ls hl => ?_)
        refine lv_goto (tgt := 2) hx hb dX2_sumIsBTimesPower_59 (by decide) ?_
        exact ih2 _ _ _ _ h hM (lv_sub hl [1, 0] rfl)
      have lq10 : ∀ (k10 : Nat) (x1 : Int32) (x2 : Int32) (H : Heap) (locs : List Loc) (ls : Array Slot) , lp_X2_sumIsBTimesPower_10 A_0_0_sum A_0_1_b A_0_5_power (jn_X2_sumIsBTimesPower_56 A_0_0_sum A_0_1_b A_0_5_power (fun x1 => lp_X2_sumIsBTimesPower_2 A_0_0_sum A_0_1_b A_0_5_power K k2 x1) K) K k10 x1 x2 → MW D A s.heap [(h0, .inr (2, oX2 r0 )), ((r0 0), .inl (cI, 225, .inl A_0_0_sum)), ((r0 1), .inl (cI, 9, .inl A_0_1_b)), ((r0 5), .inl (cI, 25, .inl A_0_5_power))] H locs → lv_has ls 3 [(0, .ref h0), (1, .int x1), (2, .int x2)] → W p l e rm_X2_sumIsBTimesPower s m args below meth c H locs 0 0 Q (F0 m 10 ls []) := by
        intro k10
        induction k10 with
        | zero =>
          intro x1 x2 H locs ls h
          unfold lp_X2_sumIsBTimesPower_10 at h
          exact h.elim
        | succ k10 ih10 =>
          intro x1 x2 H locs ls h hM hl
          unfold lp_X2_sumIsBTimesPower_10 at h
          refine lv_iload_n hx hb dX2_sumIsBTimesPower_10 rfl (lv_at hl 2 rfl) ?_
          refine lv_bipush (v := (9 : Int32)) hx hb dX2_sumIsBTimesPower_11 (by decide) ?_
          refine lv_icmp_ge (tgt := 56) hx hb dX2_sumIsBTimesPower_13 (by decide) (fun hq => ?_) (fun hq => ?_)
          · have h := h.1 hq
            exact jq56 _ _ _ _ h hM (lv_sub hl [0, 1] rfl)
          · have h := h.2 hq
            refine lv_aload_n hx hb dX2_sumIsBTimesPower_16 rfl (lv_at hl 0 rfl) ?_
            refine m_get (C := RX2) (T := TX2) (N := 6) (ci := 2) (ref := "LoweredPowers$Lowering") (v := .ref (r0 0)) C0 hM 0 rfl rfl kt_X2_sumIsBTimesPower_X2 0 (by decide) kw_X2_sumIsBTimesPower_1 rfl rfl dX2_sumIsBTimesPower_17 ?_
            refine lv_iload_n hx hb dX2_sumIsBTimesPower_20 rfl (lv_at hl 1 rfl) ?_
            refine lv_bipush (v := (9 : Int32)) hx hb dX2_sumIsBTimesPower_21 (by decide) ?_
            refine lv_imul hx hb dX2_sumIsBTimesPower_23 ?_
            refine lv_iload_n hx hb dX2_sumIsBTimesPower_24 rfl (lv_at hl 2 rfl) ?_
            refine lv_iadd hx hb dX2_sumIsBTimesPower_25 ?_
            obtain ⟨hc1, h⟩ := h
            refine m_iald C0 hM 1 rfl hc1 dX2_sumIsBTimesPower_26 ?_
            refine lv_aload_n hx hb dX2_sumIsBTimesPower_27 rfl (lv_at hl 0 rfl) ?_
            refine m_get (C := RX2) (T := TX2) (N := 6) (ci := 2) (ref := "LoweredPowers$Lowering") (v := .ref (r0 1)) C0 hM 0 rfl rfl kt_X2_sumIsBTimesPower_X2 1 (by decide) kw_X2_sumIsBTimesPower_2 rfl rfl dX2_sumIsBTimesPower_28 ?_
            refine lv_iload_n hx hb dX2_sumIsBTimesPower_31 rfl (lv_at hl 2 rfl) ?_
            obtain ⟨hc2, h⟩ := h
            refine m_iald C0 hM 2 rfl hc2 dX2_sumIsBTimesPower_32 ?_
            refine lv_i2l hx hb dX2_sumIsBTimesPower_33 rfl ?_
            refine lv_aload_n hx hb dX2_sumIsBTimesPower_34 rfl (lv_at hl 0 rfl) ?_
            refine m_get (C := RX2) (T := TX2) (N := 6) (ci := 2) (ref := "LoweredPowers$Lowering") (v := .ref (r0 5)) C0 hM 0 rfl rfl kt_X2_sumIsBTimesPower_X2 5 (by decide) kw_X2_sumIsBTimesPower_3 rfl rfl dX2_sumIsBTimesPower_35 ?_
            refine lv_iload_n hx hb dX2_sumIsBTimesPower_38 rfl (lv_at hl 1 rfl) ?_
            obtain ⟨hc3, h⟩ := h
            refine m_iald C0 hM 3 rfl hc3 dX2_sumIsBTimesPower_39 ?_
            refine lv_i2l hx hb dX2_sumIsBTimesPower_40 rfl ?_
            refine lv_lmul hx hb dX2_sumIsBTimesPower_41 ?_
            refine m_calli (wc := []) C0 hM [] rfl (m_runS (wc := []) (As := [.long (((A_0_1_b (x2).toNatClampNeg).toInt64) * ((A_0_5_power (x1).toNatClampNeg).toInt64))]) (rest := [.int (A_0_0_sum (((x1 * (9 : Int32)) + x2)).toNatClampNeg)]) C0 hM (ct_X3_fold l D cI cJ cZ (((A_0_1_b (x2).toNatClampNeg).toInt64) * ((A_0_5_power (x1).toNatClampNeg).toInt64)) _ _ h) [] rfl (by decide) gX2_sumIsBTimesPower_X3_fold rfl rfl rfl hd_X3_fold ⟨Nat.le_of_ble_eq_true rfl, Nat.le_of_ble_eq_true rfl⟩ rfl hl.1 rfl (Nat.le_of_ble_eq_true rfl) dX2_sumIsBTimesPower_42 ⟨Nat.le_of_ble_eq_true rfl, Nat.le_of_ble_eq_true rfl⟩) (fun _ => [(h0, .inr (2, oX2 r0 )), ((r0 0), .inl (cI, 225, .inl A_0_0_sum)), ((r0 1), .inl (cI, 9, .inl A_0_1_b)), ((r0 5), .inl (cI, 25, .inl A_0_5_power))]) (fun _ => rfl) (fun _ => rfl) (fun y4 _ H locs h hM => ?_)
            refine lv_icmp_eq (tgt := 50) hx hb dX2_sumIsBTimesPower_45 (by decide) (fun hq => ?_) (fun hq => ?_)
            · have h := h.1 hq
              refine lv_iinc (v := (x2 + (1 : Int32))) (lv' := [(2, .int (x2 + (1 : Int32))), (0, .ref h0), (1, .int x1)]) hx hb dX2_sumIsBTimesPower_50 hl (k := 2) rfl rfl (by decide) rfl (fun ls hl => ?_)
              refine lv_goto (tgt := 10) hx hb dX2_sumIsBTimesPower_53 (by decide) ?_
              exact ih10 _ _ _ _ _ h hM (lv_sub hl [1, 2, 0] rfl)
            · have h := h.2 hq
              refine lv_iconst (v := (0 : Int32)) hx hb dX2_sumIsBTimesPower_48 (by decide) ?_
              subst hsz; subst hA; subst hQ
              exact m_zret C0 hr hM rfl () h rfl dX2_sumIsBTimesPower_49
      intro x1 H locs ls h hM hl
      unfold lp_X2_sumIsBTimesPower_2 at h
      refine lv_iload_n hx hb dX2_sumIsBTimesPower_2 rfl (lv_at hl 1 rfl) ?_
      refine lv_bipush (v := (25 : Int32)) hx hb dX2_sumIsBTimesPower_3 (by decide) ?_
      refine lv_icmp_ge (tgt := 62) hx hb dX2_sumIsBTimesPower_5 (by decide) (fun hq => ?_) (fun hq => ?_)
      · have h := h.1 hq
        refine lv_iconst (v := (1 : Int32)) hx hb dX2_sumIsBTimesPower_62 (by decide) ?_
        subst hsz; subst hA; subst hQ
        exact m_zret C0 hr hM rfl () h rfl dX2_sumIsBTimesPower_63
      · have h := h.2 hq
        refine lv_iconst (v := (0 : Int32)) hx hb dX2_sumIsBTimesPower_8 (by decide) ?_
        refine lv_istore_n (lv' := [(2, .int (0 : Int32)), (0, .ref h0), (1, .int x1)]) hx hb dX2_sumIsBTimesPower_9 rfl hl (by decide) rfl (fun ls hl => ?_)
        obtain ⟨k0, h⟩ := h
        exact lq10 k0 _ _ _ _ _ h hM (lv_sub hl [1, 2, 0] rfl)
  unfold wp_X2_sumIsBTimesPower at h
  refine lv_iconst (v := (0 : Int32)) hx hb dX2_sumIsBTimesPower_0 (by decide) ?_
  refine lv_istore_n (lv' := [(1, .int (0 : Int32)), (0, .ref h0)]) hx hb dX2_sumIsBTimesPower_1 rfl hl (by decide) rfl (fun ls hl => ?_)
  obtain ⟨k0, h⟩ := h
  exact lq2 k0 _ _ _ _ h hM (lv_sub hl [1, 0] rfl)
abbrev rm_X2_toPowerOfS : Room := { frames := 4, cells := 0, slots := 0, locals := 97 }
set_option maxRecDepth 100000 in
set_option maxHeartbeats 4000000 in
theorem ct_X2_toPowerOfS (l : Launch) (D : va_G) (cI cJ cZ : ClassId) (h0 : Nat) (h1 : Nat) (h2 : Nat) (r0 : Nat → Nat) (r1 : Nat → Nat) (A_0_0_sum : (Nat → Int32)) (A_0_1_b : (Nat → Int32)) (A_0_3_derived : (Nat → Int32)) (A_0_4_next : (Nat → Int32)) (A_0_5_power : (Nat → Int32)) (A_1_0_numbers : (Nat → Int32)) (A2 : (Nat → Int32)) (sz : Nat) (K : Int32 → (Nat → Int32) → (Nat → Int32) → (Nat → Int32) → (Nat → Int32) → (Nat → Int32) → Prop) (h : wp_X2_toPowerOfS A_0_0_sum A_0_1_b A_0_3_derived A_0_4_next A_0_5_power A_1_0_numbers A2 K) : Met l yX2_toPowerOfS wsX2_toPowerOfS rm_X2_toPowerOfS (va_Pc [.ref h0, .ref h1, .ref h2] (WX D cI cJ cZ [(h0, .inr (2, oX2 r0 )), ((r0 0), .inl (cI, 225, .inl A_0_0_sum)), ((r0 1), .inl (cI, 9, .inl A_0_1_b)), ((r0 3), .inl (cI, 225, .inl A_0_3_derived)), ((r0 4), .inl (cI, 225, .inl A_0_4_next)), ((r0 5), .inl (cI, 25, .inl A_0_5_power)), (h1, .inr (3, oX4 r1 )), ((r1 0), .inl (cI, 75, .inl A_1_0_numbers)), (h2, .inl (cI, 5, .inl A2))] sz)) (va_Qi (fun (r : Int32) (u : (Nat → Int32) × (Nat → Int32) × (Nat → Int32) × (Nat → Int32) × (Nat → Int32)) => K r u.1 u.2.1 u.2.2.1 u.2.2.2.1 u.2.2.2.2) (fun (u : (Nat → Int32) × (Nat → Int32) × (Nat → Int32) × (Nat → Int32) × (Nat → Int32)) t => WY D (va_A [(h0, .inr (2, oX2 r0 )), ((r0 0), .inl (cI, 225, .inl A_0_0_sum)), ((r0 1), .inl (cI, 9, .inl A_0_1_b)), ((r0 3), .inl (cI, 225, .inl A_0_3_derived)), ((r0 4), .inl (cI, 225, .inl A_0_4_next)), ((r0 5), .inl (cI, 25, .inl A_0_5_power)), (h1, .inr (3, oX4 r1 )), ((r1 0), .inl (cI, 75, .inl A_1_0_numbers)), (h2, .inl (cI, 5, .inl A2))] sz) [(h0, .inr (2, oX2 r0 )), ((r0 0), .inl (cI, 225, .inl u.1)), ((r0 1), .inl (cI, 9, .inl u.2.1)), ((r0 3), .inl (cI, 225, .inl u.2.2.1)), ((r0 4), .inl (cI, 225, .inl u.2.2.2.1)), ((r0 5), .inl (cI, 25, .inl u.2.2.2.2)), (h1, .inr (3, oX4 r1 )), ((r1 0), .inl (cI, 75, .inl A_1_0_numbers)), (h2, .inl (cI, 5, .inl A2))] t) (va_A [(h0, .inr (2, oX2 r0 )), ((r0 0), .inl (cI, 225, .inl A_0_0_sum)), ((r0 1), .inl (cI, 9, .inl A_0_1_b)), ((r0 3), .inl (cI, 225, .inl A_0_3_derived)), ((r0 4), .inl (cI, 225, .inl A_0_4_next)), ((r0 5), .inl (cI, 25, .inl A_0_5_power)), (h1, .inr (3, oX4 r1 )), ((r1 0), .inl (cI, 75, .inl A_1_0_numbers)), (h2, .inl (cI, 5, .inl A2))] sz)) 0 0 (va_A [(h0, .inr (2, oX2 r0 )), ((r0 0), .inl (cI, 225, .inl A_0_0_sum)), ((r0 1), .inl (cI, 9, .inl A_0_1_b)), ((r0 3), .inl (cI, 225, .inl A_0_3_derived)), ((r0 4), .inl (cI, 225, .inl A_0_4_next)), ((r0 5), .inl (cI, 25, .inl A_0_5_power)), (h1, .inr (3, oX4 r1 )), ((r1 0), .inl (cI, 75, .inl A_1_0_numbers)), (h2, .inl (cI, 5, .inl A2))] sz) := by
  refine m_met (own := RX2) (cc := cX2_toPowerOfS) (maxL := 7) (ret := some .boolean) [.ref h0, .ref h1, .ref h2] [(0, .ref h0), (1, .ref h1), (2, .ref h2)] (by decide) rfl rfl (Nat.le_of_ble_eq_true rfl) rfl ?_
  intro p e s m args below meth c Q A hQ hA C0 hr hnm hsz hM ls hl
  have hx := C0.1
  have hb := C0.2.1
  have hown := C0.2.2.2.1
  have jq122 : ∀ (A_0_0_sum : (Nat → Int32)) (A_0_1_b : (Nat → Int32)) (A_0_3_derived : (Nat → Int32)) (A_0_4_next : (Nat → Int32)) (A_0_5_power : (Nat → Int32)) (H : Heap) (locs : List Loc) (ls : Array Slot) , jn_X2_toPowerOfS_122 A_1_0_numbers A2 K A_0_0_sum A_0_1_b A_0_3_derived A_0_4_next A_0_5_power → MW D A s.heap [(h0, .inr (2, oX2 r0 )), ((r0 0), .inl (cI, 225, .inl A_0_0_sum)), ((r0 1), .inl (cI, 9, .inl A_0_1_b)), ((r0 3), .inl (cI, 225, .inl A_0_3_derived)), ((r0 4), .inl (cI, 225, .inl A_0_4_next)), ((r0 5), .inl (cI, 25, .inl A_0_5_power)), (h1, .inr (3, oX4 r1 )), ((r1 0), .inl (cI, 75, .inl A_1_0_numbers)), (h2, .inl (cI, 5, .inl A2))] H locs → lv_has ls 7 [(0, .ref h0)] → W p l e rm_X2_toPowerOfS s m args below meth c H locs 0 0 Q (F0 m 122 ls []) := by
    intro A_0_0_sum A_0_1_b A_0_3_derived A_0_4_next A_0_5_power H locs ls h hM hl
    unfold jn_X2_toPowerOfS_122 at h
    refine lv_aload_n hx hb dX2_toPowerOfS_122 rfl (lv_at hl 0 rfl) ?_
    refine m_calli (wc := [(h0, .inr (2, oX2 r0 )), ((r0 0), .inl (cI, 225, .inl A_0_0_sum)), ((r0 1), .inl (cI, 9, .inl A_0_1_b)), ((r0 5), .inl (cI, 25, .inl A_0_5_power))]) C0 hM [0, 1, 2, 5] rfl (m_runV (wc := [(h0, .inr (2, oX2 r0 )), ((r0 0), .inl (cI, 225, .inl A_0_0_sum)), ((r0 1), .inl (cI, 9, .inl A_0_1_b)), ((r0 5), .inl (cI, 25, .inl A_0_5_power))]) (As := []) (rest := []) (ci := 2) C0 hM (ct_X2_sumIsBTimesPower l D cI cJ cZ h0 r0 A_0_0_sum A_0_1_b A_0_5_power _ _ h) [0, 1, 2, 5] rfl (by decide) gX2_toPowerOfS_X2_sumIsBTimesPower rfl rfl rfl rfl rfl hd_X2_sumIsBTimesPower ⟨Nat.le_of_ble_eq_true rfl, Nat.le_of_ble_eq_true rfl⟩ rfl hl.1 rfl (Nat.le_of_ble_eq_true rfl) dX2_toPowerOfS_123 ⟨Nat.le_of_ble_eq_true rfl, Nat.le_of_ble_eq_true rfl⟩) (fun _ => [(h0, .inr (2, oX2 r0 )), ((r0 0), .inl (cI, 225, .inl A_0_0_sum)), ((r0 1), .inl (cI, 9, .inl A_0_1_b)), ((r0 3), .inl (cI, 225, .inl A_0_3_derived)), ((r0 4), .inl (cI, 225, .inl A_0_4_next)), ((r0 5), .inl (cI, 25, .inl A_0_5_power)), (h1, .inr (3, oX4 r1 )), ((r1 0), .inl (cI, 75, .inl A_1_0_numbers)), (h2, .inl (cI, 5, .inl A2))]) (fun _ => rfl) (fun _ => rfl) (fun y1 _ H locs h hM => ?_)
    obtain ⟨hc2, h⟩ := h
    subst hsz; subst hA; subst hQ
    exact m_zret C0 hr hM hc2 (A_0_0_sum, A_0_1_b, A_0_3_derived, A_0_4_next, A_0_5_power) h rfl dX2_toPowerOfS_126
  have lq81 : ∀ (k81 : Nat) (x4 : Int32) (x5 : Int32) (x6 : Int32) (A_0_0_sum : (Nat → Int32)) (A_0_1_b : (Nat → Int32)) (A_0_3_derived : (Nat → Int32)) (A_0_4_next : (Nat → Int32)) (A_0_5_power : (Nat → Int32)) (H : Heap) (locs : List Loc) (ls : Array Slot) , lp_X2_toPowerOfS_81 A_1_0_numbers A2 (jn_X2_toPowerOfS_122 A_1_0_numbers A2 K) K k81 x4 x5 x6 A_0_0_sum A_0_1_b A_0_3_derived A_0_4_next A_0_5_power → MW D A s.heap [(h0, .inr (2, oX2 r0 )), ((r0 0), .inl (cI, 225, .inl A_0_0_sum)), ((r0 1), .inl (cI, 9, .inl A_0_1_b)), ((r0 3), .inl (cI, 225, .inl A_0_3_derived)), ((r0 4), .inl (cI, 225, .inl A_0_4_next)), ((r0 5), .inl (cI, 25, .inl A_0_5_power)), (h1, .inr (3, oX4 r1 )), ((r1 0), .inl (cI, 75, .inl A_1_0_numbers)), (h2, .inl (cI, 5, .inl A2))] H locs → lv_has ls 7 [(0, .ref h0), (4, .int x4), (5, .int x5), (6, .int x6)] → W p l e rm_X2_toPowerOfS s m args below meth c H locs 0 0 Q (F0 m 81 ls []) := by
    intro k81
    induction k81 with
    | zero =>
      intro x4 x5 x6 A_0_0_sum A_0_1_b A_0_3_derived A_0_4_next A_0_5_power H locs ls h
      unfold lp_X2_toPowerOfS_81 at h
      exact h.elim
    | succ k81 ih81 =>
      intro x4 x5 x6 A_0_0_sum A_0_1_b A_0_3_derived A_0_4_next A_0_5_power H locs ls h hM hl
      unfold lp_X2_toPowerOfS_81 at h
      refine lv_iload hx hb dX2_toPowerOfS_81 (lv_at hl 3 rfl) ?_
      refine lv_bipush (v := (9 : Int32)) hx hb dX2_toPowerOfS_83 (by decide) ?_
      refine lv_icmp_ge (tgt := 122) hx hb dX2_toPowerOfS_85 (by decide) (fun hq => ?_) (fun hq => ?_)
      · have h := h.1 hq
        exact jq122 _ _ _ _ _ _ _ _ h hM (lv_sub hl [0] rfl)
      · have h := h.2 hq
        refine lv_aload_n hx hb dX2_toPowerOfS_88 rfl (lv_at hl 0 rfl) ?_
        refine m_get (C := RX2) (T := TX2) (N := 6) (ci := 2) (ref := "LoweredPowers$Lowering") (v := .ref (r0 1)) C0 hM 0 rfl rfl kt_X2_toPowerOfS_X2 1 (by decide) kw_X2_toPowerOfS_1 rfl rfl dX2_toPowerOfS_89 ?_
        refine lv_iload hx hb dX2_toPowerOfS_92 (lv_at hl 3 rfl) ?_
        refine lv_iload hx hb dX2_toPowerOfS_94 (lv_at hl 2 rfl) ?_
        refine lv_i2l hx hb dX2_toPowerOfS_96 rfl ?_
        refine lv_aload_n hx hb dX2_toPowerOfS_97 rfl (lv_at hl 0 rfl) ?_
        refine m_get (C := RX2) (T := TX2) (N := 6) (ci := 2) (ref := "LoweredPowers$Lowering") (v := .ref (r0 0)) C0 hM 0 rfl rfl kt_X2_toPowerOfS_X2 0 (by decide) kw_X2_toPowerOfS_2 rfl rfl dX2_toPowerOfS_98 ?_
        refine lv_iload hx hb dX2_toPowerOfS_101 (lv_at hl 1 rfl) ?_
        refine lv_bipush (v := (9 : Int32)) hx hb dX2_toPowerOfS_103 (by decide) ?_
        refine lv_imul hx hb dX2_toPowerOfS_105 ?_
        refine lv_iload hx hb dX2_toPowerOfS_106 (lv_at hl 3 rfl) ?_
        refine lv_iadd hx hb dX2_toPowerOfS_108 ?_
        obtain ⟨hc3, h⟩ := h
        refine m_iald C0 hM 1 rfl hc3 dX2_toPowerOfS_109 ?_
        refine lv_i2l hx hb dX2_toPowerOfS_110 rfl ?_
        refine lv_lmul hx hb dX2_toPowerOfS_111 ?_
        refine m_calli (wc := []) C0 hM [] rfl (m_runS (wc := []) (As := [.long ((x5.toInt64) * ((A_0_0_sum (((x4 * (9 : Int32)) + x6)).toNatClampNeg).toInt64))]) (rest := [.int x6, .ref (r0 1)]) C0 hM (ct_X3_fold l D cI cJ cZ ((x5.toInt64) * ((A_0_0_sum (((x4 * (9 : Int32)) + x6)).toNatClampNeg).toInt64)) _ _ h) [] rfl (by decide) gX2_toPowerOfS_X3_fold rfl rfl rfl hd_X3_fold ⟨Nat.le_of_ble_eq_true rfl, Nat.le_of_ble_eq_true rfl⟩ rfl hl.1 rfl (Nat.le_of_ble_eq_true rfl) dX2_toPowerOfS_112 ⟨Nat.le_of_ble_eq_true rfl, Nat.le_of_ble_eq_true rfl⟩) (fun _ => [(h0, .inr (2, oX2 r0 )), ((r0 0), .inl (cI, 225, .inl A_0_0_sum)), ((r0 1), .inl (cI, 9, .inl A_0_1_b)), ((r0 3), .inl (cI, 225, .inl A_0_3_derived)), ((r0 4), .inl (cI, 225, .inl A_0_4_next)), ((r0 5), .inl (cI, 25, .inl A_0_5_power)), (h1, .inr (3, oX4 r1 )), ((r1 0), .inl (cI, 75, .inl A_1_0_numbers)), (h2, .inl (cI, 5, .inl A2))]) (fun _ => rfl) (fun _ => rfl) (fun y4 _ H locs h hM => ?_)
        obtain ⟨hc5, h⟩ := h
        refine m_iast (ws' := [(h0, .inr (2, oX2 r0 )), ((r0 0), .inl (cI, 225, .inl A_0_0_sum)), ((r0 1), .inl (cI, 9, .inl (upd A_0_1_b (x6).toNatClampNeg y4))), ((r0 3), .inl (cI, 225, .inl A_0_3_derived)), ((r0 4), .inl (cI, 225, .inl A_0_4_next)), ((r0 5), .inl (cI, 25, .inl A_0_5_power)), (h1, .inr (3, oX4 r1 )), ((r1 0), .inl (cI, 75, .inl A_1_0_numbers)), (h2, .inl (cI, 5, .inl A2))]) C0 hM 2 rfl hc5 rfl dX2_toPowerOfS_115 (fun H locs hM => ?_)
        refine lv_iinc (v := (x6 + (1 : Int32))) (lv' := [(6, .int (x6 + (1 : Int32))), (0, .ref h0), (4, .int x4), (5, .int x5)]) hx hb dX2_toPowerOfS_116 hl (k := 3) rfl rfl (by decide) rfl (fun ls hl => ?_)
        refine lv_goto (tgt := 81) hx hb dX2_toPowerOfS_119 (by decide) ?_
        exact ih81 _ _ _ _ _ _ _ _ _ _ _ h hM (lv_sub hl [1, 2, 3, 0] rfl)
  unfold wp_X2_toPowerOfS at h
  refine lv_aload_n hx hb dX2_toPowerOfS_0 rfl (lv_at hl 0 rfl) ?_
  refine lv_aload_n hx hb dX2_toPowerOfS_1 rfl (lv_at hl 1 rfl) ?_
  refine lv_aload_n hx hb dX2_toPowerOfS_2 rfl (lv_at hl 2 rfl) ?_
  refine m_callv (wc := [(h0, .inr (2, oX2 r0 )), ((r0 0), .inl (cI, 225, .inl A_0_0_sum)), ((r0 3), .inl (cI, 225, .inl A_0_3_derived)), ((r0 4), .inl (cI, 225, .inl A_0_4_next)), (h1, .inr (3, oX4 r1 )), ((r1 0), .inl (cI, 75, .inl A_1_0_numbers)), (h2, .inl (cI, 5, .inl A2))]) C0 hM [0, 1, 3, 4, 6, 7, 8] rfl (m_runV (wc := [(h0, .inr (2, oX2 r0 )), ((r0 0), .inl (cI, 225, .inl A_0_0_sum)), ((r0 3), .inl (cI, 225, .inl A_0_3_derived)), ((r0 4), .inl (cI, 225, .inl A_0_4_next)), (h1, .inr (3, oX4 r1 )), ((r1 0), .inl (cI, 75, .inl A_1_0_numbers)), (h2, .inl (cI, 5, .inl A2))]) (As := [.ref h1, .ref h2]) (rest := []) (ci := 2) C0 hM (ct_X2_apply l D cI cJ cZ h0 h1 h2 r0 r1 A_0_0_sum A_0_3_derived A_0_4_next A_1_0_numbers A2 _ _ h) [0, 1, 3, 4, 6, 7, 8] rfl (by decide) gX2_toPowerOfS_X2_apply rfl rfl rfl rfl rfl hd_X2_apply ⟨Nat.le_of_ble_eq_true rfl, Nat.le_of_ble_eq_true rfl⟩ rfl hl.1 rfl (Nat.le_of_ble_eq_true rfl) dX2_toPowerOfS_3 ⟨Nat.le_of_ble_eq_true rfl, Nat.le_of_ble_eq_true rfl⟩) (fun u => [(h0, .inr (2, oX2 r0 )), ((r0 0), .inl (cI, 225, .inl u.1)), ((r0 1), .inl (cI, 9, .inl A_0_1_b)), ((r0 3), .inl (cI, 225, .inl u.2.1)), ((r0 4), .inl (cI, 225, .inl u.2.2)), ((r0 5), .inl (cI, 25, .inl A_0_5_power)), (h1, .inr (3, oX4 r1 )), ((r1 0), .inl (cI, 75, .inl A_1_0_numbers)), (h2, .inl (cI, 5, .inl A2))]) (fun _ => rfl) (fun _ => rfl) (fun u H locs h hM => ?_)
  obtain ⟨b6, b7, b8⟩ := u
  dsimp only at h
  have hM : MW D A s.heap [(h0, .inr (2, oX2 r0 )), ((r0 0), .inl (cI, 225, .inl b6)), ((r0 1), .inl (cI, 9, .inl A_0_1_b)), ((r0 3), .inl (cI, 225, .inl b7)), ((r0 4), .inl (cI, 225, .inl b8)), ((r0 5), .inl (cI, 25, .inl A_0_5_power)), (h1, .inr (3, oX4 r1 )), ((r1 0), .inl (cI, 75, .inl A_1_0_numbers)), (h2, .inl (cI, 5, .inl A2))] H locs := hM
  refine lv_aload_n hx hb dX2_toPowerOfS_6 rfl (lv_at hl 1 rfl) ?_
  refine m_calli (wc := [(h1, .inr (3, oX4 r1 )), ((r1 0), .inl (cI, 75, .inl A_1_0_numbers))]) C0 hM [6, 7] rfl (m_runV (wc := [(h1, .inr (3, oX4 r1 )), ((r1 0), .inl (cI, 75, .inl A_1_0_numbers))]) (As := []) (rest := []) (ci := 3) C0 hM (ct_X4_topDerivative l D cI cJ cZ h1 r1 A_1_0_numbers _ _ h) [6, 7] rfl (by decide) gX2_toPowerOfS_X4_topDerivative rfl rfl rfl rfl rfl hd_X4_topDerivative ⟨Nat.le_of_ble_eq_true rfl, Nat.le_of_ble_eq_true rfl⟩ rfl hl.1 rfl (Nat.le_of_ble_eq_true rfl) dX2_toPowerOfS_7 ⟨Nat.le_of_ble_eq_true rfl, Nat.le_of_ble_eq_true rfl⟩) (fun _ => [(h0, .inr (2, oX2 r0 )), ((r0 0), .inl (cI, 225, .inl b6)), ((r0 1), .inl (cI, 9, .inl A_0_1_b)), ((r0 3), .inl (cI, 225, .inl b7)), ((r0 4), .inl (cI, 225, .inl b8)), ((r0 5), .inl (cI, 25, .inl A_0_5_power)), (h1, .inr (3, oX4 r1 )), ((r1 0), .inl (cI, 75, .inl A_1_0_numbers)), (h2, .inl (cI, 5, .inl A2))]) (fun _ => rfl) (fun _ => rfl) (fun y9 _ H locs h hM => ?_)
  refine lv_istore_n (lv' := [(3, .int y9), (0, .ref h0), (1, .ref h1), (2, .ref h2)]) hx hb dX2_toPowerOfS_10 rfl hl (by decide) rfl (fun ls hl => ?_)
  refine lv_iload_n hx hb dX2_toPowerOfS_11 rfl (lv_at hl 0 rfl) ?_
  refine lv_if_ne (tgt := 39) hx hb dX2_toPowerOfS_12 (by decide) (fun hq => ?_) (fun hq => ?_)
  · have h := h.1 hq
    refine lv_aload_n hx hb dX2_toPowerOfS_39 rfl (lv_at hl 1 rfl) ?_
    refine m_get (C := RX2) (T := TX2) (N := 6) (ci := 2) (ref := "LoweredPowers$Lowering") (v := .ref (r0 5)) C0 hM 0 rfl rfl kt_X2_toPowerOfS_X2 5 (by decide) kw_X2_toPowerOfS_3 rfl rfl dX2_toPowerOfS_40 ?_
    refine lv_aload_n hx hb dX2_toPowerOfS_43 rfl (lv_at hl 3 rfl) ?_
    refine lv_iload_n hx hb dX2_toPowerOfS_44 rfl (lv_at hl 0 rfl) ?_
    refine lv_iconst (v := (1 : Int32)) hx hb dX2_toPowerOfS_45 (by decide) ?_
    refine lv_isub hx hb dX2_toPowerOfS_46 ?_
    refine m_callv (wc := [((r0 5), .inl (cI, 25, .inl A_0_5_power)), (h2, .inl (cI, 5, .inl A2))]) C0 hM [5, 8] rfl (m_runS (wc := [((r0 5), .inl (cI, 25, .inl A_0_5_power)), (h2, .inl (cI, 5, .inl A2))]) (As := [.ref (r0 5), .ref h2, .int (y9 - (1 : Int32))]) (rest := []) C0 hM (ct_X3_raise l D cI cJ cZ (r0 5) h2 A_0_5_power A2 (y9 - (1 : Int32)) _ _ h) [5, 8] rfl (by decide) gX2_toPowerOfS_X3_raise rfl rfl rfl hd_X3_raise ⟨Nat.le_of_ble_eq_true rfl, Nat.le_of_ble_eq_true rfl⟩ rfl hl.1 rfl (Nat.le_of_ble_eq_true rfl) dX2_toPowerOfS_47 ⟨Nat.le_of_ble_eq_true rfl, Nat.le_of_ble_eq_true rfl⟩) (fun u => [(h0, .inr (2, oX2 r0 )), ((r0 0), .inl (cI, 225, .inl b6)), ((r0 1), .inl (cI, 9, .inl A_0_1_b)), ((r0 3), .inl (cI, 225, .inl b7)), ((r0 4), .inl (cI, 225, .inl b8)), ((r0 5), .inl (cI, 25, .inl u)), (h1, .inr (3, oX4 r1 )), ((r1 0), .inl (cI, 75, .inl A_1_0_numbers)), (h2, .inl (cI, 5, .inl A2))]) (fun _ => rfl) (fun _ => rfl) (fun b10 H locs h hM => ?_)
    refine lv_aload_n hx hb dX2_toPowerOfS_50 rfl (lv_at hl 1 rfl) ?_
    refine m_get (C := RX2) (T := TX2) (N := 6) (ci := 2) (ref := "LoweredPowers$Lowering") (v := .ref (r0 5)) C0 hM 0 rfl rfl kt_X2_toPowerOfS_X2 5 (by decide) kw_X2_toPowerOfS_3 rfl rfl dX2_toPowerOfS_51 ?_
    refine m_calli (wc := [((r0 5), .inl (cI, 25, .inl b10))]) C0 hM [5] rfl (m_runS (wc := [((r0 5), .inl (cI, 25, .inl b10))]) (As := [.ref (r0 5)]) (rest := []) C0 hM (ct_X3_highest l D cI cJ cZ (r0 5) 25 b10 _ _ h) [5] rfl (by decide) gX2_toPowerOfS_X3_highest rfl rfl rfl hd_X3_highest ⟨Nat.le_of_ble_eq_true rfl, Nat.le_of_ble_eq_true rfl⟩ rfl hl.1 rfl (Nat.le_of_ble_eq_true rfl) dX2_toPowerOfS_54 ⟨Nat.le_of_ble_eq_true rfl, Nat.le_of_ble_eq_true rfl⟩) (fun _ => [(h0, .inr (2, oX2 r0 )), ((r0 0), .inl (cI, 225, .inl b6)), ((r0 1), .inl (cI, 9, .inl A_0_1_b)), ((r0 3), .inl (cI, 225, .inl b7)), ((r0 4), .inl (cI, 225, .inl b8)), ((r0 5), .inl (cI, 25, .inl b10)), (h1, .inr (3, oX4 r1 )), ((r1 0), .inl (cI, 75, .inl A_1_0_numbers)), (h2, .inl (cI, 5, .inl A2))]) (fun _ => rfl) (fun _ => rfl) (fun y11 _ H locs h hM => ?_)
    refine lv_istore (lv' := [(4, .int y11), (3, .int y9), (0, .ref h0), (1, .ref h1), (2, .ref h2)]) hx hb dX2_toPowerOfS_57 hl (by decide) rfl (fun ls hl => ?_)
    refine lv_iload hx hb dX2_toPowerOfS_59 (lv_at hl 0 rfl) ?_
    refine lv_if_ge (tgt := 66) hx hb dX2_toPowerOfS_61 (by decide) (fun hq => ?_) (fun hq => ?_)
    · have h := h.1 hq
      refine lv_aload_n hx hb dX2_toPowerOfS_66 rfl (lv_at hl 2 rfl) ?_
      refine m_get (C := RX2) (T := TX2) (N := 6) (ci := 2) (ref := "LoweredPowers$Lowering") (v := .ref (r0 5)) C0 hM 0 rfl rfl kt_X2_toPowerOfS_X2 5 (by decide) kw_X2_toPowerOfS_3 rfl rfl dX2_toPowerOfS_67 ?_
      refine lv_iload hx hb dX2_toPowerOfS_70 (lv_at hl 0 rfl) ?_
      obtain ⟨hc12, h⟩ := h
      refine m_iald C0 hM 5 rfl hc12 dX2_toPowerOfS_72 ?_
      refine m_calli (wc := []) C0 hM [] rfl (m_runS (wc := []) (As := [.int (b10 (y11).toNatClampNeg)]) (rest := []) C0 hM (ct_X3_inverse l D cI cJ cZ (b10 (y11).toNatClampNeg) _ _ h) [] rfl (by decide) gX2_toPowerOfS_X3_inverse rfl rfl rfl hd_X3_inverse ⟨Nat.le_of_ble_eq_true rfl, Nat.le_of_ble_eq_true rfl⟩ rfl hl.1 rfl (Nat.le_of_ble_eq_true rfl) dX2_toPowerOfS_73 ⟨Nat.le_of_ble_eq_true rfl, Nat.le_of_ble_eq_true rfl⟩) (fun _ => [(h0, .inr (2, oX2 r0 )), ((r0 0), .inl (cI, 225, .inl b6)), ((r0 1), .inl (cI, 9, .inl A_0_1_b)), ((r0 3), .inl (cI, 225, .inl b7)), ((r0 4), .inl (cI, 225, .inl b8)), ((r0 5), .inl (cI, 25, .inl b10)), (h1, .inr (3, oX4 r1 )), ((r1 0), .inl (cI, 75, .inl A_1_0_numbers)), (h2, .inl (cI, 5, .inl A2))]) (fun _ => rfl) (fun _ => rfl) (fun y13 _ H locs h hM => ?_)
      refine lv_istore (lv' := [(5, .int y13), (4, .int y11), (3, .int y9), (0, .ref h0), (1, .ref h1), (2, .ref h2)]) hx hb dX2_toPowerOfS_76 hl (by decide) rfl (fun ls hl => ?_)
      refine lv_iconst (v := (0 : Int32)) hx hb dX2_toPowerOfS_78 (by decide) ?_
      refine lv_istore (lv' := [(6, .int (0 : Int32)), (5, .int y13), (4, .int y11), (3, .int y9), (0, .ref h0), (1, .ref h1), (2, .ref h2)]) hx hb dX2_toPowerOfS_79 hl (by decide) rfl (fun ls hl => ?_)
      obtain ⟨k0, h⟩ := h
      exact lq81 k0 _ _ _ _ _ _ _ _ _ _ _ h hM (lv_sub hl [4, 2, 1, 0] rfl)
    · have h := h.2 hq
      refine lv_iconst (v := (0 : Int32)) hx hb dX2_toPowerOfS_64 (by decide) ?_
      subst hsz; subst hA; subst hQ
      exact m_zret C0 hr hM rfl (b6, A_0_1_b, b7, b8, b10) h rfl dX2_toPowerOfS_65
  · have h := h.2 hq
    refine lv_aload_n hx hb dX2_toPowerOfS_15 rfl (lv_at hl 1 rfl) ?_
    refine m_get (C := RX2) (T := TX2) (N := 6) (ci := 2) (ref := "LoweredPowers$Lowering") (v := .ref (r0 1)) C0 hM 0 rfl rfl kt_X2_toPowerOfS_X2 1 (by decide) kw_X2_toPowerOfS_1 rfl rfl dX2_toPowerOfS_16 ?_
    refine lv_iconst (v := (0 : Int32)) hx hb dX2_toPowerOfS_19 (by decide) ?_
    refine m_callv (wc := [((r0 1), .inl (cI, 9, .inl A_0_1_b))]) C0 hM [2] rfl (m_runS (wc := [((r0 1), .inl (cI, 9, .inl A_0_1_b))]) (As := [.ref (r0 1), .int (0 : Int32)]) (rest := []) C0 hM (ct_J7_fill_53178 l D cI cJ cZ (r0 1) 9 A_0_1_b (0 : Int32) _ _ h) [2] rfl (by decide) gX2_toPowerOfS_J7_fill_53178 rfl rfl rfl hd_J7_fill_53178 ⟨Nat.le_of_ble_eq_true rfl, Nat.le_of_ble_eq_true rfl⟩ rfl hl.1 rfl (Nat.le_of_ble_eq_true rfl) dX2_toPowerOfS_20 ⟨Nat.le_of_ble_eq_true rfl, Nat.le_of_ble_eq_true rfl⟩) (fun u => [(h0, .inr (2, oX2 r0 )), ((r0 0), .inl (cI, 225, .inl b6)), ((r0 1), .inl (cI, 9, .inl u)), ((r0 3), .inl (cI, 225, .inl b7)), ((r0 4), .inl (cI, 225, .inl b8)), ((r0 5), .inl (cI, 25, .inl A_0_5_power)), (h1, .inr (3, oX4 r1 )), ((r1 0), .inl (cI, 75, .inl A_1_0_numbers)), (h2, .inl (cI, 5, .inl A2))]) (fun _ => rfl) (fun _ => rfl) (fun b14 H locs h hM => ?_)
    refine lv_aload_n hx hb dX2_toPowerOfS_23 rfl (lv_at hl 1 rfl) ?_
    refine m_get (C := RX2) (T := TX2) (N := 6) (ci := 2) (ref := "LoweredPowers$Lowering") (v := .ref (r0 0)) C0 hM 0 rfl rfl kt_X2_toPowerOfS_X2 0 (by decide) kw_X2_toPowerOfS_2 rfl rfl dX2_toPowerOfS_24 ?_
    refine m_calli (wc := [((r0 0), .inl (cI, 225, .inl b6))]) C0 hM [1] rfl (m_runS (wc := [((r0 0), .inl (cI, 225, .inl b6))]) (As := [.ref (r0 0)]) (rest := []) C0 hM (ct_X3_highest l D cI cJ cZ (r0 0) 225 b6 _ _ h) [1] rfl (by decide) gX2_toPowerOfS_X3_highest rfl rfl rfl hd_X3_highest ⟨Nat.le_of_ble_eq_true rfl, Nat.le_of_ble_eq_true rfl⟩ rfl hl.1 rfl (Nat.le_of_ble_eq_true rfl) dX2_toPowerOfS_27 ⟨Nat.le_of_ble_eq_true rfl, Nat.le_of_ble_eq_true rfl⟩) (fun _ => [(h0, .inr (2, oX2 r0 )), ((r0 0), .inl (cI, 225, .inl b6)), ((r0 1), .inl (cI, 9, .inl b14)), ((r0 3), .inl (cI, 225, .inl b7)), ((r0 4), .inl (cI, 225, .inl b8)), ((r0 5), .inl (cI, 25, .inl A_0_5_power)), (h1, .inr (3, oX4 r1 )), ((r1 0), .inl (cI, 75, .inl A_1_0_numbers)), (h2, .inl (cI, 5, .inl A2))]) (fun _ => rfl) (fun _ => rfl) (fun y15 _ H locs h hM => ?_)
    refine lv_if_ge (tgt := 37) hx hb dX2_toPowerOfS_30 (by decide) (fun hq => ?_) (fun hq => ?_)
    · have h := h.1 hq
      refine lv_iconst (v := (0 : Int32)) hx hb dX2_toPowerOfS_37 (by decide) ?_
      subst hsz; subst hA; subst hQ
      exact m_zret C0 hr hM rfl (b6, b14, b7, b8, A_0_5_power) h rfl dX2_toPowerOfS_38
    · have h := h.2 hq
      refine lv_iconst (v := (1 : Int32)) hx hb dX2_toPowerOfS_33 (by decide) ?_
      refine lv_goto (tgt := 38) hx hb dX2_toPowerOfS_34 (by decide) ?_
      subst hsz; subst hA; subst hQ
      exact m_zret C0 hr hM rfl (b6, b14, b7, b8, A_0_5_power) h rfl dX2_toPowerOfS_38
abbrev rm_X2_factorOf : Room := { frames := 1, cells := 0, slots := 0, locals := 22 }
set_option maxRecDepth 100000 in
set_option maxHeartbeats 4000000 in
theorem ct_X2_factorOf (l : Launch) (D : va_G) (cI cJ cZ : ClassId) (h0 : Nat) (r0 : Nat → Nat) (A_0_0_numbers : (Nat → Int32)) (x1 : Int32) (x2 : Int32) (x3 : Int32) (sz : Nat) (K : Int32 → Prop) (h : wp_X2_factorOf x1 x2 x3 A_0_0_numbers K) : Met l yX2_factorOf wsX2_factorOf rm_X2_factorOf (va_Pc [.ref h0, .int x1, .int x2, .int x3] (WX D cI cJ cZ [(h0, .inr (3, oX4 r0 )), ((r0 0), .inl (cI, 75, .inl A_0_0_numbers))] sz)) (va_Qi (fun (r : Int32) (_ : Unit) => K r ) (fun (_ : Unit) t => WY D (va_A [(h0, .inr (3, oX4 r0 )), ((r0 0), .inl (cI, 75, .inl A_0_0_numbers))] sz) [(h0, .inr (3, oX4 r0 )), ((r0 0), .inl (cI, 75, .inl A_0_0_numbers))] t) (va_A [(h0, .inr (3, oX4 r0 )), ((r0 0), .inl (cI, 75, .inl A_0_0_numbers))] sz)) 0 0 (va_A [(h0, .inr (3, oX4 r0 )), ((r0 0), .inl (cI, 75, .inl A_0_0_numbers))] sz) := by
  refine m_met (own := RX2) (cc := cX2_factorOf) (maxL := 7) (ret := some .int) [.ref h0, .int x1, .int x2, .int x3] [(0, .ref h0), (1, .int x1), (2, .int x2), (3, .int x3)] (by decide) rfl rfl (Nat.le_of_ble_eq_true rfl) rfl ?_
  intro p e s m args below meth c Q A hQ hA C0 hr hnm hsz hM ls hl
  have hx := C0.1
  have hb := C0.2.1
  have hown := C0.2.2.2.1
  have jq38 : ∀ (x4 : Int64) (H : Heap) (locs : List Loc) (ls : Array Slot) , jn_X2_factorOf_38 x1 x2 x3 A_0_0_numbers K x4 → MW D A s.heap [(h0, .inr (3, oX4 r0 )), ((r0 0), .inl (cI, 75, .inl A_0_0_numbers))] H locs → lv_has ls 7 [(4, .long x4)] → W p l e rm_X2_factorOf s m args below meth c H locs 0 0 Q (F0 m 38 ls []) := by
    intro x4 H locs ls h hM hl
    unfold jn_X2_factorOf_38 at h
    refine lv_lload hx hb dX2_factorOf_38 (lv_at hl 0 rfl) ?_
    refine m_calli (wc := []) C0 hM [] rfl (m_runS (wc := []) (As := [.long x4]) (rest := []) C0 hM (ct_X3_fold l D cI cJ cZ x4 _ _ h) [] rfl (by decide) gX2_factorOf_X3_fold rfl rfl rfl hd_X3_fold ⟨Nat.le_of_ble_eq_true rfl, Nat.le_of_ble_eq_true rfl⟩ rfl hl.1 rfl (Nat.le_of_ble_eq_true rfl) dX2_factorOf_40 ⟨Nat.le_of_ble_eq_true rfl, Nat.le_of_ble_eq_true rfl⟩) (fun _ => [(h0, .inr (3, oX4 r0 )), ((r0 0), .inl (cI, 75, .inl A_0_0_numbers))]) (fun _ => rfl) (fun _ => rfl) (fun y1 _ H locs h hM => ?_)
    subst hsz; subst hA; subst hQ
    exact m_iret C0 hr hM () h rfl dX2_factorOf_43
  have lq6 : ∀ (k6 : Nat) (x4 : Int64) (x6 : Int32) (H : Heap) (locs : List Loc) (ls : Array Slot) , lp_X2_factorOf_6 x1 x2 x3 A_0_0_numbers (jn_X2_factorOf_38 x1 x2 x3 A_0_0_numbers K) K k6 x4 x6 → MW D A s.heap [(h0, .inr (3, oX4 r0 )), ((r0 0), .inl (cI, 75, .inl A_0_0_numbers))] H locs → lv_has ls 7 [(0, .ref h0), (1, .int x1), (2, .int x2), (3, .int x3), (4, .long x4), (6, .int x6)] → W p l e rm_X2_factorOf s m args below meth c H locs 0 0 Q (F0 m 6 ls []) := by
    intro k6
    induction k6 with
    | zero =>
      intro x4 x6 H locs ls h
      unfold lp_X2_factorOf_6 at h
      exact h.elim
    | succ k6 ih6 =>
      intro x4 x6 H locs ls h hM hl
      unfold lp_X2_factorOf_6 at h
      refine lv_iload hx hb dX2_factorOf_6 (lv_at hl 5 rfl) ?_
      refine lv_if_lt (tgt := 38) hx hb dX2_factorOf_8 (by decide) (fun hq => ?_) (fun hq => ?_)
      · have h := h.1 hq
        exact jq38 _ _ _ _ h hM (lv_sub hl [4] rfl)
      · have h := h.2 hq
        refine lv_lload hx hb dX2_factorOf_11 (lv_at hl 4 rfl) ?_
        refine lv_iload_n hx hb dX2_factorOf_13 rfl (lv_at hl 3 rfl) ?_
        refine lv_i2l hx hb dX2_factorOf_14 rfl ?_
        refine lv_lmul hx hb dX2_factorOf_15 ?_
        refine lv_aload_n hx hb dX2_factorOf_16 rfl (lv_at hl 0 rfl) ?_
        refine m_get (C := RX4) (T := TX4) (N := 1) (ci := 3) (ref := "LoweredPowers$Operator") (v := .ref (r0 0)) C0 hM 0 rfl rfl kt_X2_factorOf_X4 0 (by decide) kw_X2_factorOf_1 rfl rfl dX2_factorOf_17 ?_
        refine lv_iload_n hx hb dX2_factorOf_20 rfl (lv_at hl 1 rfl) ?_
        refine lv_iload_n hx hb dX2_factorOf_21 rfl (lv_at hl 2 rfl) ?_
        refine lv_iload hx hb dX2_factorOf_22 (lv_at hl 5 rfl) ?_
        refine m_calli (wc := []) C0 hM [] rfl (m_runS (wc := []) (As := [.int x1, .int x2, .int x6]) (rest := [.ref (r0 0), .long (x4 * (x3.toInt64))]) C0 hM (ct_X4_index l D cI cJ cZ x1 x2 x6 _ _ h) [] rfl (by decide) gX2_factorOf_X4_index rfl rfl rfl hd_X4_index ⟨Nat.le_of_ble_eq_true rfl, Nat.le_of_ble_eq_true rfl⟩ rfl hl.1 rfl (Nat.le_of_ble_eq_true rfl) dX2_factorOf_24 ⟨Nat.le_of_ble_eq_true rfl, Nat.le_of_ble_eq_true rfl⟩) (fun _ => [(h0, .inr (3, oX4 r0 )), ((r0 0), .inl (cI, 75, .inl A_0_0_numbers))]) (fun _ => rfl) (fun _ => rfl) (fun y2 _ H locs h hM => ?_)
        obtain ⟨hc3, h⟩ := h
        refine m_iald C0 hM 1 rfl hc3 dX2_factorOf_27 ?_
        refine lv_i2l hx hb dX2_factorOf_28 rfl ?_
        refine lv_ladd hx hb dX2_factorOf_29 ?_
        refine lv_topl (fun y4 ey4 => ?_)
        have h := h y4 ey4
        refine lv_lstore (lv' := [(4, .long y4), (0, .ref h0), (1, .int x1), (2, .int x2), (3, .int x3), (6, .int x6)]) hx hb dX2_factorOf_30 hl (by decide) rfl (fun ls hl => ?_)
        refine lv_iinc (v := (x6 + (-1 : Int32))) (lv' := [(6, .int (x6 + (-1 : Int32))), (4, .long y4), (0, .ref h0), (1, .int x1), (2, .int x2), (3, .int x3)]) hx hb dX2_factorOf_32 hl (k := 5) rfl rfl (by decide) rfl (fun ls hl => ?_)
        refine lv_goto (tgt := 6) hx hb dX2_factorOf_35 (by decide) ?_
        exact ih6 _ _ _ _ _ h hM (lv_sub hl [2, 3, 4, 5, 1, 0] rfl)
  unfold wp_X2_factorOf at h
  refine lv_lconst (v := (0 : Int64)) hx hb dX2_factorOf_0 (by decide) ?_
  refine lv_lstore (lv' := [(4, .long (0 : Int64)), (0, .ref h0), (1, .int x1), (2, .int x2), (3, .int x3)]) hx hb dX2_factorOf_1 hl (by decide) rfl (fun ls hl => ?_)
  refine lv_iconst (v := (2 : Int32)) hx hb dX2_factorOf_3 (by decide) ?_
  refine lv_istore (lv' := [(6, .int (2 : Int32)), (4, .long (0 : Int64)), (0, .ref h0), (1, .int x1), (2, .int x2), (3, .int x3)]) hx hb dX2_factorOf_4 hl (by decide) rfl (fun ls hl => ?_)
  obtain ⟨k0, h⟩ := h
  exact lq6 k0 _ _ _ _ _ h hM (lv_sub hl [2, 3, 4, 5, 1, 0] rfl)
abbrev rm_X2_addWhole : Room := { frames := 1, cells := 0, slots := 0, locals := 22 }
set_option maxRecDepth 100000 in
set_option maxHeartbeats 4000000 in
theorem ct_X2_addWhole (l : Launch) (D : va_G) (cI cJ cZ : ClassId) (h0 : Nat) (r0 : Nat → Nat) (A_0_2_whole : (Nat → Int32)) (A_0_5_power : (Nat → Int32)) (x1 : Int32) (x2 : Int32) (sz : Nat) (K : (Nat → Int32) → Prop) (h : wp_X2_addWhole x1 x2 A_0_2_whole A_0_5_power K) : Met l yX2_addWhole wsX2_addWhole rm_X2_addWhole (va_Pc [.ref h0, .int x1, .int x2] (WX D cI cJ cZ [(h0, .inr (2, oX2 r0 )), ((r0 2), .inl (cI, 21, .inl A_0_2_whole)), ((r0 5), .inl (cI, 25, .inl A_0_5_power))] sz)) (va_Qv (fun (u : (Nat → Int32)) => K u) (fun (u : (Nat → Int32)) t => WY D (va_A [(h0, .inr (2, oX2 r0 )), ((r0 2), .inl (cI, 21, .inl A_0_2_whole)), ((r0 5), .inl (cI, 25, .inl A_0_5_power))] sz) [(h0, .inr (2, oX2 r0 )), ((r0 2), .inl (cI, 21, .inl u)), ((r0 5), .inl (cI, 25, .inl A_0_5_power))] t) (va_A [(h0, .inr (2, oX2 r0 )), ((r0 2), .inl (cI, 21, .inl A_0_2_whole)), ((r0 5), .inl (cI, 25, .inl A_0_5_power))] sz)) 0 0 (va_A [(h0, .inr (2, oX2 r0 )), ((r0 2), .inl (cI, 21, .inl A_0_2_whole)), ((r0 5), .inl (cI, 25, .inl A_0_5_power))] sz) := by
  refine m_met (own := RX2) (cc := cX2_addWhole) (maxL := 4) (ret := none) [.ref h0, .int x1, .int x2] [(0, .ref h0), (1, .int x1), (2, .int x2)] (by decide) rfl rfl (Nat.le_of_ble_eq_true rfl) rfl ?_
  intro p e s m args below meth c Q A hQ hA C0 hr hnm hsz hM ls hl
  have hx := C0.1
  have hb := C0.2.1
  have hown := C0.2.2.2.1
  have lq2 : ∀ (k2 : Nat) (x3 : Int32) (A_0_2_whole : (Nat → Int32)) (H : Heap) (locs : List Loc) (ls : Array Slot) , lp_X2_addWhole_2 x1 x2 A_0_5_power K k2 x3 A_0_2_whole → MW D A s.heap [(h0, .inr (2, oX2 r0 )), ((r0 2), .inl (cI, 21, .inl A_0_2_whole)), ((r0 5), .inl (cI, 25, .inl A_0_5_power))] H locs → lv_has ls 4 [(0, .ref h0), (1, .int x1), (2, .int x2), (3, .int x3)] → W p l e rm_X2_addWhole s m args below meth c H locs 0 0 Q (F0 m 2 ls []) := by
    intro k2
    induction k2 with
    | zero =>
      intro x3 A_0_2_whole H locs ls h
      unfold lp_X2_addWhole_2 at h
      exact h.elim
    | succ k2 ih2 =>
      intro x3 A_0_2_whole H locs ls h hM hl
      unfold lp_X2_addWhole_2 at h
      refine lv_iload_n hx hb dX2_addWhole_2 rfl (lv_at hl 3 rfl) ?_
      refine lv_bipush (v := (20 : Int32)) hx hb dX2_addWhole_3 (by decide) ?_
      refine lv_icmp_gt (tgt := 43) hx hb dX2_addWhole_5 (by decide) (fun hq => ?_) (fun hq => ?_)
      · have h := h.1 hq
        subst hsz; subst hA; subst hQ
        exact m_vret C0 hr hM A_0_2_whole h rfl dX2_addWhole_43
      · have h := h.2 hq
        refine lv_aload_n hx hb dX2_addWhole_8 rfl (lv_at hl 0 rfl) ?_
        refine m_get (C := RX2) (T := TX2) (N := 6) (ci := 2) (ref := "LoweredPowers$Lowering") (v := .ref (r0 2)) C0 hM 0 rfl rfl kt_X2_addWhole_X2 2 (by decide) kw_X2_addWhole_1 rfl rfl dX2_addWhole_9 ?_
        refine lv_iload_n hx hb dX2_addWhole_12 rfl (lv_at hl 3 rfl) ?_
        refine lv_aload_n hx hb dX2_addWhole_13 rfl (lv_at hl 0 rfl) ?_
        refine m_get (C := RX2) (T := TX2) (N := 6) (ci := 2) (ref := "LoweredPowers$Lowering") (v := .ref (r0 2)) C0 hM 0 rfl rfl kt_X2_addWhole_X2 2 (by decide) kw_X2_addWhole_1 rfl rfl dX2_addWhole_14 ?_
        refine lv_iload_n hx hb dX2_addWhole_17 rfl (lv_at hl 3 rfl) ?_
        obtain ⟨hc1, h⟩ := h
        refine m_iald C0 hM 1 rfl hc1 dX2_addWhole_18 ?_
        refine lv_i2l hx hb dX2_addWhole_19 rfl ?_
        refine lv_iload_n hx hb dX2_addWhole_20 rfl (lv_at hl 1 rfl) ?_
        refine lv_i2l hx hb dX2_addWhole_21 rfl ?_
        refine lv_aload_n hx hb dX2_addWhole_22 rfl (lv_at hl 0 rfl) ?_
        refine m_get (C := RX2) (T := TX2) (N := 6) (ci := 2) (ref := "LoweredPowers$Lowering") (v := .ref (r0 5)) C0 hM 0 rfl rfl kt_X2_addWhole_X2 5 (by decide) kw_X2_addWhole_2 rfl rfl dX2_addWhole_23 ?_
        refine lv_iload_n hx hb dX2_addWhole_26 rfl (lv_at hl 3 rfl) ?_
        refine lv_iload_n hx hb dX2_addWhole_27 rfl (lv_at hl 2 rfl) ?_
        refine lv_isub hx hb dX2_addWhole_28 ?_
        obtain ⟨hc2, h⟩ := h
        refine m_iald C0 hM 2 rfl hc2 dX2_addWhole_29 ?_
        refine lv_i2l hx hb dX2_addWhole_30 rfl ?_
        refine lv_lmul hx hb dX2_addWhole_31 ?_
        refine lv_ladd hx hb dX2_addWhole_32 ?_
        refine m_calli (wc := []) C0 hM [] rfl (m_runS (wc := []) (As := [.long (((A_0_2_whole (x3).toNatClampNeg).toInt64) + ((x1.toInt64) * ((A_0_5_power ((x3 - x2)).toNatClampNeg).toInt64)))]) (rest := [.int x3, .ref (r0 2)]) C0 hM (ct_X3_fold l D cI cJ cZ (((A_0_2_whole (x3).toNatClampNeg).toInt64) + ((x1.toInt64) * ((A_0_5_power ((x3 - x2)).toNatClampNeg).toInt64))) _ _ h) [] rfl (by decide) gX2_addWhole_X3_fold rfl rfl rfl hd_X3_fold ⟨Nat.le_of_ble_eq_true rfl, Nat.le_of_ble_eq_true rfl⟩ rfl hl.1 rfl (Nat.le_of_ble_eq_true rfl) dX2_addWhole_33 ⟨Nat.le_of_ble_eq_true rfl, Nat.le_of_ble_eq_true rfl⟩) (fun _ => [(h0, .inr (2, oX2 r0 )), ((r0 2), .inl (cI, 21, .inl A_0_2_whole)), ((r0 5), .inl (cI, 25, .inl A_0_5_power))]) (fun _ => rfl) (fun _ => rfl) (fun y3 _ H locs h hM => ?_)
        refine m_iast (ws' := [(h0, .inr (2, oX2 r0 )), ((r0 2), .inl (cI, 21, .inl (upd A_0_2_whole (x3).toNatClampNeg y3))), ((r0 5), .inl (cI, 25, .inl A_0_5_power))]) C0 hM 1 rfl hc1 rfl dX2_addWhole_36 (fun H locs hM => ?_)
        refine lv_iinc (v := (x3 + (1 : Int32))) (lv' := [(3, .int (x3 + (1 : Int32))), (0, .ref h0), (1, .int x1), (2, .int x2)]) hx hb dX2_addWhole_37 hl (k := 3) rfl rfl (by decide) rfl (fun ls hl => ?_)
        refine lv_goto (tgt := 2) hx hb dX2_addWhole_40 (by decide) ?_
        exact ih2 _ _ _ _ _ h hM (lv_sub hl [1, 2, 3, 0] rfl)
  unfold wp_X2_addWhole at h
  refine lv_iload_n hx hb dX2_addWhole_0 rfl (lv_at hl 2 rfl) ?_
  refine lv_istore_n (lv' := [(3, .int x2), (0, .ref h0), (1, .int x1), (2, .int x2)]) hx hb dX2_addWhole_1 rfl hl (by decide) rfl (fun ls hl => ?_)
  obtain ⟨k0, h⟩ := h
  exact lq2 k0 _ _ _ _ _ h hM (lv_sub hl [1, 2, 3, 0] rfl)
abbrev rm_X2_applyToWhole : Room := { frames := 3, cells := 0, slots := 0, locals := 70 }
set_option maxRecDepth 100000 in
set_option maxHeartbeats 4000000 in
theorem ct_X2_applyToWhole (l : Launch) (D : va_G) (cI cJ cZ : ClassId) (h0 : Nat) (h1 : Nat) (h2 : Nat) (r0 : Nat → Nat) (r1 : Nat → Nat) (A_0_2_whole : (Nat → Int32)) (A_0_5_power : (Nat → Int32)) (A_1_0_numbers : (Nat → Int32)) (A2 : (Nat → Int32)) (x3 : Int32) (sz : Nat) (K : (Nat → Int32) → (Nat → Int32) → Prop) (h : wp_X2_applyToWhole x3 A_0_2_whole A_0_5_power A_1_0_numbers A2 K) : Met l yX2_applyToWhole wsX2_applyToWhole rm_X2_applyToWhole (va_Pc [.ref h0, .ref h1, .ref h2, .int x3] (WX D cI cJ cZ [(h0, .inr (2, oX2 r0 )), ((r0 2), .inl (cI, 21, .inl A_0_2_whole)), ((r0 5), .inl (cI, 25, .inl A_0_5_power)), (h1, .inr (3, oX4 r1 )), ((r1 0), .inl (cI, 75, .inl A_1_0_numbers)), (h2, .inl (cI, 5, .inl A2))] sz)) (va_Qv (fun (u : (Nat → Int32) × (Nat → Int32)) => K u.1 u.2) (fun (u : (Nat → Int32) × (Nat → Int32)) t => WY D (va_A [(h0, .inr (2, oX2 r0 )), ((r0 2), .inl (cI, 21, .inl A_0_2_whole)), ((r0 5), .inl (cI, 25, .inl A_0_5_power)), (h1, .inr (3, oX4 r1 )), ((r1 0), .inl (cI, 75, .inl A_1_0_numbers)), (h2, .inl (cI, 5, .inl A2))] sz) [(h0, .inr (2, oX2 r0 )), ((r0 2), .inl (cI, 21, .inl u.1)), ((r0 5), .inl (cI, 25, .inl u.2)), (h1, .inr (3, oX4 r1 )), ((r1 0), .inl (cI, 75, .inl A_1_0_numbers)), (h2, .inl (cI, 5, .inl A2))] t) (va_A [(h0, .inr (2, oX2 r0 )), ((r0 2), .inl (cI, 21, .inl A_0_2_whole)), ((r0 5), .inl (cI, 25, .inl A_0_5_power)), (h1, .inr (3, oX4 r1 )), ((r1 0), .inl (cI, 75, .inl A_1_0_numbers)), (h2, .inl (cI, 5, .inl A2))] sz)) 0 0 (va_A [(h0, .inr (2, oX2 r0 )), ((r0 2), .inl (cI, 21, .inl A_0_2_whole)), ((r0 5), .inl (cI, 25, .inl A_0_5_power)), (h1, .inr (3, oX4 r1 )), ((r1 0), .inl (cI, 75, .inl A_1_0_numbers)), (h2, .inl (cI, 5, .inl A2))] sz) := by
  refine m_met (own := RX2) (cc := cX2_applyToWhole) (maxL := 6) (ret := none) [.ref h0, .ref h1, .ref h2, .int x3] [(0, .ref h0), (1, .ref h1), (2, .ref h2), (3, .int x3)] (by decide) rfl rfl (Nat.le_of_ble_eq_true rfl) rfl ?_
  intro p e s m args below meth c Q A hQ hA C0 hr hnm hsz hM ls hl
  have hx := C0.1
  have hb := C0.2.1
  have hown := C0.2.2.2.1
  have lq22 : ∀ (k22 : Nat) (x4 : Int32) (A_0_2_whole : (Nat → Int32)) (A_0_5_power : (Nat → Int32)) (H : Heap) (locs : List Loc) (ls : Array Slot) , lp_X2_applyToWhole_22 x3 A_1_0_numbers A2 K k22 x4 A_0_2_whole A_0_5_power → MW D A s.heap [(h0, .inr (2, oX2 r0 )), ((r0 2), .inl (cI, 21, .inl A_0_2_whole)), ((r0 5), .inl (cI, 25, .inl A_0_5_power)), (h1, .inr (3, oX4 r1 )), ((r1 0), .inl (cI, 75, .inl A_1_0_numbers)), (h2, .inl (cI, 5, .inl A2))] H locs → lv_has ls 6 [(0, .ref h0), (1, .ref h1), (3, .int x3), (4, .int x4)] → W p l e rm_X2_applyToWhole s m args below meth c H locs 0 0 Q (F0 m 22 ls []) := by
    intro k22
    induction k22 with
    | zero =>
      intro x4 A_0_2_whole A_0_5_power H locs ls h
      unfold lp_X2_applyToWhole_22 at h
      exact h.elim
    | succ k22 ih22 =>
      have jq70 : ∀ (x4 : Int32) (A_0_2_whole : (Nat → Int32)) (A_0_5_power : (Nat → Int32)) (H : Heap) (locs : List Loc) (ls : Array Slot) , jn_X2_applyToWhole_70 x3 A_1_0_numbers A2 (fun x4 A_0_2_whole A_0_5_power => lp_X2_applyToWhole_22 x3 A_1_0_numbers A2 K k22 x4 A_0_2_whole A_0_5_power) K x4 A_0_2_whole A_0_5_power → MW D A s.heap [(h0, .inr (2, oX2 r0 )), ((r0 2), .inl (cI, 21, .inl A_0_2_whole)), ((r0 5), .inl (cI, 25, .inl A_0_5_power)), (h1, .inr (3, oX4 r1 )), ((r1 0), .inl (cI, 75, .inl A_1_0_numbers)), (h2, .inl (cI, 5, .inl A2))] H locs → lv_has ls 6 [(0, .ref h0), (1, .ref h1), (3, .int x3), (4, .int x4)] → W p l e rm_X2_applyToWhole s m args below meth c H locs 0 0 Q (F0 m 70 ls []) := by
        intro x4 A_0_2_whole A_0_5_power H locs ls h hM hl
        unfold jn_X2_applyToWhole_70 at h
        refine lv_iinc (v := (x4 + (1 : Int32))) (lv' := [(4, .int (x4 + (1 : Int32))), (0, .ref h0), (1, .ref h1), (3, .int x3)]) hx hb dX2_applyToWhole_70 hl (k := 3) rfl rfl (by decide) rfl (fun ls hl => ?_)
        refine lv_goto (tgt := 22) hx hb dX2_applyToWhole_73 (by decide) ?_
        exact ih22 _ _ _ _ _ _ h hM (lv_sub hl [1, 2, 3, 0] rfl)
      have lq43 : ∀ (k43 : Nat) (x4 : Int32) (x5 : Int32) (A_0_2_whole : (Nat → Int32)) (A_0_5_power : (Nat → Int32)) (H : Heap) (locs : List Loc) (ls : Array Slot) , lp_X2_applyToWhole_43 x3 A_1_0_numbers A2 (jn_X2_applyToWhole_70 x3 A_1_0_numbers A2 (fun x4 A_0_2_whole A_0_5_power => lp_X2_applyToWhole_22 x3 A_1_0_numbers A2 K k22 x4 A_0_2_whole A_0_5_power) K) K k43 x4 x5 A_0_2_whole A_0_5_power → MW D A s.heap [(h0, .inr (2, oX2 r0 )), ((r0 2), .inl (cI, 21, .inl A_0_2_whole)), ((r0 5), .inl (cI, 25, .inl A_0_5_power)), (h1, .inr (3, oX4 r1 )), ((r1 0), .inl (cI, 75, .inl A_1_0_numbers)), (h2, .inl (cI, 5, .inl A2))] H locs → lv_has ls 6 [(0, .ref h0), (1, .ref h1), (3, .int x3), (4, .int x4), (5, .int x5)] → W p l e rm_X2_applyToWhole s m args below meth c H locs 0 0 Q (F0 m 43 ls []) := by
        intro k43
        induction k43 with
        | zero =>
          intro x4 x5 A_0_2_whole A_0_5_power H locs ls h
          unfold lp_X2_applyToWhole_43 at h
          exact h.elim
        | succ k43 ih43 =>
          intro x4 x5 A_0_2_whole A_0_5_power H locs ls h hM hl
          unfold lp_X2_applyToWhole_43 at h
          refine lv_iload hx hb dX2_applyToWhole_43 (lv_at hl 4 rfl) ?_
          refine lv_iconst (v := (4 : Int32)) hx hb dX2_applyToWhole_45 (by decide) ?_
          refine lv_icmp_gt (tgt := 70) hx hb dX2_applyToWhole_46 (by decide) (fun hq => ?_) (fun hq => ?_)
          · have h := h.1 hq
            exact jq70 _ _ _ _ _ _ h hM (lv_sub hl [0, 1, 2, 3] rfl)
          · have h := h.2 hq
            refine lv_aload_n hx hb dX2_applyToWhole_49 rfl (lv_at hl 0 rfl) ?_
            refine lv_aload_n hx hb dX2_applyToWhole_50 rfl (lv_at hl 1 rfl) ?_
            refine lv_iload hx hb dX2_applyToWhole_51 (lv_at hl 3 rfl) ?_
            refine lv_iload hx hb dX2_applyToWhole_53 (lv_at hl 4 rfl) ?_
            refine lv_iload_n hx hb dX2_applyToWhole_55 rfl (lv_at hl 2 rfl) ?_
            refine m_calli (wc := [(h1, .inr (3, oX4 r1 )), ((r1 0), .inl (cI, 75, .inl A_1_0_numbers))]) C0 hM [3, 4] rfl (m_runS (wc := [(h1, .inr (3, oX4 r1 )), ((r1 0), .inl (cI, 75, .inl A_1_0_numbers))]) (As := [.ref h1, .int x4, .int x5, .int x3]) (rest := [.ref h0]) C0 hM (ct_X2_factorOf l D cI cJ cZ h1 r1 A_1_0_numbers x4 x5 x3 _ _ h) [3, 4] rfl (by decide) gX2_applyToWhole_X2_factorOf rfl rfl rfl hd_X2_factorOf ⟨Nat.le_of_ble_eq_true rfl, Nat.le_of_ble_eq_true rfl⟩ rfl hl.1 rfl (Nat.le_of_ble_eq_true rfl) dX2_applyToWhole_56 ⟨Nat.le_of_ble_eq_true rfl, Nat.le_of_ble_eq_true rfl⟩) (fun _ => [(h0, .inr (2, oX2 r0 )), ((r0 2), .inl (cI, 21, .inl A_0_2_whole)), ((r0 5), .inl (cI, 25, .inl A_0_5_power)), (h1, .inr (3, oX4 r1 )), ((r1 0), .inl (cI, 75, .inl A_1_0_numbers)), (h2, .inl (cI, 5, .inl A2))]) (fun _ => rfl) (fun _ => rfl) (fun y1 _ H locs h hM => ?_)
            refine lv_iload hx hb dX2_applyToWhole_59 (lv_at hl 4 rfl) ?_
            refine m_callv (wc := [(h0, .inr (2, oX2 r0 )), ((r0 2), .inl (cI, 21, .inl A_0_2_whole)), ((r0 5), .inl (cI, 25, .inl A_0_5_power))]) C0 hM [0, 1, 2] rfl (m_runV (wc := [(h0, .inr (2, oX2 r0 )), ((r0 2), .inl (cI, 21, .inl A_0_2_whole)), ((r0 5), .inl (cI, 25, .inl A_0_5_power))]) (As := [.int y1, .int x5]) (rest := []) (ci := 2) C0 hM (ct_X2_addWhole l D cI cJ cZ h0 r0 A_0_2_whole A_0_5_power y1 x5 _ _ h) [0, 1, 2] rfl (by decide) gX2_applyToWhole_X2_addWhole rfl rfl rfl rfl rfl hd_X2_addWhole ⟨Nat.le_of_ble_eq_true rfl, Nat.le_of_ble_eq_true rfl⟩ rfl hl.1 rfl (Nat.le_of_ble_eq_true rfl) dX2_applyToWhole_61 ⟨Nat.le_of_ble_eq_true rfl, Nat.le_of_ble_eq_true rfl⟩) (fun u => [(h0, .inr (2, oX2 r0 )), ((r0 2), .inl (cI, 21, .inl u)), ((r0 5), .inl (cI, 25, .inl A_0_5_power)), (h1, .inr (3, oX4 r1 )), ((r1 0), .inl (cI, 75, .inl A_1_0_numbers)), (h2, .inl (cI, 5, .inl A2))]) (fun _ => rfl) (fun _ => rfl) (fun b2 H locs h hM => ?_)
            refine lv_iinc (v := (x5 + (1 : Int32))) (lv' := [(5, .int (x5 + (1 : Int32))), (0, .ref h0), (1, .ref h1), (3, .int x3), (4, .int x4)]) hx hb dX2_applyToWhole_64 hl (k := 4) rfl rfl (by decide) rfl (fun ls hl => ?_)
            refine lv_goto (tgt := 43) hx hb dX2_applyToWhole_67 (by decide) ?_
            exact ih43 _ _ _ _ _ _ _ h hM (lv_sub hl [1, 2, 3, 4, 0] rfl)
      have jq40 : ∀ (x4 : Int32) (A_0_2_whole : (Nat → Int32)) (A_0_5_power : (Nat → Int32)) (H : Heap) (locs : List Loc) (ls : Array Slot) , jn_X2_applyToWhole_40 x3 A_1_0_numbers A2 (fun x4 A_0_2_whole A_0_5_power => lp_X2_applyToWhole_22 x3 A_1_0_numbers A2 K k22 x4 A_0_2_whole A_0_5_power) K x4 A_0_2_whole A_0_5_power → MW D A s.heap [(h0, .inr (2, oX2 r0 )), ((r0 2), .inl (cI, 21, .inl A_0_2_whole)), ((r0 5), .inl (cI, 25, .inl A_0_5_power)), (h1, .inr (3, oX4 r1 )), ((r1 0), .inl (cI, 75, .inl A_1_0_numbers)), (h2, .inl (cI, 5, .inl A2))] H locs → lv_has ls 6 [(0, .ref h0), (1, .ref h1), (3, .int x3), (4, .int x4)] → W p l e rm_X2_applyToWhole s m args below meth c H locs 0 0 Q (F0 m 40 ls []) := by
        intro x4 A_0_2_whole A_0_5_power H locs ls h hM hl
        unfold jn_X2_applyToWhole_40 at h
        refine lv_iconst (v := (0 : Int32)) hx hb dX2_applyToWhole_40 (by decide) ?_
        refine lv_istore (lv' := [(5, .int (0 : Int32)), (0, .ref h0), (1, .ref h1), (3, .int x3), (4, .int x4)]) hx hb dX2_applyToWhole_41 hl (by decide) rfl (fun ls hl => ?_)
        obtain ⟨k0, h⟩ := h
        exact lq43 k0 _ _ _ _ _ _ _ h hM (lv_sub hl [1, 2, 3, 4, 0] rfl)
      intro x4 A_0_2_whole A_0_5_power H locs ls h hM hl
      unfold lp_X2_applyToWhole_22 at h
      refine lv_iload hx hb dX2_applyToWhole_22 (lv_at hl 3 rfl) ?_
      refine lv_iconst (v := (4 : Int32)) hx hb dX2_applyToWhole_24 (by decide) ?_
      refine lv_icmp_gt (tgt := 76) hx hb dX2_applyToWhole_25 (by decide) (fun hq => ?_) (fun hq => ?_)
      · have h := h.1 hq
        subst hsz; subst hA; subst hQ
        exact m_vret C0 hr hM (A_0_2_whole, A_0_5_power) h rfl dX2_applyToWhole_76
      · have h := h.2 hq
        refine lv_iload hx hb dX2_applyToWhole_28 (lv_at hl 3 rfl) ?_
        refine lv_if_le (tgt := 40) hx hb dX2_applyToWhole_30 (by decide) (fun hq => ?_) (fun hq => ?_)
        · have h := h.1 hq
          exact jq40 _ _ _ _ _ _ h hM (lv_sub hl [0, 1, 2, 3] rfl)
        · have h := h.2 hq
          refine lv_aload_n hx hb dX2_applyToWhole_33 rfl (lv_at hl 0 rfl) ?_
          refine m_get (C := RX2) (T := TX2) (N := 6) (ci := 2) (ref := "LoweredPowers$Lowering") (v := .ref (r0 5)) C0 hM 0 rfl rfl kt_X2_applyToWhole_X2 5 (by decide) kw_X2_applyToWhole_1 rfl rfl dX2_applyToWhole_34 ?_
          refine m_callv (wc := [((r0 5), .inl (cI, 25, .inl A_0_5_power))]) C0 hM [2] rfl (m_runS (wc := [((r0 5), .inl (cI, 25, .inl A_0_5_power))]) (As := [.ref (r0 5)]) (rest := []) C0 hM (ct_X3_derive l D cI cJ cZ (r0 5) 25 A_0_5_power _ _ h) [2] rfl (by decide) gX2_applyToWhole_X3_derive rfl rfl rfl hd_X3_derive ⟨Nat.le_of_ble_eq_true rfl, Nat.le_of_ble_eq_true rfl⟩ rfl hl.1 rfl (Nat.le_of_ble_eq_true rfl) dX2_applyToWhole_37 ⟨Nat.le_of_ble_eq_true rfl, Nat.le_of_ble_eq_true rfl⟩) (fun u => [(h0, .inr (2, oX2 r0 )), ((r0 2), .inl (cI, 21, .inl A_0_2_whole)), ((r0 5), .inl (cI, 25, .inl u)), (h1, .inr (3, oX4 r1 )), ((r1 0), .inl (cI, 75, .inl A_1_0_numbers)), (h2, .inl (cI, 5, .inl A2))]) (fun _ => rfl) (fun _ => rfl) (fun b3 H locs h hM => ?_)
          exact jq40 _ _ _ _ _ _ h hM (lv_sub hl [0, 1, 2, 3] rfl)
  unfold wp_X2_applyToWhole at h
  refine lv_aload_n hx hb dX2_applyToWhole_0 rfl (lv_at hl 0 rfl) ?_
  refine m_get (C := RX2) (T := TX2) (N := 6) (ci := 2) (ref := "LoweredPowers$Lowering") (v := .ref (r0 5)) C0 hM 0 rfl rfl kt_X2_applyToWhole_X2 5 (by decide) kw_X2_applyToWhole_1 rfl rfl dX2_applyToWhole_1 ?_
  refine lv_aload_n hx hb dX2_applyToWhole_4 rfl (lv_at hl 2 rfl) ?_
  refine lv_iload_n hx hb dX2_applyToWhole_5 rfl (lv_at hl 3 rfl) ?_
  refine lv_iconst (v := (1 : Int32)) hx hb dX2_applyToWhole_6 (by decide) ?_
  refine lv_iadd hx hb dX2_applyToWhole_7 ?_
  refine m_callv (wc := [((r0 5), .inl (cI, 25, .inl A_0_5_power)), (h2, .inl (cI, 5, .inl A2))]) C0 hM [2, 5] rfl (m_runS (wc := [((r0 5), .inl (cI, 25, .inl A_0_5_power)), (h2, .inl (cI, 5, .inl A2))]) (As := [.ref (r0 5), .ref h2, .int (x3 + (1 : Int32))]) (rest := []) C0 hM (ct_X3_raise l D cI cJ cZ (r0 5) h2 A_0_5_power A2 (x3 + (1 : Int32)) _ _ h) [2, 5] rfl (by decide) gX2_applyToWhole_X3_raise rfl rfl rfl hd_X3_raise ⟨Nat.le_of_ble_eq_true rfl, Nat.le_of_ble_eq_true rfl⟩ rfl hl.1 rfl (Nat.le_of_ble_eq_true rfl) dX2_applyToWhole_8 ⟨Nat.le_of_ble_eq_true rfl, Nat.le_of_ble_eq_true rfl⟩) (fun u => [(h0, .inr (2, oX2 r0 )), ((r0 2), .inl (cI, 21, .inl A_0_2_whole)), ((r0 5), .inl (cI, 25, .inl u)), (h1, .inr (3, oX4 r1 )), ((r1 0), .inl (cI, 75, .inl A_1_0_numbers)), (h2, .inl (cI, 5, .inl A2))]) (fun _ => rfl) (fun _ => rfl) (fun b4 H locs h hM => ?_)
  refine lv_aload_n hx hb dX2_applyToWhole_11 rfl (lv_at hl 0 rfl) ?_
  refine m_get (C := RX2) (T := TX2) (N := 6) (ci := 2) (ref := "LoweredPowers$Lowering") (v := .ref (r0 2)) C0 hM 0 rfl rfl kt_X2_applyToWhole_X2 2 (by decide) kw_X2_applyToWhole_2 rfl rfl dX2_applyToWhole_12 ?_
  refine lv_iconst (v := (0 : Int32)) hx hb dX2_applyToWhole_15 (by decide) ?_
  refine m_callv (wc := [((r0 2), .inl (cI, 21, .inl A_0_2_whole))]) C0 hM [1] rfl (m_runS (wc := [((r0 2), .inl (cI, 21, .inl A_0_2_whole))]) (As := [.ref (r0 2), .int (0 : Int32)]) (rest := []) C0 hM (ct_J7_fill_53178 l D cI cJ cZ (r0 2) 21 A_0_2_whole (0 : Int32) _ _ h) [1] rfl (by decide) gX2_applyToWhole_J7_fill_53178 rfl rfl rfl hd_J7_fill_53178 ⟨Nat.le_of_ble_eq_true rfl, Nat.le_of_ble_eq_true rfl⟩ rfl hl.1 rfl (Nat.le_of_ble_eq_true rfl) dX2_applyToWhole_16 ⟨Nat.le_of_ble_eq_true rfl, Nat.le_of_ble_eq_true rfl⟩) (fun u => [(h0, .inr (2, oX2 r0 )), ((r0 2), .inl (cI, 21, .inl u)), ((r0 5), .inl (cI, 25, .inl b4)), (h1, .inr (3, oX4 r1 )), ((r1 0), .inl (cI, 75, .inl A_1_0_numbers)), (h2, .inl (cI, 5, .inl A2))]) (fun _ => rfl) (fun _ => rfl) (fun b5 H locs h hM => ?_)
  refine lv_iconst (v := (0 : Int32)) hx hb dX2_applyToWhole_19 (by decide) ?_
  refine lv_istore (lv' := [(4, .int (0 : Int32)), (0, .ref h0), (1, .ref h1), (2, .ref h2), (3, .int x3)]) hx hb dX2_applyToWhole_20 hl (by decide) rfl (fun ls hl => ?_)
  obtain ⟨k0, h⟩ := h
  exact lq22 k0 _ _ _ _ _ _ h hM (lv_sub hl [1, 2, 4, 0] rfl)
