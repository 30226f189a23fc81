theorem hi_X8_init : yX8_init.cls ≠ "java/lang/invoke/MethodHandle" ∧ yX8_init.cls ≠ "java/lang/invoke/VarHandle" ∧ (parseMethodDescriptor yX8_init.desc).map (fun d => d.parameters.length) = some 0 := by decide +kernel
theorem hi_X6_init : yX6_init.cls ≠ "java/lang/invoke/MethodHandle" ∧ yX6_init.cls ≠ "java/lang/invoke/VarHandle" ∧ (parseMethodDescriptor yX6_init.desc).map (fun d => d.parameters.length) = some 0 := by decide +kernel
theorem hi_X10_init : yX10_init.cls ≠ "java/lang/invoke/MethodHandle" ∧ yX10_init.cls ≠ "java/lang/invoke/VarHandle" ∧ (parseMethodDescriptor yX10_init.desc).map (fun d => d.parameters.length) = some 0 := by decide +kernel
theorem hi_X1_init : yX1_init.cls ≠ "java/lang/invoke/MethodHandle" ∧ yX1_init.cls ≠ "java/lang/invoke/VarHandle" ∧ (parseMethodDescriptor yX1_init.desc).map (fun d => d.parameters.length) = some 0 := by decide +kernel
theorem kt_X10_init_X10 : ∀ w ∈ u_ws RX10 TX10 9, w ∈ wsX10_init := fun _ h => List.mem_cons_of_mem _ (List.mem_append_right _ (h))
theorem kt_X1_init_X1 : ∀ w ∈ u_ws RX1 TX1 2, w ∈ wsX1_init := fun _ h => List.mem_cons_of_mem _ (List.mem_append_right _ (h))
theorem kt_X6_init_X6 : ∀ w ∈ u_ws RX6 TX6 4, w ∈ wsX6_init := fun _ h => List.mem_cons_of_mem _ (List.mem_append_right _ (h))
theorem kt_X8_init_X8 : ∀ w ∈ u_ws RX8 TX8 10, w ∈ wsX8_init := fun _ h => List.mem_cons_of_mem _ (List.mem_append_right _ (h))
theorem kw_X8_init_1 : Cond.methodLink RX8 5 objectInit ∈ wsX8_init := List.mem_of_getElem? (i := 1) rfl
theorem kw_X8_init_2 : Cond.instanceMethod objectInit ∈ wsX8_init := List.mem_of_getElem? (i := 2) rfl
theorem kw_X8_init_4 : Cond.arrayClass .int ∈ wsX8_init := List.mem_of_getElem? (i := 4) rfl
theorem kw_X8_init_5 : Cond.fieldLink RX8 15 "LoweredPowers$Search" "steps" "[I" ∈ wsX8_init := List.mem_of_getElem? (i := 5) rfl
theorem kw_X8_init_6 : Cond.fieldLink RX8 19 "LoweredPowers$Search" "lead" "[I" ∈ wsX8_init := List.mem_of_getElem? (i := 6) rfl
theorem kw_X8_init_7 : Cond.fieldLink RX8 22 "LoweredPowers$Search" "end" "[I" ∈ wsX8_init := List.mem_of_getElem? (i := 7) rfl
theorem kw_X8_init_8 : Cond.fieldLink RX8 25 "LoweredPowers$Search" "source" "[I" ∈ wsX8_init := List.mem_of_getElem? (i := 8) rfl
theorem kw_X8_init_9 : Cond.fieldLink RX8 28 "LoweredPowers$Search" "scale" "[I" ∈ wsX8_init := List.mem_of_getElem? (i := 9) rfl
theorem kw_X8_init_10 : Cond.fieldLink RX8 31 "LoweredPowers$Search" "shares" "[I" ∈ wsX8_init := List.mem_of_getElem? (i := 10) rfl
theorem kw_X8_init_11 : Cond.fieldLink RX8 34 "LoweredPowers$Search" "column" "[I" ∈ wsX8_init := List.mem_of_getElem? (i := 11) rfl
theorem kw_X8_init_12 : Cond.fieldLink RX8 37 "LoweredPowers$Search" "share" "[I" ∈ wsX8_init := List.mem_of_getElem? (i := 12) rfl
theorem kw_X8_init_13 : Cond.fieldLink RX8 40 "LoweredPowers$Search" "base" "[I" ∈ wsX8_init := List.mem_of_getElem? (i := 13) rfl
theorem kw_X8_init_14 : Cond.fieldLink RX8 43 "LoweredPowers$Search" "size" "I" ∈ wsX8_init := List.mem_of_getElem? (i := 14) rfl
theorem kw_X6_init_1 : Cond.methodLink RX6 1 objectInit ∈ wsX6_init := List.mem_of_getElem? (i := 1) rfl
theorem kw_X6_init_2 : Cond.instanceMethod objectInit ∈ wsX6_init := List.mem_of_getElem? (i := 2) rfl
theorem kw_X6_init_4 : Cond.arrayClass .int ∈ wsX6_init := List.mem_of_getElem? (i := 4) rfl
theorem kw_X6_init_5 : Cond.fieldLink RX6 9 "LoweredPowers$Racks" "kinds" "[I" ∈ wsX6_init := List.mem_of_getElem? (i := 5) rfl
theorem kw_X6_init_6 : Cond.fieldLink RX6 13 "LoweredPowers$Racks" "sizes" "[I" ∈ wsX6_init := List.mem_of_getElem? (i := 6) rfl
theorem kw_X6_init_7 : Cond.fieldLink RX6 16 "LoweredPowers$Racks" "things" "[I" ∈ wsX6_init := List.mem_of_getElem? (i := 7) rfl
theorem kw_X6_init_8 : Cond.arrayClass .boolean ∈ wsX6_init := List.mem_of_getElem? (i := 8) rfl
theorem kw_X6_init_9 : Cond.fieldLink RX6 19 "LoweredPowers$Racks" "full" "[Z" ∈ wsX6_init := List.mem_of_getElem? (i := 9) rfl
theorem kw_X10_init_1 : Cond.methodLink RX10 3 objectInit ∈ wsX10_init := List.mem_of_getElem? (i := 1) rfl
theorem kw_X10_init_2 : Cond.instanceMethod objectInit ∈ wsX10_init := List.mem_of_getElem? (i := 2) rfl
theorem kw_X10_init_4 : Cond.fieldLink RX10 9 "LoweredPowers$Texts" "size" "I" ∈ wsX10_init := List.mem_of_getElem? (i := 4) rfl
theorem kw_X10_init_5 : Cond.arrayClass .int ∈ wsX10_init := List.mem_of_getElem? (i := 5) rfl
theorem kw_X10_init_6 : Cond.fieldLink RX10 15 "LoweredPowers$Texts" "told" "[I" ∈ wsX10_init := List.mem_of_getElem? (i := 6) rfl
theorem kw_X10_init_7 : Cond.fieldLink RX10 19 "LoweredPowers$Texts" "line" "[I" ∈ wsX10_init := List.mem_of_getElem? (i := 7) rfl
theorem kw_X10_init_8 : Cond.fieldLink RX10 22 "LoweredPowers$Texts" "tape" "[I" ∈ wsX10_init := List.mem_of_getElem? (i := 8) rfl
theorem kw_X10_init_9 : Cond.fieldLink RX10 25 "LoweredPowers$Texts" "length" "I" ∈ wsX10_init := List.mem_of_getElem? (i := 9) rfl
theorem kw_X10_init_10 : Cond.fieldLink RX10 28 "LoweredPowers$Texts" "sign" "I" ∈ wsX10_init := List.mem_of_getElem? (i := 10) rfl
theorem kw_X10_init_11 : Cond.fieldLink RX10 31 "LoweredPowers$Texts" "number" "I" ∈ wsX10_init := List.mem_of_getElem? (i := 11) rfl
theorem kw_X10_init_12 : Cond.fieldLink RX10 34 "LoweredPowers$Texts" "figures" "I" ∈ wsX10_init := List.mem_of_getElem? (i := 12) rfl
theorem kw_X10_init_13 : Cond.fieldLink RX10 37 "LoweredPowers$Texts" "power" "I" ∈ wsX10_init := List.mem_of_getElem? (i := 13) rfl
theorem kw_X1_init_1 : Cond.methodLink RX1 3 objectInit ∈ wsX1_init := List.mem_of_getElem? (i := 1) rfl
theorem kw_X1_init_2 : Cond.instanceMethod objectInit ∈ wsX1_init := List.mem_of_getElem? (i := 2) rfl
theorem kw_X1_init_4 : Cond.arrayClass .int ∈ wsX1_init := List.mem_of_getElem? (i := 4) rfl
theorem kw_X1_init_5 : Cond.fieldLink RX1 11 "LoweredPowers$Lists" "sizes" "[I" ∈ wsX1_init := List.mem_of_getElem? (i := 5) rfl
theorem kw_X1_init_6 : Cond.arrayClass .long ∈ wsX1_init := List.mem_of_getElem? (i := 6) rfl
theorem kw_X1_init_7 : Cond.fieldLink RX1 15 "LoweredPowers$Lists" "longs" "[J" ∈ wsX1_init := List.mem_of_getElem? (i := 7) rfl
abbrev rm_X8_init : Room := { frames := 1, cells := 9, slots := 26826, locals := 20 }
set_option maxRecDepth 100000 in
set_option maxHeartbeats 4000000 in
theorem ct_X8_init (l : Launch) (D : va_G) (cI cJ cZ : ClassId) (h0 : Nat)  (sz : Nat) : Met l yX8_init wsX8_init rm_X8_init (va_Pc [.ref h0] (WX D cI cJ cZ [(h0, .inr (7, [.null, .null, .null, .null, .null, .null, .null, .null, .null, .int 0]))] sz)) (va_Qv (fun (_ : (Nat → Nat)) => True) (fun (u : (Nat → Nat)) t => WY D (va_A [(h0, .inr (7, [.null, .null, .null, .null, .null, .null, .null, .null, .null, .int 0]))] sz) [(h0, .inr (7, oX8 u (0 : Int32))), ((u 0), .inl (cI, 18900, .inl (fun _ => 0))), ((u 1), .inl (cI, 84, .inl (fun _ => 0))), ((u 2), .inl (cI, 84, .inl (fun _ => 0))), ((u 3), .inl (cI, 84, .inl (fun _ => 0))), ((u 4), .inl (cI, 84, .inl (fun _ => 0))), ((u 5), .inl (cI, 7056, .inl (fun _ => 0))), ((u 6), .inl (cI, 225, .inl (fun _ => 0))), ((u 7), .inl (cI, 84, .inl (fun _ => 0))), ((u 8), .inl (cI, 225, .inl (fun _ => 0)))] t) (va_A [(h0, .inr (7, [.null, .null, .null, .null, .null, .null, .null, .null, .null, .int 0]))] sz)) 9 26826 (va_A [(h0, .inr (7, [.null, .null, .null, .null, .null, .null, .null, .null, .null, .int 0]))] sz) := by
  refine m_met (own := RX8) (cc := cX8_init) (maxL := 1) (ret := none) [.ref h0] [(0, .ref h0)] (by decide) rfl rfl (Nat.le_of_ble_eq_true rfl) rfl ?_
  intro p e s m args below meth c Q A hQ hA C0 hr hnm hsz hM ls hl
  have hx := C0.1
  have hb := C0.2.1
  have hown := C0.2.2.2.1
  refine lv_aload_n hx hb dX8_init_0 rfl (lv_at hl 0 rfl) ?_
  refine W.objInit hx hb hown (C0.2.2.2.2.1 _ kw_X8_init_1) (C0.2.2.2.2.1 _ kw_X8_init_2) (C0.2.2.2.2.1 _ (List.mem_of_getElem? (i := 3) rfl)) rfl (by rw [C0.2.2.1]; exact hl.1) rfl dX8_init_1 (Nat.le_of_ble_eq_true rfl) (Nat.le_of_ble_eq_true rfl) ?_
  refine W.eq (g2 := F0 m 4 ls []) rfl ?_
  refine lv_aload_n hx hb dX8_init_4 rfl (lv_at hl 0 rfl) ?_
  refine lv_sipush (v := (18900 : Int32)) hx hb dX8_init_5 (by decide) ?_
  refine m_newaI (N := 18900) C0 hM kw_X8_init_4 (by decide) (by decide) (by decide) (Nat.le_of_ble_eq_true rfl) (Nat.le_of_ble_eq_true rfl) dX8_init_8 (fun q1 H hM => ?_)
  have hM : MW D A s.heap [(h0, .inr (7, [.null, .null, .null, .null, .null, .null, .null, .null, .null, .int 0])), (q1, .inl (cI, 18900, .inl (fun _ => 0)))] H _ := hM
  refine m_putF (ws' := [(h0, .inr (7, [.ref q1, .null, .null, .null, .null, .null, .null, .null, .null, .int 0])), (q1, .inl (cI, 18900, .inl (fun _ => 0)))]) (C := RX8) (T := TX8) (N := 10) (ci := 7) (ref := "LoweredPowers$Search") (v := .ref q1) C0 hM hnm 0 rfl rfl kt_X8_init_X8 tyX8 tyX8_ok nmX8 0 (by decide) kw_X8_init_5 rfl rfl rfl rfl rfl (Nat.le_of_ble_eq_true rfl) rfl dX8_init_10 (fun H locs hM => ?_)
  refine lv_aload_n hx hb dX8_init_13 rfl (lv_at hl 0 rfl) ?_
  refine lv_bipush (v := (84 : Int32)) hx hb dX8_init_14 (by decide) ?_
  refine m_newaI (N := 84) C0 hM kw_X8_init_4 (by decide) (by decide) (by decide) (Nat.le_of_ble_eq_true rfl) (Nat.le_of_ble_eq_true rfl) dX8_init_16 (fun q2 H hM => ?_)
  have hM : MW D A s.heap [(h0, .inr (7, [.ref q1, .null, .null, .null, .null, .null, .null, .null, .null, .int 0])), (q1, .inl (cI, 18900, .inl (fun _ => 0))), (q2, .inl (cI, 84, .inl (fun _ => 0)))] H _ := hM
  refine m_putF (ws' := [(h0, .inr (7, [.ref q1, .ref q2, .null, .null, .null, .null, .null, .null, .null, .int 0])), (q1, .inl (cI, 18900, .inl (fun _ => 0))), (q2, .inl (cI, 84, .inl (fun _ => 0)))]) (C := RX8) (T := TX8) (N := 10) (ci := 7) (ref := "LoweredPowers$Search") (v := .ref q2) C0 hM hnm 0 rfl rfl kt_X8_init_X8 tyX8 tyX8_ok nmX8 1 (by decide) kw_X8_init_6 rfl rfl rfl rfl rfl (Nat.le_of_ble_eq_true rfl) rfl dX8_init_18 (fun H locs hM => ?_)
  refine lv_aload_n hx hb dX8_init_21 rfl (lv_at hl 0 rfl) ?_
  refine lv_bipush (v := (84 : Int32)) hx hb dX8_init_22 (by decide) ?_
  refine m_newaI (N := 84) C0 hM kw_X8_init_4 (by decide) (by decide) (by decide) (Nat.le_of_ble_eq_true rfl) (Nat.le_of_ble_eq_true rfl) dX8_init_24 (fun q3 H hM => ?_)
  have hM : MW D A s.heap [(h0, .inr (7, [.ref q1, .ref q2, .null, .null, .null, .null, .null, .null, .null, .int 0])), (q1, .inl (cI, 18900, .inl (fun _ => 0))), (q2, .inl (cI, 84, .inl (fun _ => 0))), (q3, .inl (cI, 84, .inl (fun _ => 0)))] H _ := hM
  refine m_putF (ws' := [(h0, .inr (7, [.ref q1, .ref q2, .ref q3, .null, .null, .null, .null, .null, .null, .int 0])), (q1, .inl (cI, 18900, .inl (fun _ => 0))), (q2, .inl (cI, 84, .inl (fun _ => 0))), (q3, .inl (cI, 84, .inl (fun _ => 0)))]) (C := RX8) (T := TX8) (N := 10) (ci := 7) (ref := "LoweredPowers$Search") (v := .ref q3) C0 hM hnm 0 rfl rfl kt_X8_init_X8 tyX8 tyX8_ok nmX8 2 (by decide) kw_X8_init_7 rfl rfl rfl rfl rfl (Nat.le_of_ble_eq_true rfl) rfl dX8_init_26 (fun H locs hM => ?_)
  refine lv_aload_n hx hb dX8_init_29 rfl (lv_at hl 0 rfl) ?_
  refine lv_bipush (v := (84 : Int32)) hx hb dX8_init_30 (by decide) ?_
  refine m_newaI (N := 84) C0 hM kw_X8_init_4 (by decide) (by decide) (by decide) (Nat.le_of_ble_eq_true rfl) (Nat.le_of_ble_eq_true rfl) dX8_init_32 (fun q4 H hM => ?_)
  have hM : MW D A s.heap [(h0, .inr (7, [.ref q1, .ref q2, .ref q3, .null, .null, .null, .null, .null, .null, .int 0])), (q1, .inl (cI, 18900, .inl (fun _ => 0))), (q2, .inl (cI, 84, .inl (fun _ => 0))), (q3, .inl (cI, 84, .inl (fun _ => 0))), (q4, .inl (cI, 84, .inl (fun _ => 0)))] H _ := hM
  refine m_putF (ws' := [(h0, .inr (7, [.ref q1, .ref q2, .ref q3, .ref q4, .null, .null, .null, .null, .null, .int 0])), (q1, .inl (cI, 18900, .inl (fun _ => 0))), (q2, .inl (cI, 84, .inl (fun _ => 0))), (q3, .inl (cI, 84, .inl (fun _ => 0))), (q4, .inl (cI, 84, .inl (fun _ => 0)))]) (C := RX8) (T := TX8) (N := 10) (ci := 7) (ref := "LoweredPowers$Search") (v := .ref q4) C0 hM hnm 0 rfl rfl kt_X8_init_X8 tyX8 tyX8_ok nmX8 3 (by decide) kw_X8_init_8 rfl rfl rfl rfl rfl (Nat.le_of_ble_eq_true rfl) rfl dX8_init_34 (fun H locs hM => ?_)
  refine lv_aload_n hx hb dX8_init_37 rfl (lv_at hl 0 rfl) ?_
  refine lv_bipush (v := (84 : Int32)) hx hb dX8_init_38 (by decide) ?_
  refine m_newaI (N := 84) C0 hM kw_X8_init_4 (by decide) (by decide) (by decide) (Nat.le_of_ble_eq_true rfl) (Nat.le_of_ble_eq_true rfl) dX8_init_40 (fun q5 H hM => ?_)
  have hM : MW D A s.heap [(h0, .inr (7, [.ref q1, .ref q2, .ref q3, .ref q4, .null, .null, .null, .null, .null, .int 0])), (q1, .inl (cI, 18900, .inl (fun _ => 0))), (q2, .inl (cI, 84, .inl (fun _ => 0))), (q3, .inl (cI, 84, .inl (fun _ => 0))), (q4, .inl (cI, 84, .inl (fun _ => 0))), (q5, .inl (cI, 84, .inl (fun _ => 0)))] H _ := hM
  refine m_putF (ws' := [(h0, .inr (7, [.ref q1, .ref q2, .ref q3, .ref q4, .ref q5, .null, .null, .null, .null, .int 0])), (q1, .inl (cI, 18900, .inl (fun _ => 0))), (q2, .inl (cI, 84, .inl (fun _ => 0))), (q3, .inl (cI, 84, .inl (fun _ => 0))), (q4, .inl (cI, 84, .inl (fun _ => 0))), (q5, .inl (cI, 84, .inl (fun _ => 0)))]) (C := RX8) (T := TX8) (N := 10) (ci := 7) (ref := "LoweredPowers$Search") (v := .ref q5) C0 hM hnm 0 rfl rfl kt_X8_init_X8 tyX8 tyX8_ok nmX8 4 (by decide) kw_X8_init_9 rfl rfl rfl rfl rfl (Nat.le_of_ble_eq_true rfl) rfl dX8_init_42 (fun H locs hM => ?_)
  refine lv_aload_n hx hb dX8_init_45 rfl (lv_at hl 0 rfl) ?_
  refine lv_sipush (v := (7056 : Int32)) hx hb dX8_init_46 (by decide) ?_
  refine m_newaI (N := 7056) C0 hM kw_X8_init_4 (by decide) (by decide) (by decide) (Nat.le_of_ble_eq_true rfl) (Nat.le_of_ble_eq_true rfl) dX8_init_49 (fun q6 H hM => ?_)
  have hM : MW D A s.heap [(h0, .inr (7, [.ref q1, .ref q2, .ref q3, .ref q4, .ref q5, .null, .null, .null, .null, .int 0])), (q1, .inl (cI, 18900, .inl (fun _ => 0))), (q2, .inl (cI, 84, .inl (fun _ => 0))), (q3, .inl (cI, 84, .inl (fun _ => 0))), (q4, .inl (cI, 84, .inl (fun _ => 0))), (q5, .inl (cI, 84, .inl (fun _ => 0))), (q6, .inl (cI, 7056, .inl (fun _ => 0)))] H _ := hM
  refine m_putF (ws' := [(h0, .inr (7, [.ref q1, .ref q2, .ref q3, .ref q4, .ref q5, .ref q6, .null, .null, .null, .int 0])), (q1, .inl (cI, 18900, .inl (fun _ => 0))), (q2, .inl (cI, 84, .inl (fun _ => 0))), (q3, .inl (cI, 84, .inl (fun _ => 0))), (q4, .inl (cI, 84, .inl (fun _ => 0))), (q5, .inl (cI, 84, .inl (fun _ => 0))), (q6, .inl (cI, 7056, .inl (fun _ => 0)))]) (C := RX8) (T := TX8) (N := 10) (ci := 7) (ref := "LoweredPowers$Search") (v := .ref q6) C0 hM hnm 0 rfl rfl kt_X8_init_X8 tyX8 tyX8_ok nmX8 5 (by decide) kw_X8_init_10 rfl rfl rfl rfl rfl (Nat.le_of_ble_eq_true rfl) rfl dX8_init_51 (fun H locs hM => ?_)
  refine lv_aload_n hx hb dX8_init_54 rfl (lv_at hl 0 rfl) ?_
  refine lv_sipush (v := (225 : Int32)) hx hb dX8_init_55 (by decide) ?_
  refine m_newaI (N := 225) C0 hM kw_X8_init_4 (by decide) (by decide) (by decide) (Nat.le_of_ble_eq_true rfl) (Nat.le_of_ble_eq_true rfl) dX8_init_58 (fun q7 H hM => ?_)
  have hM : MW D A s.heap [(h0, .inr (7, [.ref q1, .ref q2, .ref q3, .ref q4, .ref q5, .ref q6, .null, .null, .null, .int 0])), (q1, .inl (cI, 18900, .inl (fun _ => 0))), (q2, .inl (cI, 84, .inl (fun _ => 0))), (q3, .inl (cI, 84, .inl (fun _ => 0))), (q4, .inl (cI, 84, .inl (fun _ => 0))), (q5, .inl (cI, 84, .inl (fun _ => 0))), (q6, .inl (cI, 7056, .inl (fun _ => 0))), (q7, .inl (cI, 225, .inl (fun _ => 0)))] H _ := hM
  refine m_putF (ws' := [(h0, .inr (7, [.ref q1, .ref q2, .ref q3, .ref q4, .ref q5, .ref q6, .ref q7, .null, .null, .int 0])), (q1, .inl (cI, 18900, .inl (fun _ => 0))), (q2, .inl (cI, 84, .inl (fun _ => 0))), (q3, .inl (cI, 84, .inl (fun _ => 0))), (q4, .inl (cI, 84, .inl (fun _ => 0))), (q5, .inl (cI, 84, .inl (fun _ => 0))), (q6, .inl (cI, 7056, .inl (fun _ => 0))), (q7, .inl (cI, 225, .inl (fun _ => 0)))]) (C := RX8) (T := TX8) (N := 10) (ci := 7) (ref := "LoweredPowers$Search") (v := .ref q7) C0 hM hnm 0 rfl rfl kt_X8_init_X8 tyX8 tyX8_ok nmX8 6 (by decide) kw_X8_init_11 rfl rfl rfl rfl rfl (Nat.le_of_ble_eq_true rfl) rfl dX8_init_60 (fun H locs hM => ?_)
  refine lv_aload_n hx hb dX8_init_63 rfl (lv_at hl 0 rfl) ?_
  refine lv_bipush (v := (84 : Int32)) hx hb dX8_init_64 (by decide) ?_
  refine m_newaI (N := 84) C0 hM kw_X8_init_4 (by decide) (by decide) (by decide) (Nat.le_of_ble_eq_true rfl) (Nat.le_of_ble_eq_true rfl) dX8_init_66 (fun q8 H hM => ?_)
  have hM : MW D A s.heap [(h0, .inr (7, [.ref q1, .ref q2, .ref q3, .ref q4, .ref q5, .ref q6, .ref q7, .null, .null, .int 0])), (q1, .inl (cI, 18900, .inl (fun _ => 0))), (q2, .inl (cI, 84, .inl (fun _ => 0))), (q3, .inl (cI, 84, .inl (fun _ => 0))), (q4, .inl (cI, 84, .inl (fun _ => 0))), (q5, .inl (cI, 84, .inl (fun _ => 0))), (q6, .inl (cI, 7056, .inl (fun _ => 0))), (q7, .inl (cI, 225, .inl (fun _ => 0))), (q8, .inl (cI, 84, .inl (fun _ => 0)))] H _ := hM
  refine m_putF (ws' := [(h0, .inr (7, [.ref q1, .ref q2, .ref q3, .ref q4, .ref q5, .ref q6, .ref q7, .ref q8, .null, .int 0])), (q1, .inl (cI, 18900, .inl (fun _ => 0))), (q2, .inl (cI, 84, .inl (fun _ => 0))), (q3, .inl (cI, 84, .inl (fun _ => 0))), (q4, .inl (cI, 84, .inl (fun _ => 0))), (q5, .inl (cI, 84, .inl (fun _ => 0))), (q6, .inl (cI, 7056, .inl (fun _ => 0))), (q7, .inl (cI, 225, .inl (fun _ => 0))), (q8, .inl (cI, 84, .inl (fun _ => 0)))]) (C := RX8) (T := TX8) (N := 10) (ci := 7) (ref := "LoweredPowers$Search") (v := .ref q8) C0 hM hnm 0 rfl rfl kt_X8_init_X8 tyX8 tyX8_ok nmX8 7 (by decide) kw_X8_init_12 rfl rfl rfl rfl rfl (Nat.le_of_ble_eq_true rfl) rfl dX8_init_68 (fun H locs hM => ?_)
  refine lv_aload_n hx hb dX8_init_71 rfl (lv_at hl 0 rfl) ?_
  refine lv_sipush (v := (225 : Int32)) hx hb dX8_init_72 (by decide) ?_
  refine m_newaI (N := 225) C0 hM kw_X8_init_4 (by decide) (by decide) (by decide) (Nat.le_of_ble_eq_true rfl) (Nat.le_of_ble_eq_true rfl) dX8_init_75 (fun q9 H hM => ?_)
  have hM : MW D A s.heap [(h0, .inr (7, [.ref q1, .ref q2, .ref q3, .ref q4, .ref q5, .ref q6, .ref q7, .ref q8, .null, .int 0])), (q1, .inl (cI, 18900, .inl (fun _ => 0))), (q2, .inl (cI, 84, .inl (fun _ => 0))), (q3, .inl (cI, 84, .inl (fun _ => 0))), (q4, .inl (cI, 84, .inl (fun _ => 0))), (q5, .inl (cI, 84, .inl (fun _ => 0))), (q6, .inl (cI, 7056, .inl (fun _ => 0))), (q7, .inl (cI, 225, .inl (fun _ => 0))), (q8, .inl (cI, 84, .inl (fun _ => 0))), (q9, .inl (cI, 225, .inl (fun _ => 0)))] H _ := hM
  refine m_putF (ws' := [(h0, .inr (7, [.ref q1, .ref q2, .ref q3, .ref q4, .ref q5, .ref q6, .ref q7, .ref q8, .ref q9, .int 0])), (q1, .inl (cI, 18900, .inl (fun _ => 0))), (q2, .inl (cI, 84, .inl (fun _ => 0))), (q3, .inl (cI, 84, .inl (fun _ => 0))), (q4, .inl (cI, 84, .inl (fun _ => 0))), (q5, .inl (cI, 84, .inl (fun _ => 0))), (q6, .inl (cI, 7056, .inl (fun _ => 0))), (q7, .inl (cI, 225, .inl (fun _ => 0))), (q8, .inl (cI, 84, .inl (fun _ => 0))), (q9, .inl (cI, 225, .inl (fun _ => 0)))]) (C := RX8) (T := TX8) (N := 10) (ci := 7) (ref := "LoweredPowers$Search") (v := .ref q9) C0 hM hnm 0 rfl rfl kt_X8_init_X8 tyX8 tyX8_ok nmX8 8 (by decide) kw_X8_init_13 rfl rfl rfl rfl rfl (Nat.le_of_ble_eq_true rfl) rfl dX8_init_77 (fun H locs hM => ?_)
  refine lv_aload_n hx hb dX8_init_80 rfl (lv_at hl 0 rfl) ?_
  refine lv_iconst (v := (0 : Int32)) hx hb dX8_init_81 (by decide) ?_
  refine m_put (ws' := [(h0, .inr (7, [.ref q1, .ref q2, .ref q3, .ref q4, .ref q5, .ref q6, .ref q7, .ref q8, .ref q9, .int (0 : Int32)])), (q1, .inl (cI, 18900, .inl (fun _ => 0))), (q2, .inl (cI, 84, .inl (fun _ => 0))), (q3, .inl (cI, 84, .inl (fun _ => 0))), (q4, .inl (cI, 84, .inl (fun _ => 0))), (q5, .inl (cI, 84, .inl (fun _ => 0))), (q6, .inl (cI, 7056, .inl (fun _ => 0))), (q7, .inl (cI, 225, .inl (fun _ => 0))), (q8, .inl (cI, 84, .inl (fun _ => 0))), (q9, .inl (cI, 225, .inl (fun _ => 0)))]) (C := RX8) (T := TX8) (N := 10) (ci := 7) (ref := "LoweredPowers$Search") (v := .int (0 : Int32)) C0 hM 0 rfl rfl kt_X8_init_X8 tyX8 tyX8_ok nmX8 9 (by decide) kw_X8_init_14 rfl rfl rfl rfl (Nat.le_of_ble_eq_true rfl) rfl dX8_init_82 (fun H locs hM => ?_)
  refine W.widen (k := 9) (n := 26826) (Nat.le_of_ble_eq_true rfl) (Nat.le_of_ble_eq_true rfl) ?_
  subst hsz; subst hA; subst hQ
  exact m_vret C0 hr hM (lk [q1, q2, q3, q4, q5, q6, q7, q8, q9, 0]) trivial rfl dX8_init_85
abbrev rm_X6_init : Room := { frames := 1, cells := 4, slots := 66, locals := 23 }
set_option maxRecDepth 100000 in
set_option maxHeartbeats 4000000 in
theorem ct_X6_init (l : Launch) (D : va_G) (cI cJ cZ : ClassId) (h0 : Nat)  (sz : Nat) : Met l yX6_init wsX6_init rm_X6_init (va_Pc [.ref h0] (WX D cI cJ cZ [(h0, .inr (5, [.null, .null, .null, .null]))] sz)) (va_Qv (fun (_ : (Nat → Nat)) => True) (fun (u : (Nat → Nat)) t => WY D (va_A [(h0, .inr (5, [.null, .null, .null, .null]))] sz) [(h0, .inr (5, oX6 u )), ((u 0), .inl (cI, 3, .inl (fun i => if i < 3 then (-1 : Int32) else (fun _ => 0) i))), ((u 1), .inl (cI, 3, .inl (fun _ => 0))), ((u 2), .inl (cI, 30, .inl (fun _ => 0))), ((u 3), .inl (cZ, 30, .inl (fun _ => 0)))] t) (va_A [(h0, .inr (5, [.null, .null, .null, .null]))] sz)) 4 66 (va_A [(h0, .inr (5, [.null, .null, .null, .null]))] sz) := by
  refine m_met (own := RX6) (cc := cX6_init) (maxL := 1) (ret := none) [.ref h0] [(0, .ref h0)] (by decide) rfl rfl (Nat.le_of_ble_eq_true rfl) rfl ?_
  intro p e s m args below meth c Q A hQ hA C0 hr hnm hsz hM ls hl
  have hx := C0.1
  have hb := C0.2.1
  have hown := C0.2.2.2.1
  refine lv_aload_n hx hb dX6_init_0 rfl (lv_at hl 0 rfl) ?_
  refine W.objInit hx hb hown (C0.2.2.2.2.1 _ kw_X6_init_1) (C0.2.2.2.2.1 _ kw_X6_init_2) (C0.2.2.2.2.1 _ (List.mem_of_getElem? (i := 3) rfl)) rfl (by rw [C0.2.2.1]; exact hl.1) rfl dX6_init_1 (Nat.le_of_ble_eq_true rfl) (Nat.le_of_ble_eq_true rfl) ?_
  refine W.eq (g2 := F0 m 4 ls []) rfl ?_
  refine lv_aload_n hx hb dX6_init_4 rfl (lv_at hl 0 rfl) ?_
  refine lv_iconst (v := (3 : Int32)) hx hb dX6_init_5 (by decide) ?_
  refine m_newaI (N := 3) C0 hM kw_X6_init_4 (by decide) (by decide) (by decide) (Nat.le_of_ble_eq_true rfl) (Nat.le_of_ble_eq_true rfl) dX6_init_6 (fun q1 H hM => ?_)
  have hM : MW D A s.heap [(h0, .inr (5, [.null, .null, .null, .null])), (q1, .inl (cI, 3, .inl (fun _ => 0)))] H _ := hM
  refine m_putF (ws' := [(h0, .inr (5, [.ref q1, .null, .null, .null])), (q1, .inl (cI, 3, .inl (fun _ => 0)))]) (C := RX6) (T := TX6) (N := 4) (ci := 5) (ref := "LoweredPowers$Racks") (v := .ref q1) C0 hM hnm 0 rfl rfl kt_X6_init_X6 tyX6 tyX6_ok nmX6 0 (by decide) kw_X6_init_5 rfl rfl rfl rfl rfl (Nat.le_of_ble_eq_true rfl) rfl dX6_init_8 (fun H locs hM => ?_)
  refine lv_aload_n hx hb dX6_init_11 rfl (lv_at hl 0 rfl) ?_
  refine lv_iconst (v := (3 : Int32)) hx hb dX6_init_12 (by decide) ?_
  refine m_newaI (N := 3) C0 hM kw_X6_init_4 (by decide) (by decide) (by decide) (Nat.le_of_ble_eq_true rfl) (Nat.le_of_ble_eq_true rfl) dX6_init_13 (fun q2 H hM => ?_)
  have hM : MW D A s.heap [(h0, .inr (5, [.ref q1, .null, .null, .null])), (q1, .inl (cI, 3, .inl (fun _ => 0))), (q2, .inl (cI, 3, .inl (fun _ => 0)))] H _ := hM
  refine m_putF (ws' := [(h0, .inr (5, [.ref q1, .ref q2, .null, .null])), (q1, .inl (cI, 3, .inl (fun _ => 0))), (q2, .inl (cI, 3, .inl (fun _ => 0)))]) (C := RX6) (T := TX6) (N := 4) (ci := 5) (ref := "LoweredPowers$Racks") (v := .ref q2) C0 hM hnm 0 rfl rfl kt_X6_init_X6 tyX6 tyX6_ok nmX6 1 (by decide) kw_X6_init_6 rfl rfl rfl rfl rfl (Nat.le_of_ble_eq_true rfl) rfl dX6_init_15 (fun H locs hM => ?_)
  refine lv_aload_n hx hb dX6_init_18 rfl (lv_at hl 0 rfl) ?_
  refine lv_bipush (v := (30 : Int32)) hx hb dX6_init_19 (by decide) ?_
  refine m_newaI (N := 30) C0 hM kw_X6_init_4 (by decide) (by decide) (by decide) (Nat.le_of_ble_eq_true rfl) (Nat.le_of_ble_eq_true rfl) dX6_init_21 (fun q3 H hM => ?_)
  have hM : MW D A s.heap [(h0, .inr (5, [.ref q1, .ref q2, .null, .null])), (q1, .inl (cI, 3, .inl (fun _ => 0))), (q2, .inl (cI, 3, .inl (fun _ => 0))), (q3, .inl (cI, 30, .inl (fun _ => 0)))] H _ := hM
  refine m_putF (ws' := [(h0, .inr (5, [.ref q1, .ref q2, .ref q3, .null])), (q1, .inl (cI, 3, .inl (fun _ => 0))), (q2, .inl (cI, 3, .inl (fun _ => 0))), (q3, .inl (cI, 30, .inl (fun _ => 0)))]) (C := RX6) (T := TX6) (N := 4) (ci := 5) (ref := "LoweredPowers$Racks") (v := .ref q3) C0 hM hnm 0 rfl rfl kt_X6_init_X6 tyX6 tyX6_ok nmX6 2 (by decide) kw_X6_init_7 rfl rfl rfl rfl rfl (Nat.le_of_ble_eq_true rfl) rfl dX6_init_23 (fun H locs hM => ?_)
  refine lv_aload_n hx hb dX6_init_26 rfl (lv_at hl 0 rfl) ?_
  refine lv_bipush (v := (30 : Int32)) hx hb dX6_init_27 (by decide) ?_
  refine m_newaZ (N := 30) C0 hM kw_X6_init_8 (by decide) (by decide) (by decide) (Nat.le_of_ble_eq_true rfl) (Nat.le_of_ble_eq_true rfl) dX6_init_29 (fun q4 H hM => ?_)
  have hM : MW D A s.heap [(h0, .inr (5, [.ref q1, .ref q2, .ref q3, .null])), (q1, .inl (cI, 3, .inl (fun _ => 0))), (q2, .inl (cI, 3, .inl (fun _ => 0))), (q3, .inl (cI, 30, .inl (fun _ => 0))), (q4, .inl (cZ, 30, .inl (fun _ => 0)))] H _ := hM
  refine m_putF (ws' := [(h0, .inr (5, [.ref q1, .ref q2, .ref q3, .ref q4])), (q1, .inl (cI, 3, .inl (fun _ => 0))), (q2, .inl (cI, 3, .inl (fun _ => 0))), (q3, .inl (cI, 30, .inl (fun _ => 0))), (q4, .inl (cZ, 30, .inl (fun _ => 0)))]) (C := RX6) (T := TX6) (N := 4) (ci := 5) (ref := "LoweredPowers$Racks") (v := .ref q4) C0 hM hnm 0 rfl rfl kt_X6_init_X6 tyX6 tyX6_ok nmX6 3 (by decide) kw_X6_init_9 rfl rfl rfl rfl rfl (Nat.le_of_ble_eq_true rfl) rfl dX6_init_31 (fun H locs hM => ?_)
  refine lv_aload_n hx hb dX6_init_34 rfl (lv_at hl 0 rfl) ?_
  refine m_get (C := RX6) (T := TX6) (N := 4) (ci := 5) (ref := "LoweredPowers$Racks") (v := .ref q1) C0 hM 0 rfl rfl kt_X6_init_X6 0 (by decide) kw_X6_init_5 rfl rfl dX6_init_35 ?_
  refine lv_iconst (v := (-1 : Int32)) hx hb dX6_init_38 (by decide) ?_
  refine m_callv (wc := [(q1, .inl (cI, 3, .inl (fun _ => 0)))]) C0 hM [1] rfl (m_runS (wc := [(q1, .inl (cI, 3, .inl (fun _ => 0)))]) (As := [.ref q1, .int (-1 : Int32)]) (rest := []) C0 hM (ct_J7_fill_53178 l D cI cJ cZ q1 3 (fun _ => 0) (-1 : Int32) _ (fun u => u = (fun i => if i < 3 then (-1 : Int32) else (fun _ => 0) i)) (wp_fill_spec (by decide) rfl)) [1] rfl (by decide) gX6_init_J7_fill_53178 rfl rfl rfl hd_J7_fill_53178 ⟨Nat.le_of_ble_eq_true rfl, Nat.le_of_ble_eq_true rfl⟩ rfl hl.1 rfl (Nat.le_of_ble_eq_true rfl) dX6_init_39 ⟨Nat.le_of_ble_eq_true rfl, Nat.le_of_ble_eq_true rfl⟩) (fun u => [(h0, .inr (5, [.ref q1, .ref q2, .ref q3, .ref q4])), (q1, .inl (cI, 3, .inl u)), (q2, .inl (cI, 3, .inl (fun _ => 0))), (q3, .inl (cI, 30, .inl (fun _ => 0))), (q4, .inl (cZ, 30, .inl (fun _ => 0)))]) (fun _ => rfl) (fun _ => rfl) (fun u H locs hu hM => ?_)
  subst hu
  refine W.widen (k := 4) (n := 66) (Nat.le_of_ble_eq_true rfl) (Nat.le_of_ble_eq_true rfl) ?_
  subst hsz; subst hA; subst hQ
  exact m_vret C0 hr hM (lk [q1, q2, q3, q4]) trivial rfl dX6_init_42
abbrev rm_X10_init : Room := { frames := 1, cells := 3, slots := 105, locals := 20 }
set_option maxRecDepth 100000 in
set_option maxHeartbeats 4000000 in
theorem ct_X10_init (l : Launch) (D : va_G) (cI cJ cZ : ClassId) (h0 : Nat)  (sz : Nat) : Met l yX10_init wsX10_init rm_X10_init (va_Pc [.ref h0] (WX D cI cJ cZ [(h0, .inr (9, [.int 0, .null, .null, .null, .int 0, .int 0, .int 0, .int 0, .int 0]))] sz)) (va_Qv (fun (_ : (Nat → Nat)) => True) (fun (u : (Nat → Nat)) t => WY D (va_A [(h0, .inr (9, [.int 0, .null, .null, .null, .int 0, .int 0, .int 0, .int 0, .int 0]))] sz) [(h0, .inr (9, oX10 u (0 : Int32) (0 : Int32) (1 : Int32) (0 : Int32) (0 : Int32) (0 : Int32))), ((u 1), .inl (cI, 5, .inl (fun _ => 0))), ((u 2), .inl (cI, 40, .inl (fun _ => 0))), ((u 3), .inl (cI, 60, .inl (fun _ => 0)))] t) (va_A [(h0, .inr (9, [.int 0, .null, .null, .null, .int 0, .int 0, .int 0, .int 0, .int 0]))] sz)) 3 105 (va_A [(h0, .inr (9, [.int 0, .null, .null, .null, .int 0, .int 0, .int 0, .int 0, .int 0]))] sz) := by
  refine m_met (own := RX10) (cc := cX10_init) (maxL := 1) (ret := none) [.ref h0] [(0, .ref h0)] (by decide) rfl rfl (Nat.le_of_ble_eq_true rfl) rfl ?_
  intro p e s m args below meth c Q A hQ hA C0 hr hnm hsz hM ls hl
  have hx := C0.1
  have hb := C0.2.1
  have hown := C0.2.2.2.1
  refine lv_aload_n hx hb dX10_init_0 rfl (lv_at hl 0 rfl) ?_
  refine W.objInit hx hb hown (C0.2.2.2.2.1 _ kw_X10_init_1) (C0.2.2.2.2.1 _ kw_X10_init_2) (C0.2.2.2.2.1 _ (List.mem_of_getElem? (i := 3) rfl)) rfl (by rw [C0.2.2.1]; exact hl.1) rfl dX10_init_1 (Nat.le_of_ble_eq_true rfl) (Nat.le_of_ble_eq_true rfl) ?_
  refine W.eq (g2 := F0 m 4 ls []) rfl ?_
  refine lv_aload_n hx hb dX10_init_4 rfl (lv_at hl 0 rfl) ?_
  refine lv_iconst (v := (0 : Int32)) hx hb dX10_init_5 (by decide) ?_
  refine m_put (ws' := [(h0, .inr (9, [.int (0 : Int32), .null, .null, .null, .int 0, .int 0, .int 0, .int 0, .int 0]))]) (C := RX10) (T := TX10) (N := 9) (ci := 9) (ref := "LoweredPowers$Texts") (v := .int (0 : Int32)) C0 hM 0 rfl rfl kt_X10_init_X10 tyX10 tyX10_ok nmX10 0 (by decide) kw_X10_init_4 rfl rfl rfl rfl (Nat.le_of_ble_eq_true rfl) rfl dX10_init_6 (fun H locs hM => ?_)
  refine lv_aload_n hx hb dX10_init_9 rfl (lv_at hl 0 rfl) ?_
  refine lv_iconst (v := (5 : Int32)) hx hb dX10_init_10 (by decide) ?_
  refine m_newaI (N := 5) C0 hM kw_X10_init_5 (by decide) (by decide) (by decide) (Nat.le_of_ble_eq_true rfl) (Nat.le_of_ble_eq_true rfl) dX10_init_11 (fun q1 H hM => ?_)
  have hM : MW D A s.heap [(h0, .inr (9, [.int (0 : Int32), .null, .null, .null, .int 0, .int 0, .int 0, .int 0, .int 0])), (q1, .inl (cI, 5, .inl (fun _ => 0)))] H _ := hM
  refine m_putF (ws' := [(h0, .inr (9, [.int (0 : Int32), .ref q1, .null, .null, .int 0, .int 0, .int 0, .int 0, .int 0])), (q1, .inl (cI, 5, .inl (fun _ => 0)))]) (C := RX10) (T := TX10) (N := 9) (ci := 9) (ref := "LoweredPowers$Texts") (v := .ref q1) C0 hM hnm 0 rfl rfl kt_X10_init_X10 tyX10 tyX10_ok nmX10 1 (by decide) kw_X10_init_6 rfl rfl rfl rfl rfl (Nat.le_of_ble_eq_true rfl) rfl dX10_init_13 (fun H locs hM => ?_)
  refine lv_aload_n hx hb dX10_init_16 rfl (lv_at hl 0 rfl) ?_
  refine lv_bipush (v := (40 : Int32)) hx hb dX10_init_17 (by decide) ?_
  refine m_newaI (N := 40) C0 hM kw_X10_init_5 (by decide) (by decide) (by decide) (Nat.le_of_ble_eq_true rfl) (Nat.le_of_ble_eq_true rfl) dX10_init_19 (fun q2 H hM => ?_)
  have hM : MW D A s.heap [(h0, .inr (9, [.int (0 : Int32), .ref q1, .null, .null, .int 0, .int 0, .int 0, .int 0, .int 0])), (q1, .inl (cI, 5, .inl (fun _ => 0))), (q2, .inl (cI, 40, .inl (fun _ => 0)))] H _ := hM
  refine m_putF (ws' := [(h0, .inr (9, [.int (0 : Int32), .ref q1, .ref q2, .null, .int 0, .int 0, .int 0, .int 0, .int 0])), (q1, .inl (cI, 5, .inl (fun _ => 0))), (q2, .inl (cI, 40, .inl (fun _ => 0)))]) (C := RX10) (T := TX10) (N := 9) (ci := 9) (ref := "LoweredPowers$Texts") (v := .ref q2) C0 hM hnm 0 rfl rfl kt_X10_init_X10 tyX10 tyX10_ok nmX10 2 (by decide) kw_X10_init_7 rfl rfl rfl rfl rfl (Nat.le_of_ble_eq_true rfl) rfl dX10_init_21 (fun H locs hM => ?_)
  refine lv_aload_n hx hb dX10_init_24 rfl (lv_at hl 0 rfl) ?_
  refine lv_bipush (v := (60 : Int32)) hx hb dX10_init_25 (by decide) ?_
  refine m_newaI (N := 60) C0 hM kw_X10_init_5 (by decide) (by decide) (by decide) (Nat.le_of_ble_eq_true rfl) (Nat.le_of_ble_eq_true rfl) dX10_init_27 (fun q3 H hM => ?_)
  have hM : MW D A s.heap [(h0, .inr (9, [.int (0 : Int32), .ref q1, .ref q2, .null, .int 0, .int 0, .int 0, .int 0, .int 0])), (q1, .inl (cI, 5, .inl (fun _ => 0))), (q2, .inl (cI, 40, .inl (fun _ => 0))), (q3, .inl (cI, 60, .inl (fun _ => 0)))] H _ := hM
  refine m_putF (ws' := [(h0, .inr (9, [.int (0 : Int32), .ref q1, .ref q2, .ref q3, .int 0, .int 0, .int 0, .int 0, .int 0])), (q1, .inl (cI, 5, .inl (fun _ => 0))), (q2, .inl (cI, 40, .inl (fun _ => 0))), (q3, .inl (cI, 60, .inl (fun _ => 0)))]) (C := RX10) (T := TX10) (N := 9) (ci := 9) (ref := "LoweredPowers$Texts") (v := .ref q3) C0 hM hnm 0 rfl rfl kt_X10_init_X10 tyX10 tyX10_ok nmX10 3 (by decide) kw_X10_init_8 rfl rfl rfl rfl rfl (Nat.le_of_ble_eq_true rfl) rfl dX10_init_29 (fun H locs hM => ?_)
  refine lv_aload_n hx hb dX10_init_32 rfl (lv_at hl 0 rfl) ?_
  refine lv_iconst (v := (0 : Int32)) hx hb dX10_init_33 (by decide) ?_
  refine m_put (ws' := [(h0, .inr (9, [.int (0 : Int32), .ref q1, .ref q2, .ref q3, .int (0 : Int32), .int 0, .int 0, .int 0, .int 0])), (q1, .inl (cI, 5, .inl (fun _ => 0))), (q2, .inl (cI, 40, .inl (fun _ => 0))), (q3, .inl (cI, 60, .inl (fun _ => 0)))]) (C := RX10) (T := TX10) (N := 9) (ci := 9) (ref := "LoweredPowers$Texts") (v := .int (0 : Int32)) C0 hM 0 rfl rfl kt_X10_init_X10 tyX10 tyX10_ok nmX10 4 (by decide) kw_X10_init_9 rfl rfl rfl rfl (Nat.le_of_ble_eq_true rfl) rfl dX10_init_34 (fun H locs hM => ?_)
  refine lv_aload_n hx hb dX10_init_37 rfl (lv_at hl 0 rfl) ?_
  refine lv_iconst (v := (1 : Int32)) hx hb dX10_init_38 (by decide) ?_
  refine m_put (ws' := [(h0, .inr (9, [.int (0 : Int32), .ref q1, .ref q2, .ref q3, .int (0 : Int32), .int (1 : Int32), .int 0, .int 0, .int 0])), (q1, .inl (cI, 5, .inl (fun _ => 0))), (q2, .inl (cI, 40, .inl (fun _ => 0))), (q3, .inl (cI, 60, .inl (fun _ => 0)))]) (C := RX10) (T := TX10) (N := 9) (ci := 9) (ref := "LoweredPowers$Texts") (v := .int (1 : Int32)) C0 hM 0 rfl rfl kt_X10_init_X10 tyX10 tyX10_ok nmX10 5 (by decide) kw_X10_init_10 rfl rfl rfl rfl (Nat.le_of_ble_eq_true rfl) rfl dX10_init_39 (fun H locs hM => ?_)
  refine lv_aload_n hx hb dX10_init_42 rfl (lv_at hl 0 rfl) ?_
  refine lv_iconst (v := (0 : Int32)) hx hb dX10_init_43 (by decide) ?_
  refine m_put (ws' := [(h0, .inr (9, [.int (0 : Int32), .ref q1, .ref q2, .ref q3, .int (0 : Int32), .int (1 : Int32), .int (0 : Int32), .int 0, .int 0])), (q1, .inl (cI, 5, .inl (fun _ => 0))), (q2, .inl (cI, 40, .inl (fun _ => 0))), (q3, .inl (cI, 60, .inl (fun _ => 0)))]) (C := RX10) (T := TX10) (N := 9) (ci := 9) (ref := "LoweredPowers$Texts") (v := .int (0 : Int32)) C0 hM 0 rfl rfl kt_X10_init_X10 tyX10 tyX10_ok nmX10 6 (by decide) kw_X10_init_11 rfl rfl rfl rfl (Nat.le_of_ble_eq_true rfl) rfl dX10_init_44 (fun H locs hM => ?_)
  refine lv_aload_n hx hb dX10_init_47 rfl (lv_at hl 0 rfl) ?_
  refine lv_iconst (v := (0 : Int32)) hx hb dX10_init_48 (by decide) ?_
  refine m_put (ws' := [(h0, .inr (9, [.int (0 : Int32), .ref q1, .ref q2, .ref q3, .int (0 : Int32), .int (1 : Int32), .int (0 : Int32), .int (0 : Int32), .int 0])), (q1, .inl (cI, 5, .inl (fun _ => 0))), (q2, .inl (cI, 40, .inl (fun _ => 0))), (q3, .inl (cI, 60, .inl (fun _ => 0)))]) (C := RX10) (T := TX10) (N := 9) (ci := 9) (ref := "LoweredPowers$Texts") (v := .int (0 : Int32)) C0 hM 0 rfl rfl kt_X10_init_X10 tyX10 tyX10_ok nmX10 7 (by decide) kw_X10_init_12 rfl rfl rfl rfl (Nat.le_of_ble_eq_true rfl) rfl dX10_init_49 (fun H locs hM => ?_)
  refine lv_aload_n hx hb dX10_init_52 rfl (lv_at hl 0 rfl) ?_
  refine lv_iconst (v := (0 : Int32)) hx hb dX10_init_53 (by decide) ?_
  refine m_put (ws' := [(h0, .inr (9, [.int (0 : Int32), .ref q1, .ref q2, .ref q3, .int (0 : Int32), .int (1 : Int32), .int (0 : Int32), .int (0 : Int32), .int (0 : Int32)])), (q1, .inl (cI, 5, .inl (fun _ => 0))), (q2, .inl (cI, 40, .inl (fun _ => 0))), (q3, .inl (cI, 60, .inl (fun _ => 0)))]) (C := RX10) (T := TX10) (N := 9) (ci := 9) (ref := "LoweredPowers$Texts") (v := .int (0 : Int32)) C0 hM 0 rfl rfl kt_X10_init_X10 tyX10 tyX10_ok nmX10 8 (by decide) kw_X10_init_13 rfl rfl rfl rfl (Nat.le_of_ble_eq_true rfl) rfl dX10_init_54 (fun H locs hM => ?_)
  refine W.widen (k := 3) (n := 105) (Nat.le_of_ble_eq_true rfl) (Nat.le_of_ble_eq_true rfl) ?_
  subst hsz; subst hA; subst hQ
  exact m_vret C0 hr hM (lk [0, q1, q2, q3, 0, 0, 0, 0, 0]) trivial rfl dX10_init_57
abbrev rm_X1_init : Room := { frames := 1, cells := 2, slots := 39, locals := 23 }
set_option maxRecDepth 100000 in
set_option maxHeartbeats 4000000 in
theorem ct_X1_init (l : Launch) (D : va_G) (cI cJ cZ : ClassId) (h0 : Nat)  (sz : Nat) : Met l yX1_init wsX1_init rm_X1_init (va_Pc [.ref h0] (WX D cI cJ cZ [(h0, .inr (1, [.null, .null]))] sz)) (va_Qv (fun (_ : (Nat → Nat)) => True) (fun (u : (Nat → Nat)) t => WY D (va_A [(h0, .inr (1, [.null, .null]))] sz) [(h0, .inr (1, oX1 u )), ((u 0), .inl (cI, 3, .inl (fun i => if i < 3 then (-1 : Int32) else (fun _ => 0) i))), ((u 1), .inl (cJ, 36, .inr (.inl (fun _ => 0))))] t) (va_A [(h0, .inr (1, [.null, .null]))] sz)) 2 39 (va_A [(h0, .inr (1, [.null, .null]))] sz) := by
  refine m_met (own := RX1) (cc := cX1_init) (maxL := 1) (ret := none) [.ref h0] [(0, .ref h0)] (by decide) rfl rfl (Nat.le_of_ble_eq_true rfl) rfl ?_
  intro p e s m args below meth c Q A hQ hA C0 hr hnm hsz hM ls hl
  have hx := C0.1
  have hb := C0.2.1
  have hown := C0.2.2.2.1
  refine lv_aload_n hx hb dX1_init_0 rfl (lv_at hl 0 rfl) ?_
  refine W.objInit hx hb hown (C0.2.2.2.2.1 _ kw_X1_init_1) (C0.2.2.2.2.1 _ kw_X1_init_2) (C0.2.2.2.2.1 _ (List.mem_of_getElem? (i := 3) rfl)) rfl (by rw [C0.2.2.1]; exact hl.1) rfl dX1_init_1 (Nat.le_of_ble_eq_true rfl) (Nat.le_of_ble_eq_true rfl) ?_
  refine W.eq (g2 := F0 m 4 ls []) rfl ?_
  refine lv_aload_n hx hb dX1_init_4 rfl (lv_at hl 0 rfl) ?_
  refine lv_iconst (v := (3 : Int32)) hx hb dX1_init_5 (by decide) ?_
  refine m_newaI (N := 3) C0 hM kw_X1_init_4 (by decide) (by decide) (by decide) (Nat.le_of_ble_eq_true rfl) (Nat.le_of_ble_eq_true rfl) dX1_init_6 (fun q1 H hM => ?_)
  have hM : MW D A s.heap [(h0, .inr (1, [.null, .null])), (q1, .inl (cI, 3, .inl (fun _ => 0)))] H _ := hM
  refine m_putF (ws' := [(h0, .inr (1, [.ref q1, .null])), (q1, .inl (cI, 3, .inl (fun _ => 0)))]) (C := RX1) (T := TX1) (N := 2) (ci := 1) (ref := "LoweredPowers$Lists") (v := .ref q1) C0 hM hnm 0 rfl rfl kt_X1_init_X1 tyX1 tyX1_ok nmX1 0 (by decide) kw_X1_init_5 rfl rfl rfl rfl rfl (Nat.le_of_ble_eq_true rfl) rfl dX1_init_8 (fun H locs hM => ?_)
  refine lv_aload_n hx hb dX1_init_11 rfl (lv_at hl 0 rfl) ?_
  refine lv_bipush (v := (36 : Int32)) hx hb dX1_init_12 (by decide) ?_
  refine m_newaJ (N := 36) C0 hM kw_X1_init_6 (by decide) (by decide) (by decide) (Nat.le_of_ble_eq_true rfl) (Nat.le_of_ble_eq_true rfl) dX1_init_14 (fun q2 H hM => ?_)
  have hM : MW D A s.heap [(h0, .inr (1, [.ref q1, .null])), (q1, .inl (cI, 3, .inl (fun _ => 0))), (q2, .inl (cJ, 36, .inr (.inl (fun _ => 0))))] H _ := hM
  refine m_putF (ws' := [(h0, .inr (1, [.ref q1, .ref q2])), (q1, .inl (cI, 3, .inl (fun _ => 0))), (q2, .inl (cJ, 36, .inr (.inl (fun _ => 0))))]) (C := RX1) (T := TX1) (N := 2) (ci := 1) (ref := "LoweredPowers$Lists") (v := .ref q2) C0 hM hnm 0 rfl rfl kt_X1_init_X1 tyX1 tyX1_ok nmX1 1 (by decide) kw_X1_init_7 rfl rfl rfl rfl rfl (Nat.le_of_ble_eq_true rfl) rfl dX1_init_16 (fun H locs hM => ?_)
  refine lv_aload_n hx hb dX1_init_19 rfl (lv_at hl 0 rfl) ?_
  refine m_get (C := RX1) (T := TX1) (N := 2) (ci := 1) (ref := "LoweredPowers$Lists") (v := .ref q1) C0 hM 0 rfl rfl kt_X1_init_X1 0 (by decide) kw_X1_init_5 rfl rfl dX1_init_20 ?_
  refine lv_iconst (v := (-1 : Int32)) hx hb dX1_init_23 (by decide) ?_
  refine m_callv (wc := [(q1, .inl (cI, 3, .inl (fun _ => 0)))]) C0 hM [1] rfl (m_runS (wc := [(q1, .inl (cI, 3, .inl (fun _ => 0)))]) (As := [.ref q1, .int (-1 : Int32)]) (rest := []) C0 hM (ct_J7_fill_53178 l D cI cJ cZ q1 3 (fun _ => 0) (-1 : Int32) _ (fun u => u = (fun i => if i < 3 then (-1 : Int32) else (fun _ => 0) i)) (wp_fill_spec (by decide) rfl)) [1] rfl (by decide) gX1_init_J7_fill_53178 rfl rfl rfl hd_J7_fill_53178 ⟨Nat.le_of_ble_eq_true rfl, Nat.le_of_ble_eq_true rfl⟩ rfl hl.1 rfl (Nat.le_of_ble_eq_true rfl) dX1_init_24 ⟨Nat.le_of_ble_eq_true rfl, Nat.le_of_ble_eq_true rfl⟩) (fun u => [(h0, .inr (1, [.ref q1, .ref q2])), (q1, .inl (cI, 3, .inl u)), (q2, .inl (cJ, 36, .inr (.inl (fun _ => 0))))]) (fun _ => rfl) (fun _ => rfl) (fun u H locs hu hM => ?_)
  subst hu
  refine W.widen (k := 2) (n := 39) (Nat.le_of_ble_eq_true rfl) (Nat.le_of_ble_eq_true rfl) ?_
  subst hsz; subst hA; subst hQ
  exact m_vret C0 hr hM (lk [q1, q2]) trivial rfl dX1_init_27
