theorem hi_X9_init : yX9_init.cls ≠ "java/lang/invoke/MethodHandle" ∧ yX9_init.cls ≠ "java/lang/invoke/VarHandle" ∧ (parseMethodDescriptor yX9_init.desc).map (fun d => d.parameters.length) = some 0 := by decide +kernel
theorem hi_X2_init : yX2_init.cls ≠ "java/lang/invoke/MethodHandle" ∧ yX2_init.cls ≠ "java/lang/invoke/VarHandle" ∧ (parseMethodDescriptor yX2_init.desc).map (fun d => d.parameters.length) = some 0 := by decide +kernel
theorem hi_X7_init : yX7_init.cls ≠ "java/lang/invoke/MethodHandle" ∧ yX7_init.cls ≠ "java/lang/invoke/VarHandle" ∧ (parseMethodDescriptor yX7_init.desc).map (fun d => d.parameters.length) = some 2 := by decide +kernel
theorem kt_X2_init_X2 : ∀ w ∈ u_ws RX2 TX2 6, w ∈ wsX2_init := fun _ h => List.mem_cons_of_mem _ (List.mem_append_right _ (h))
theorem kt_X7_init_X7 : ∀ w ∈ u_ws RX7 TX7 6, w ∈ wsX7_init := fun _ h => List.mem_cons_of_mem _ (List.mem_append_right _ (h))
theorem kt_X9_init_X0 : ∀ w ∈ u_ws RX0 TX0 7, w ∈ wsX9_init := fun _ h => List.mem_cons_of_mem _ (List.mem_append_left _ (List.mem_append_right _ (h)))
theorem kt_X9_init_X4 : ∀ w ∈ u_ws RX4 TX4 1, w ∈ wsX9_init := fun _ h => List.mem_cons_of_mem _ (List.mem_append_left _ (List.mem_append_left _ (List.mem_append_right _ (h))))
theorem kt_X9_init_X5 : ∀ w ∈ u_ws RX5 TX5 3, w ∈ wsX9_init := fun _ h => List.mem_cons_of_mem _ (List.mem_append_right _ (h))
theorem kt_X9_init_X9 : ∀ w ∈ u_ws RX9 TX9 4, w ∈ wsX9_init := fun _ h => List.mem_cons_of_mem _ (List.mem_append_left _ (List.mem_append_left _ (List.mem_append_left _ (List.mem_append_right _ (h)))))
theorem kw_X9_init_1 : Cond.methodLink RX9 3 objectInit ∈ wsX9_init := List.mem_of_getElem? (i := 1) rfl
theorem kw_X9_init_2 : Cond.instanceMethod objectInit ∈ wsX9_init := List.mem_of_getElem? (i := 2) rfl
theorem kw_X9_init_4 : Cond.arrayClass .int ∈ wsX9_init := List.mem_of_getElem? (i := 4) rfl
theorem kw_X9_init_5 : Cond.fieldLink RX9 9 "LoweredPowers$State" "f" "[I" ∈ wsX9_init := List.mem_of_getElem? (i := 5) rfl
theorem kw_X9_init_6 : Cond.classLink RX9 15 RX4 ∈ wsX9_init := List.mem_of_getElem? (i := 6) rfl
theorem kw_X9_init_7 : Cond.instantiable RX4 1 ∈ wsX9_init := List.mem_of_getElem? (i := 7) rfl
theorem kw_X9_init_8 : Cond.initialized RX4 ∈ wsX9_init := List.mem_of_getElem? (i := 8) rfl
theorem kw_X9_init_18 : Cond.instanceMethod yX4_init ∈ wsX9_init := List.mem_of_getElem? (i := 18) rfl
theorem kw_X9_init_9 : Cond.fieldLink RX9 18 "LoweredPowers$State" "operator" "LLoweredPowers$Operator;" ∈ wsX9_init := List.mem_of_getElem? (i := 9) rfl
theorem kw_X9_init_10 : Cond.classLink RX9 22 RX0 ∈ wsX9_init := List.mem_of_getElem? (i := 10) rfl
theorem kw_X9_init_11 : Cond.instantiable RX0 7 ∈ wsX9_init := List.mem_of_getElem? (i := 11) rfl
theorem kw_X9_init_12 : Cond.initialized RX0 ∈ wsX9_init := List.mem_of_getElem? (i := 12) rfl
theorem kw_X9_init_22 : Cond.instanceMethod yX0_init ∈ wsX9_init := List.mem_of_getElem? (i := 22) rfl
theorem kw_X9_init_13 : Cond.fieldLink RX9 25 "LoweredPowers$State" "found" "LLoweredPowers$Found;" ∈ wsX9_init := List.mem_of_getElem? (i := 13) rfl
theorem kw_X9_init_14 : Cond.classLink RX9 29 RX5 ∈ wsX9_init := List.mem_of_getElem? (i := 14) rfl
theorem kw_X9_init_15 : Cond.instantiable RX5 3 ∈ wsX9_init := List.mem_of_getElem? (i := 15) rfl
theorem kw_X9_init_16 : Cond.initialized RX5 ∈ wsX9_init := List.mem_of_getElem? (i := 16) rfl
theorem kw_X9_init_33 : Cond.instanceMethod yX5_init ∈ wsX9_init := List.mem_of_getElem? (i := 33) rfl
theorem kw_X9_init_17 : Cond.fieldLink RX9 32 "LoweredPowers$State" "plan" "LLoweredPowers$Plan;" ∈ wsX9_init := List.mem_of_getElem? (i := 17) rfl
theorem kw_X2_init_1 : Cond.methodLink RX2 3 objectInit ∈ wsX2_init := List.mem_of_getElem? (i := 1) rfl
theorem kw_X2_init_2 : Cond.instanceMethod objectInit ∈ wsX2_init := List.mem_of_getElem? (i := 2) rfl
theorem kw_X2_init_4 : Cond.arrayClass .int ∈ wsX2_init := List.mem_of_getElem? (i := 4) rfl
theorem kw_X2_init_5 : Cond.fieldLink RX2 11 "LoweredPowers$Lowering" "sum" "[I" ∈ wsX2_init := List.mem_of_getElem? (i := 5) rfl
theorem kw_X2_init_6 : Cond.fieldLink RX2 15 "LoweredPowers$Lowering" "b" "[I" ∈ wsX2_init := List.mem_of_getElem? (i := 6) rfl
theorem kw_X2_init_7 : Cond.fieldLink RX2 18 "LoweredPowers$Lowering" "whole" "[I" ∈ wsX2_init := List.mem_of_getElem? (i := 7) rfl
theorem kw_X2_init_8 : Cond.fieldLink RX2 21 "LoweredPowers$Lowering" "derived" "[I" ∈ wsX2_init := List.mem_of_getElem? (i := 8) rfl
theorem kw_X2_init_9 : Cond.fieldLink RX2 24 "LoweredPowers$Lowering" "next" "[I" ∈ wsX2_init := List.mem_of_getElem? (i := 9) rfl
theorem kw_X2_init_10 : Cond.fieldLink RX2 27 "LoweredPowers$Lowering" "power" "[I" ∈ wsX2_init := List.mem_of_getElem? (i := 10) rfl
theorem kw_X7_init_1 : Cond.methodLink RX7 5 objectInit ∈ wsX7_init := List.mem_of_getElem? (i := 1) rfl
theorem kw_X7_init_2 : Cond.instanceMethod objectInit ∈ wsX7_init := List.mem_of_getElem? (i := 2) rfl
theorem kw_X7_init_4 : Cond.fieldLink RX7 11 "LoweredPowers$Reals" "fraction" "I" ∈ wsX7_init := List.mem_of_getElem? (i := 4) rfl
theorem kw_X7_init_5 : Cond.fieldLink RX7 15 "LoweredPowers$Reals" "most" "I" ∈ wsX7_init := List.mem_of_getElem? (i := 5) rfl
theorem kw_X7_init_6 : Cond.fieldLink RX7 18 "LoweredPowers$Reals" "bias" "I" ∈ wsX7_init := List.mem_of_getElem? (i := 6) rfl
theorem kw_X7_init_7 : Cond.fieldLink RX7 21 "LoweredPowers$Reals" "signBit" "J" ∈ wsX7_init := List.mem_of_getElem? (i := 7) rfl
theorem kw_X7_init_8 : Cond.fieldLink RX7 25 "LoweredPowers$Reals" "infinite" "J" ∈ wsX7_init := List.mem_of_getElem? (i := 8) rfl
theorem kw_X7_init_9 : Cond.fieldLink RX7 28 "LoweredPowers$Reals" "nan" "J" ∈ wsX7_init := List.mem_of_getElem? (i := 9) rfl
abbrev rm_X9_init : Room := { frames := 3, cells := 14, slots := 228, locals := 60 }
set_option maxRecDepth 100000 in
set_option maxHeartbeats 4000000 in
theorem ct_X9_init (l : Launch) (D : va_G) (cI cJ cZ : ClassId) (h0 : Nat)  (sz : Nat) : Met l yX9_init wsX9_init rm_X9_init (va_Pc [.ref h0] (WX D cI cJ cZ [(h0, .inr (8, [.null, .null, .null, .null]))] sz)) (va_Qv (fun (_ : (Nat → Nat) × (Nat → Nat) × (Nat → Nat) × (Nat → Nat) × (Nat → Nat)) => True) (fun (u : (Nat → Nat) × (Nat → Nat) × (Nat → Nat) × (Nat → Nat) × (Nat → Nat)) t => WY D (va_A [(h0, .inr (8, [.null, .null, .null, .null]))] sz) [(h0, .inr (8, oX9 (u.1) )), ((u.1 0), .inl (cI, 5, .inl (upd (fun _ => 0) ((2 : Int32)).toNatClampNeg (1 : Int32)))), ((u.1 1), .inr (3, oX4 (u.2.1) )), ((u.2.1 0), .inl (cI, 75, .inl (fun _ => 0))), ((u.1 2), .inr (0, oX0 (u.2.2.1) (-1 : Int32))), ((u.2.2.1 0), .inr (3, oX4 (u.2.2.2.1) )), ((u.2.2.2.1 0), .inl (cI, 75, .inl (fun _ => 0))), ((u.2.2.1 1), .inl (cI, 9, .inl (fun _ => 0))), ((u.2.2.1 3), .inl (cI, 9, .inl (fun _ => 0))), ((u.2.2.1 4), .inl (cI, 9, .inl (fun _ => 0))), ((u.2.2.1 5), .inl (cI, 9, .inl (fun _ => 0))), ((u.2.2.1 6), .inl (cI, 9, .inl (fun _ => 0))), ((u.1 3), .inr (4, oX5 (u.2.2.2.2) (0 : Int32))), ((u.2.2.2.2 0), .inl (cI, 8, .inl (fun _ => 0))), ((u.2.2.2.2 1), .inl (cI, 8, .inl (fun _ => 0)))] t) (va_A [(h0, .inr (8, [.null, .null, .null, .null]))] sz)) 14 228 (va_A [(h0, .inr (8, [.null, .null, .null, .null]))] sz) := by
  refine m_met (own := RX9) (cc := cX9_init) (maxL := 1) (ret := none) [.ref h0] [(0, .ref h0)] (by decide) rfl rfl (Nat.le_of_ble_eq_true rfl) rfl ?_
  intro p e s m args below meth c Q A hQ hA C0 hr hnm hsz hM ls hl
  have hx := C0.1
  have hb := C0.2.1
  have hown := C0.2.2.2.1
  refine lv_aload_n hx hb dX9_init_0 rfl (lv_at hl 0 rfl) ?_
  refine W.objInit hx hb hown (C0.2.2.2.2.1 _ kw_X9_init_1) (C0.2.2.2.2.1 _ kw_X9_init_2) (C0.2.2.2.2.1 _ (List.mem_of_getElem? (i := 3) rfl)) rfl (by rw [C0.2.2.1]; exact hl.1) rfl dX9_init_1 (Nat.le_of_ble_eq_true rfl) (Nat.le_of_ble_eq_true rfl) ?_
  refine W.eq (g2 := F0 m 4 ls []) rfl ?_
  refine lv_aload_n hx hb dX9_init_4 rfl (lv_at hl 0 rfl) ?_
  refine lv_iconst (v := (5 : Int32)) hx hb dX9_init_5 (by decide) ?_
  refine m_newaI (N := 5) C0 hM kw_X9_init_4 (by decide) (by decide) (by decide) (Nat.le_of_ble_eq_true rfl) (Nat.le_of_ble_eq_true rfl) dX9_init_6 (fun q1 H hM => ?_)
  have hM : MW D A s.heap [(h0, .inr (8, [.null, .null, .null, .null])), (q1, .inl (cI, 5, .inl (fun _ => 0)))] H _ := hM
  refine m_putF (ws' := [(h0, .inr (8, [.ref q1, .null, .null, .null])), (q1, .inl (cI, 5, .inl (fun _ => 0)))]) (C := RX9) (T := TX9) (N := 4) (ci := 8) (ref := "LoweredPowers$State") (v := .ref q1) C0 hM hnm 0 rfl rfl kt_X9_init_X9 tyX9 tyX9_ok nmX9 0 (by decide) kw_X9_init_5 rfl rfl rfl rfl rfl (Nat.le_of_ble_eq_true rfl) rfl dX9_init_8 (fun H locs hM => ?_)
  refine lv_aload_n hx hb dX9_init_11 rfl (lv_at hl 0 rfl) ?_
  refine m_new (C := RX4) (T := TX4) (N := 1) (ci := 3) C0 hM rfl kt_X9_init_X4 tyX4 tyX4_ok kw_X9_init_6 kw_X9_init_7 kw_X9_init_8 [.null] (by decide +kernel) (Nat.le_of_ble_eq_true rfl) (Nat.le_of_ble_eq_true rfl) dX9_init_12 (fun q2 H hM => ?_)
  have hM : MW D A s.heap [(h0, .inr (8, [.ref q1, .null, .null, .null])), (q1, .inl (cI, 5, .inl (fun _ => 0))), (q2, .inr (3, [.null]))] H _ := hM
  refine lv_dup hx hb dX9_init_15 rfl ?_
  refine m_callC (wc := [(q2, .inr (3, [.null]))]) (wr := [(h0, .inr (8, [.ref q1, .null, .null, .null])), (q1, .inl (cI, 5, .inl (fun _ => 0)))]) C0 hM [2] [0, 1] rfl rfl (by decide) (by decide) (m_runIN (wc := [(q2, .inr (3, [.null]))]) (As := []) (rest := [.ref q2, .ref h0]) C0 hM (ct_X4_init l D cI cJ cZ q2  _) [2] rfl (by decide) gX9_init_X4_init_n17 rfl rfl rfl (C0.2.2.2.2.2.2.2.1).1 kw_X9_init_8 kw_X9_init_18 rfl hi_X4_init ⟨Nat.le_of_ble_eq_true rfl, Nat.le_of_ble_eq_true rfl⟩ rfl hl.1 rfl (Nat.le_of_ble_eq_true rfl) dX9_init_16 ⟨Nat.le_of_ble_eq_true rfl, Nat.le_of_ble_eq_true rfl⟩) (fun t3 H locs hu hM => ?_)
  have hM : MW D A s.heap [(h0, .inr (8, [.ref q1, .null, .null, .null])), (q1, .inl (cI, 5, .inl (fun _ => 0))), (q2, .inr (3, oX4 t3 )), ((t3 0), .inl (cI, 75, .inl (fun _ => 0)))] H locs := hM
  refine m_putF (ws' := [(h0, .inr (8, [.ref q1, .ref q2, .null, .null])), (q1, .inl (cI, 5, .inl (fun _ => 0))), (q2, .inr (3, oX4 t3 )), ((t3 0), .inl (cI, 75, .inl (fun _ => 0)))]) (C := RX9) (T := TX9) (N := 4) (ci := 8) (ref := "LoweredPowers$State") (v := .ref q2) C0 hM hnm 0 rfl rfl kt_X9_init_X9 tyX9 tyX9_ok nmX9 1 (by decide) kw_X9_init_9 rfl rfl rfl rfl rfl (Nat.le_of_ble_eq_true rfl) rfl dX9_init_19 (fun H locs hM => ?_)
  refine lv_aload_n hx hb dX9_init_22 rfl (lv_at hl 0 rfl) ?_
  refine m_new (C := RX0) (T := TX0) (N := 7) (ci := 0) C0 hM rfl kt_X9_init_X0 tyX0 tyX0_ok kw_X9_init_10 kw_X9_init_11 kw_X9_init_12 [.null, .null, .int 0, .null, .null, .null, .null] (by decide +kernel) (Nat.le_of_ble_eq_true rfl) (Nat.le_of_ble_eq_true rfl) dX9_init_23 (fun q4 H hM => ?_)
  have hM : MW D A s.heap [(h0, .inr (8, [.ref q1, .ref q2, .null, .null])), (q1, .inl (cI, 5, .inl (fun _ => 0))), (q2, .inr (3, oX4 t3 )), ((t3 0), .inl (cI, 75, .inl (fun _ => 0))), (q4, .inr (0, [.null, .null, .int 0, .null, .null, .null, .null]))] H _ := hM
  refine lv_dup hx hb dX9_init_26 rfl ?_
  refine m_callC (wc := [(q4, .inr (0, [.null, .null, .int 0, .null, .null, .null, .null]))]) (wr := [(h0, .inr (8, [.ref q1, .ref q2, .null, .null])), (q1, .inl (cI, 5, .inl (fun _ => 0))), (q2, .inr (3, oX4 t3 )), ((t3 0), .inl (cI, 75, .inl (fun _ => 0)))]) C0 hM [4] [0, 1, 2, 3] rfl rfl (by decide) (by decide) (m_runIN (wc := [(q4, .inr (0, [.null, .null, .int 0, .null, .null, .null, .null]))]) (As := []) (rest := [.ref q4, .ref h0]) C0 hM (ct_X0_init l D cI cJ cZ q4  _) [4] rfl (by decide) gX9_init_X0_init_n24 rfl rfl rfl (C0.2.2.2.2.2.2.2.1).2.1 kw_X9_init_12 kw_X9_init_22 rfl hi_X0_init ⟨Nat.le_of_ble_eq_true rfl, Nat.le_of_ble_eq_true rfl⟩ rfl hl.1 rfl (Nat.le_of_ble_eq_true rfl) dX9_init_27 ⟨Nat.le_of_ble_eq_true rfl, Nat.le_of_ble_eq_true rfl⟩) (fun u H locs hu hM => ?_)
  obtain ⟨t5, t6⟩ := u
  have hM : MW D A s.heap [(h0, .inr (8, [.ref q1, .ref q2, .null, .null])), (q1, .inl (cI, 5, .inl (fun _ => 0))), (q2, .inr (3, oX4 t3 )), ((t3 0), .inl (cI, 75, .inl (fun _ => 0))), (q4, .inr (0, oX0 t5 (-1 : Int32))), ((t5 0), .inr (3, oX4 t6 )), ((t6 0), .inl (cI, 75, .inl (fun _ => 0))), ((t5 1), .inl (cI, 9, .inl (fun _ => 0))), ((t5 3), .inl (cI, 9, .inl (fun _ => 0))), ((t5 4), .inl (cI, 9, .inl (fun _ => 0))), ((t5 5), .inl (cI, 9, .inl (fun _ => 0))), ((t5 6), .inl (cI, 9, .inl (fun _ => 0)))] H locs := hM
  refine m_putF (ws' := [(h0, .inr (8, [.ref q1, .ref q2, .ref q4, .null])), (q1, .inl (cI, 5, .inl (fun _ => 0))), (q2, .inr (3, oX4 t3 )), ((t3 0), .inl (cI, 75, .inl (fun _ => 0))), (q4, .inr (0, oX0 t5 (-1 : Int32))), ((t5 0), .inr (3, oX4 t6 )), ((t6 0), .inl (cI, 75, .inl (fun _ => 0))), ((t5 1), .inl (cI, 9, .inl (fun _ => 0))), ((t5 3), .inl (cI, 9, .inl (fun _ => 0))), ((t5 4), .inl (cI, 9, .inl (fun _ => 0))), ((t5 5), .inl (cI, 9, .inl (fun _ => 0))), ((t5 6), .inl (cI, 9, .inl (fun _ => 0)))]) (C := RX9) (T := TX9) (N := 4) (ci := 8) (ref := "LoweredPowers$State") (v := .ref q4) C0 hM hnm 0 rfl rfl kt_X9_init_X9 tyX9 tyX9_ok nmX9 2 (by decide) kw_X9_init_13 rfl rfl rfl rfl rfl (Nat.le_of_ble_eq_true rfl) rfl dX9_init_30 (fun H locs hM => ?_)
  refine lv_aload_n hx hb dX9_init_33 rfl (lv_at hl 0 rfl) ?_
  refine m_new (C := RX5) (T := TX5) (N := 3) (ci := 4) C0 hM rfl kt_X9_init_X5 tyX5 tyX5_ok kw_X9_init_14 kw_X9_init_15 kw_X9_init_16 [.null, .null, .int 0] (by decide +kernel) (Nat.le_of_ble_eq_true rfl) (Nat.le_of_ble_eq_true rfl) dX9_init_34 (fun q7 H hM => ?_)
  have hM : MW D A s.heap [(h0, .inr (8, [.ref q1, .ref q2, .ref q4, .null])), (q1, .inl (cI, 5, .inl (fun _ => 0))), (q2, .inr (3, oX4 t3 )), ((t3 0), .inl (cI, 75, .inl (fun _ => 0))), (q4, .inr (0, oX0 t5 (-1 : Int32))), ((t5 0), .inr (3, oX4 t6 )), ((t6 0), .inl (cI, 75, .inl (fun _ => 0))), ((t5 1), .inl (cI, 9, .inl (fun _ => 0))), ((t5 3), .inl (cI, 9, .inl (fun _ => 0))), ((t5 4), .inl (cI, 9, .inl (fun _ => 0))), ((t5 5), .inl (cI, 9, .inl (fun _ => 0))), ((t5 6), .inl (cI, 9, .inl (fun _ => 0))), (q7, .inr (4, [.null, .null, .int 0]))] H _ := hM
  refine lv_dup hx hb dX9_init_37 rfl ?_
  refine m_callC (wc := [(q7, .inr (4, [.null, .null, .int 0]))]) (wr := [(h0, .inr (8, [.ref q1, .ref q2, .ref q4, .null])), (q1, .inl (cI, 5, .inl (fun _ => 0))), (q2, .inr (3, oX4 t3 )), ((t3 0), .inl (cI, 75, .inl (fun _ => 0))), (q4, .inr (0, oX0 t5 (-1 : Int32))), ((t5 0), .inr (3, oX4 t6 )), ((t6 0), .inl (cI, 75, .inl (fun _ => 0))), ((t5 1), .inl (cI, 9, .inl (fun _ => 0))), ((t5 3), .inl (cI, 9, .inl (fun _ => 0))), ((t5 4), .inl (cI, 9, .inl (fun _ => 0))), ((t5 5), .inl (cI, 9, .inl (fun _ => 0))), ((t5 6), .inl (cI, 9, .inl (fun _ => 0)))]) C0 hM [12] [0, 1, 2, 3, 4, 5, 6, 7, 8, 9, 10, 11] rfl rfl (by decide) (by decide) (m_runIN (wc := [(q7, .inr (4, [.null, .null, .int 0]))]) (As := []) (rest := [.ref q7, .ref h0]) C0 hM (ct_X5_init l D cI cJ cZ q7  _) [12] rfl (by decide) gX9_init_X5_init_n31 rfl rfl rfl (C0.2.2.2.2.2.2.2.1).2.2.2.1 kw_X9_init_16 kw_X9_init_33 rfl hi_X5_init ⟨Nat.le_of_ble_eq_true rfl, Nat.le_of_ble_eq_true rfl⟩ rfl hl.1 rfl (Nat.le_of_ble_eq_true rfl) dX9_init_38 ⟨Nat.le_of_ble_eq_true rfl, Nat.le_of_ble_eq_true rfl⟩) (fun t8 H locs hu hM => ?_)
  have hM : MW D A s.heap [(h0, .inr (8, [.ref q1, .ref q2, .ref q4, .null])), (q1, .inl (cI, 5, .inl (fun _ => 0))), (q2, .inr (3, oX4 t3 )), ((t3 0), .inl (cI, 75, .inl (fun _ => 0))), (q4, .inr (0, oX0 t5 (-1 : Int32))), ((t5 0), .inr (3, oX4 t6 )), ((t6 0), .inl (cI, 75, .inl (fun _ => 0))), ((t5 1), .inl (cI, 9, .inl (fun _ => 0))), ((t5 3), .inl (cI, 9, .inl (fun _ => 0))), ((t5 4), .inl (cI, 9, .inl (fun _ => 0))), ((t5 5), .inl (cI, 9, .inl (fun _ => 0))), ((t5 6), .inl (cI, 9, .inl (fun _ => 0))), (q7, .inr (4, oX5 t8 (0 : Int32))), ((t8 0), .inl (cI, 8, .inl (fun _ => 0))), ((t8 1), .inl (cI, 8, .inl (fun _ => 0)))] H locs := hM
  refine m_putF (ws' := [(h0, .inr (8, [.ref q1, .ref q2, .ref q4, .ref q7])), (q1, .inl (cI, 5, .inl (fun _ => 0))), (q2, .inr (3, oX4 t3 )), ((t3 0), .inl (cI, 75, .inl (fun _ => 0))), (q4, .inr (0, oX0 t5 (-1 : Int32))), ((t5 0), .inr (3, oX4 t6 )), ((t6 0), .inl (cI, 75, .inl (fun _ => 0))), ((t5 1), .inl (cI, 9, .inl (fun _ => 0))), ((t5 3), .inl (cI, 9, .inl (fun _ => 0))), ((t5 4), .inl (cI, 9, .inl (fun _ => 0))), ((t5 5), .inl (cI, 9, .inl (fun _ => 0))), ((t5 6), .inl (cI, 9, .inl (fun _ => 0))), (q7, .inr (4, oX5 t8 (0 : Int32))), ((t8 0), .inl (cI, 8, .inl (fun _ => 0))), ((t8 1), .inl (cI, 8, .inl (fun _ => 0)))]) (C := RX9) (T := TX9) (N := 4) (ci := 8) (ref := "LoweredPowers$State") (v := .ref q7) C0 hM hnm 0 rfl rfl kt_X9_init_X9 tyX9 tyX9_ok nmX9 3 (by decide) kw_X9_init_17 rfl rfl rfl rfl rfl (Nat.le_of_ble_eq_true rfl) rfl dX9_init_41 (fun H locs hM => ?_)
  refine lv_aload_n hx hb dX9_init_44 rfl (lv_at hl 0 rfl) ?_
  refine m_get (C := RX9) (T := TX9) (N := 4) (ci := 8) (ref := "LoweredPowers$State") (v := .ref q1) C0 hM 0 rfl rfl kt_X9_init_X9 0 (by decide) kw_X9_init_5 rfl rfl dX9_init_45 ?_
  refine lv_iconst (v := (2 : Int32)) hx hb dX9_init_48 (by decide) ?_
  refine lv_iconst (v := (1 : Int32)) hx hb dX9_init_49 (by decide) ?_
  refine m_iast (ws' := [(h0, .inr (8, [.ref q1, .ref q2, .ref q4, .ref q7])), (q1, .inl (cI, 5, .inl (upd (fun _ => 0) ((2 : Int32)).toNatClampNeg (1 : Int32)))), (q2, .inr (3, oX4 t3 )), ((t3 0), .inl (cI, 75, .inl (fun _ => 0))), (q4, .inr (0, oX0 t5 (-1 : Int32))), ((t5 0), .inr (3, oX4 t6 )), ((t6 0), .inl (cI, 75, .inl (fun _ => 0))), ((t5 1), .inl (cI, 9, .inl (fun _ => 0))), ((t5 3), .inl (cI, 9, .inl (fun _ => 0))), ((t5 4), .inl (cI, 9, .inl (fun _ => 0))), ((t5 5), .inl (cI, 9, .inl (fun _ => 0))), ((t5 6), .inl (cI, 9, .inl (fun _ => 0))), (q7, .inr (4, oX5 t8 (0 : Int32))), ((t8 0), .inl (cI, 8, .inl (fun _ => 0))), ((t8 1), .inl (cI, 8, .inl (fun _ => 0)))]) C0 hM 1 rfl (by unfold vp_in; decide) rfl dX9_init_50 (fun H locs hM => ?_)
  refine W.widen (k := 14) (n := 228) (Nat.le_of_ble_eq_true rfl) (Nat.le_of_ble_eq_true rfl) ?_
  subst hsz; subst hA; subst hQ
  exact m_vret C0 hr hM ((lk [q1, q2, q4, q7]), t3, t5, t6, t8) trivial rfl dX9_init_51
abbrev rm_X2_init : Room := { frames := 1, cells := 6, slots := 730, locals := 20 }
set_option maxRecDepth 100000 in
set_option maxHeartbeats 4000000 in
theorem ct_X2_init (l : Launch) (D : va_G) (cI cJ cZ : ClassId) (h0 : Nat)  (sz : Nat) : Met l yX2_init wsX2_init rm_X2_init (va_Pc [.ref h0] (WX D cI cJ cZ [(h0, .inr (2, [.null, .null, .null, .null, .null, .null]))] sz)) (va_Qv (fun (_ : (Nat → Nat)) => True) (fun (u : (Nat → Nat)) t => WY D (va_A [(h0, .inr (2, [.null, .null, .null, .null, .null, .null]))] sz) [(h0, .inr (2, oX2 u )), ((u 0), .inl (cI, 225, .inl (fun _ => 0))), ((u 1), .inl (cI, 9, .inl (fun _ => 0))), ((u 2), .inl (cI, 21, .inl (fun _ => 0))), ((u 3), .inl (cI, 225, .inl (fun _ => 0))), ((u 4), .inl (cI, 225, .inl (fun _ => 0))), ((u 5), .inl (cI, 25, .inl (fun _ => 0)))] t) (va_A [(h0, .inr (2, [.null, .null, .null, .null, .null, .null]))] sz)) 6 730 (va_A [(h0, .inr (2, [.null, .null, .null, .null, .null, .null]))] sz) := by
  refine m_met (own := RX2) (cc := cX2_init) (maxL := 1) (ret := none) [.ref h0] [(0, .ref h0)] (by decide) rfl rfl (Nat.le_of_ble_eq_true rfl) rfl ?_
  intro p e s m args below meth c Q A hQ hA C0 hr hnm hsz hM ls hl
  have hx := C0.1
  have hb := C0.2.1
  have hown := C0.2.2.2.1
  refine lv_aload_n hx hb dX2_init_0 rfl (lv_at hl 0 rfl) ?_
  refine W.objInit hx hb hown (C0.2.2.2.2.1 _ kw_X2_init_1) (C0.2.2.2.2.1 _ kw_X2_init_2) (C0.2.2.2.2.1 _ (List.mem_of_getElem? (i := 3) rfl)) rfl (by rw [C0.2.2.1]; exact hl.1) rfl dX2_init_1 (Nat.le_of_ble_eq_true rfl) (Nat.le_of_ble_eq_true rfl) ?_
  refine W.eq (g2 := F0 m 4 ls []) rfl ?_
  refine lv_aload_n hx hb dX2_init_4 rfl (lv_at hl 0 rfl) ?_
  refine lv_sipush (v := (225 : Int32)) hx hb dX2_init_5 (by decide) ?_
  refine m_newaI (N := 225) C0 hM kw_X2_init_4 (by decide) (by decide) (by decide) (Nat.le_of_ble_eq_true rfl) (Nat.le_of_ble_eq_true rfl) dX2_init_8 (fun q1 H hM => ?_)
  have hM : MW D A s.heap [(h0, .inr (2, [.null, .null, .null, .null, .null, .null])), (q1, .inl (cI, 225, .inl (fun _ => 0)))] H _ := hM
  refine m_putF (ws' := [(h0, .inr (2, [.ref q1, .null, .null, .null, .null, .null])), (q1, .inl (cI, 225, .inl (fun _ => 0)))]) (C := RX2) (T := TX2) (N := 6) (ci := 2) (ref := "LoweredPowers$Lowering") (v := .ref q1) C0 hM hnm 0 rfl rfl kt_X2_init_X2 tyX2 tyX2_ok nmX2 0 (by decide) kw_X2_init_5 rfl rfl rfl rfl rfl (Nat.le_of_ble_eq_true rfl) rfl dX2_init_10 (fun H locs hM => ?_)
  refine lv_aload_n hx hb dX2_init_13 rfl (lv_at hl 0 rfl) ?_
  refine lv_bipush (v := (9 : Int32)) hx hb dX2_init_14 (by decide) ?_
  refine m_newaI (N := 9) C0 hM kw_X2_init_4 (by decide) (by decide) (by decide) (Nat.le_of_ble_eq_true rfl) (Nat.le_of_ble_eq_true rfl) dX2_init_16 (fun q2 H hM => ?_)
  have hM : MW D A s.heap [(h0, .inr (2, [.ref q1, .null, .null, .null, .null, .null])), (q1, .inl (cI, 225, .inl (fun _ => 0))), (q2, .inl (cI, 9, .inl (fun _ => 0)))] H _ := hM
  refine m_putF (ws' := [(h0, .inr (2, [.ref q1, .ref q2, .null, .null, .null, .null])), (q1, .inl (cI, 225, .inl (fun _ => 0))), (q2, .inl (cI, 9, .inl (fun _ => 0)))]) (C := RX2) (T := TX2) (N := 6) (ci := 2) (ref := "LoweredPowers$Lowering") (v := .ref q2) C0 hM hnm 0 rfl rfl kt_X2_init_X2 tyX2 tyX2_ok nmX2 1 (by decide) kw_X2_init_6 rfl rfl rfl rfl rfl (Nat.le_of_ble_eq_true rfl) rfl dX2_init_18 (fun H locs hM => ?_)
  refine lv_aload_n hx hb dX2_init_21 rfl (lv_at hl 0 rfl) ?_
  refine lv_bipush (v := (21 : Int32)) hx hb dX2_init_22 (by decide) ?_
  refine m_newaI (N := 21) C0 hM kw_X2_init_4 (by decide) (by decide) (by decide) (Nat.le_of_ble_eq_true rfl) (Nat.le_of_ble_eq_true rfl) dX2_init_24 (fun q3 H hM => ?_)
  have hM : MW D A s.heap [(h0, .inr (2, [.ref q1, .ref q2, .null, .null, .null, .null])), (q1, .inl (cI, 225, .inl (fun _ => 0))), (q2, .inl (cI, 9, .inl (fun _ => 0))), (q3, .inl (cI, 21, .inl (fun _ => 0)))] H _ := hM
  refine m_putF (ws' := [(h0, .inr (2, [.ref q1, .ref q2, .ref q3, .null, .null, .null])), (q1, .inl (cI, 225, .inl (fun _ => 0))), (q2, .inl (cI, 9, .inl (fun _ => 0))), (q3, .inl (cI, 21, .inl (fun _ => 0)))]) (C := RX2) (T := TX2) (N := 6) (ci := 2) (ref := "LoweredPowers$Lowering") (v := .ref q3) C0 hM hnm 0 rfl rfl kt_X2_init_X2 tyX2 tyX2_ok nmX2 2 (by decide) kw_X2_init_7 rfl rfl rfl rfl rfl (Nat.le_of_ble_eq_true rfl) rfl dX2_init_26 (fun H locs hM => ?_)
  refine lv_aload_n hx hb dX2_init_29 rfl (lv_at hl 0 rfl) ?_
  refine lv_sipush (v := (225 : Int32)) hx hb dX2_init_30 (by decide) ?_
  refine m_newaI (N := 225) C0 hM kw_X2_init_4 (by decide) (by decide) (by decide) (Nat.le_of_ble_eq_true rfl) (Nat.le_of_ble_eq_true rfl) dX2_init_33 (fun q4 H hM => ?_)
  have hM : MW D A s.heap [(h0, .inr (2, [.ref q1, .ref q2, .ref q3, .null, .null, .null])), (q1, .inl (cI, 225, .inl (fun _ => 0))), (q2, .inl (cI, 9, .inl (fun _ => 0))), (q3, .inl (cI, 21, .inl (fun _ => 0))), (q4, .inl (cI, 225, .inl (fun _ => 0)))] H _ := hM
  refine m_putF (ws' := [(h0, .inr (2, [.ref q1, .ref q2, .ref q3, .ref q4, .null, .null])), (q1, .inl (cI, 225, .inl (fun _ => 0))), (q2, .inl (cI, 9, .inl (fun _ => 0))), (q3, .inl (cI, 21, .inl (fun _ => 0))), (q4, .inl (cI, 225, .inl (fun _ => 0)))]) (C := RX2) (T := TX2) (N := 6) (ci := 2) (ref := "LoweredPowers$Lowering") (v := .ref q4) C0 hM hnm 0 rfl rfl kt_X2_init_X2 tyX2 tyX2_ok nmX2 3 (by decide) kw_X2_init_8 rfl rfl rfl rfl rfl (Nat.le_of_ble_eq_true rfl) rfl dX2_init_35 (fun H locs hM => ?_)
  refine lv_aload_n hx hb dX2_init_38 rfl (lv_at hl 0 rfl) ?_
  refine lv_sipush (v := (225 : Int32)) hx hb dX2_init_39 (by decide) ?_
  refine m_newaI (N := 225) C0 hM kw_X2_init_4 (by decide) (by decide) (by decide) (Nat.le_of_ble_eq_true rfl) (Nat.le_of_ble_eq_true rfl) dX2_init_42 (fun q5 H hM => ?_)
  have hM : MW D A s.heap [(h0, .inr (2, [.ref q1, .ref q2, .ref q3, .ref q4, .null, .null])), (q1, .inl (cI, 225, .inl (fun _ => 0))), (q2, .inl (cI, 9, .inl (fun _ => 0))), (q3, .inl (cI, 21, .inl (fun _ => 0))), (q4, .inl (cI, 225, .inl (fun _ => 0))), (q5, .inl (cI, 225, .inl (fun _ => 0)))] H _ := hM
  refine m_putF (ws' := [(h0, .inr (2, [.ref q1, .ref q2, .ref q3, .ref q4, .ref q5, .null])), (q1, .inl (cI, 225, .inl (fun _ => 0))), (q2, .inl (cI, 9, .inl (fun _ => 0))), (q3, .inl (cI, 21, .inl (fun _ => 0))), (q4, .inl (cI, 225, .inl (fun _ => 0))), (q5, .inl (cI, 225, .inl (fun _ => 0)))]) (C := RX2) (T := TX2) (N := 6) (ci := 2) (ref := "LoweredPowers$Lowering") (v := .ref q5) C0 hM hnm 0 rfl rfl kt_X2_init_X2 tyX2 tyX2_ok nmX2 4 (by decide) kw_X2_init_9 rfl rfl rfl rfl rfl (Nat.le_of_ble_eq_true rfl) rfl dX2_init_44 (fun H locs hM => ?_)
  refine lv_aload_n hx hb dX2_init_47 rfl (lv_at hl 0 rfl) ?_
  refine lv_bipush (v := (25 : Int32)) hx hb dX2_init_48 (by decide) ?_
  refine m_newaI (N := 25) C0 hM kw_X2_init_4 (by decide) (by decide) (by decide) (Nat.le_of_ble_eq_true rfl) (Nat.le_of_ble_eq_true rfl) dX2_init_50 (fun q6 H hM => ?_)
  have hM : MW D A s.heap [(h0, .inr (2, [.ref q1, .ref q2, .ref q3, .ref q4, .ref q5, .null])), (q1, .inl (cI, 225, .inl (fun _ => 0))), (q2, .inl (cI, 9, .inl (fun _ => 0))), (q3, .inl (cI, 21, .inl (fun _ => 0))), (q4, .inl (cI, 225, .inl (fun _ => 0))), (q5, .inl (cI, 225, .inl (fun _ => 0))), (q6, .inl (cI, 25, .inl (fun _ => 0)))] H _ := hM
  refine m_putF (ws' := [(h0, .inr (2, [.ref q1, .ref q2, .ref q3, .ref q4, .ref q5, .ref q6])), (q1, .inl (cI, 225, .inl (fun _ => 0))), (q2, .inl (cI, 9, .inl (fun _ => 0))), (q3, .inl (cI, 21, .inl (fun _ => 0))), (q4, .inl (cI, 225, .inl (fun _ => 0))), (q5, .inl (cI, 225, .inl (fun _ => 0))), (q6, .inl (cI, 25, .inl (fun _ => 0)))]) (C := RX2) (T := TX2) (N := 6) (ci := 2) (ref := "LoweredPowers$Lowering") (v := .ref q6) C0 hM hnm 0 rfl rfl kt_X2_init_X2 tyX2 tyX2_ok nmX2 5 (by decide) kw_X2_init_10 rfl rfl rfl rfl rfl (Nat.le_of_ble_eq_true rfl) rfl dX2_init_52 (fun H locs hM => ?_)
  refine W.widen (k := 6) (n := 730) (Nat.le_of_ble_eq_true rfl) (Nat.le_of_ble_eq_true rfl) ?_
  subst hsz; subst hA; subst hQ
  exact m_vret C0 hr hM (lk [q1, q2, q3, q4, q5, q6]) trivial rfl dX2_init_55
abbrev rm_X7_init : Room := { frames := 1, cells := 0, slots := 0, locals := 20 }
set_option maxRecDepth 100000 in
set_option maxHeartbeats 4000000 in
theorem ct_X7_init (l : Launch) (D : va_G) (cI cJ cZ : ClassId) (h0 : Nat) (x1 : Int32) (x2 : Int32) (sz : Nat) : Met l yX7_init wsX7_init rm_X7_init (va_Pc [.ref h0, .int x1, .int x2] (WX D cI cJ cZ [(h0, .inr (6, [.int 0, .int 0, .int 0, .long 0, .long 0, .long 0]))] sz)) (va_Qv (fun (_ : Unit) => True) (fun (_ : Unit) t => WY D (va_A [(h0, .inr (6, [.int 0, .int 0, .int 0, .long 0, .long 0, .long 0]))] sz) [(h0, .inr (6, oX7 (fun _ => 0) x1 ((((1 : Int32) <<< (x2 &&& 31)) - (1 : Int32)) / (2 : Int32)) (((1 : Int32) <<< (x2 &&& 31)) - (1 : Int32)) ((1 : Int64) <<< ((x1 + x2).toInt64 &&& 63)) (((((1 : Int32) <<< (x2 &&& 31)) - (1 : Int32)).toInt64) <<< (x1.toInt64 &&& 63)) ((((((1 : Int32) <<< (x2 &&& 31)) - (1 : Int32)).toInt64) <<< (x1.toInt64 &&& 63)) ||| ((1 : Int64) <<< ((x1 - (1 : Int32)).toInt64 &&& 63)))))] t) (va_A [(h0, .inr (6, [.int 0, .int 0, .int 0, .long 0, .long 0, .long 0]))] sz)) 0 0 (va_A [(h0, .inr (6, [.int 0, .int 0, .int 0, .long 0, .long 0, .long 0]))] sz) := by
  refine m_met (own := RX7) (cc := cX7_init) (maxL := 3) (ret := none) [.ref h0, .int x1, .int x2] [(0, .ref h0), (1, .int x1), (2, .int x2)] (by decide) rfl rfl (Nat.le_of_ble_eq_true rfl) rfl ?_
  intro p e s m args below meth c Q A hQ hA C0 hr hnm hsz hM ls hl
  have hx := C0.1
  have hb := C0.2.1
  have hown := C0.2.2.2.1
  refine lv_aload_n hx hb dX7_init_0 rfl (lv_at hl 0 rfl) ?_
  refine W.objInit hx hb hown (C0.2.2.2.2.1 _ kw_X7_init_1) (C0.2.2.2.2.1 _ kw_X7_init_2) (C0.2.2.2.2.1 _ (List.mem_of_getElem? (i := 3) rfl)) rfl (by rw [C0.2.2.1]; exact hl.1) rfl dX7_init_1 (Nat.le_of_ble_eq_true rfl) (Nat.le_of_ble_eq_true rfl) ?_
  refine W.eq (g2 := F0 m 4 ls []) rfl ?_
  refine lv_aload_n hx hb dX7_init_4 rfl (lv_at hl 0 rfl) ?_
  refine lv_iload_n hx hb dX7_init_5 rfl (lv_at hl 1 rfl) ?_
  refine m_putF (ws' := [(h0, .inr (6, [.int x1, .int 0, .int 0, .long 0, .long 0, .long 0]))]) (C := RX7) (T := TX7) (N := 6) (ci := 6) (ref := "LoweredPowers$Reals") (v := .int x1) C0 hM hnm 0 rfl rfl kt_X7_init_X7 tyX7 tyX7_ok nmX7 0 (by decide) kw_X7_init_4 rfl rfl rfl rfl rfl (Nat.le_of_ble_eq_true rfl) rfl dX7_init_6 (fun H locs hM => ?_)
  refine lv_aload_n hx hb dX7_init_9 rfl (lv_at hl 0 rfl) ?_
  refine lv_iconst (v := (1 : Int32)) hx hb dX7_init_10 (by decide) ?_
  refine lv_iload_n hx hb dX7_init_11 rfl (lv_at hl 2 rfl) ?_
  refine lv_ishl hx hb dX7_init_12 ?_
  refine lv_iconst (v := (1 : Int32)) hx hb dX7_init_13 (by decide) ?_
  refine lv_isub hx hb dX7_init_14 ?_
  refine m_putF (ws' := [(h0, .inr (6, [.int x1, .int 0, .int (((1 : Int32) <<< (x2 &&& 31)) - (1 : Int32)), .long 0, .long 0, .long 0]))]) (C := RX7) (T := TX7) (N := 6) (ci := 6) (ref := "LoweredPowers$Reals") (v := .int (((1 : Int32) <<< (x2 &&& 31)) - (1 : Int32))) C0 hM hnm 0 rfl rfl kt_X7_init_X7 tyX7 tyX7_ok nmX7 2 (by decide) kw_X7_init_5 rfl rfl rfl rfl rfl (Nat.le_of_ble_eq_true rfl) rfl dX7_init_15 (fun H locs hM => ?_)
  refine lv_aload_n hx hb dX7_init_18 rfl (lv_at hl 0 rfl) ?_
  refine lv_aload_n hx hb dX7_init_19 rfl (lv_at hl 0 rfl) ?_
  refine m_get (C := RX7) (T := TX7) (N := 6) (ci := 6) (ref := "LoweredPowers$Reals") (v := .int (((1 : Int32) <<< (x2 &&& 31)) - (1 : Int32))) C0 hM 0 rfl rfl kt_X7_init_X7 2 (by decide) kw_X7_init_5 rfl rfl dX7_init_20 ?_
  refine lv_iconst (v := (2 : Int32)) hx hb dX7_init_23 (by decide) ?_
  refine lv_idiv hx hb dX7_init_24 (by decide) ?_
  refine m_putF (ws' := [(h0, .inr (6, [.int x1, .int ((((1 : Int32) <<< (x2 &&& 31)) - (1 : Int32)) / (2 : Int32)), .int (((1 : Int32) <<< (x2 &&& 31)) - (1 : Int32)), .long 0, .long 0, .long 0]))]) (C := RX7) (T := TX7) (N := 6) (ci := 6) (ref := "LoweredPowers$Reals") (v := .int ((((1 : Int32) <<< (x2 &&& 31)) - (1 : Int32)) / (2 : Int32))) C0 hM hnm 0 rfl rfl kt_X7_init_X7 tyX7 tyX7_ok nmX7 1 (by decide) kw_X7_init_6 rfl rfl rfl rfl rfl (Nat.le_of_ble_eq_true rfl) rfl dX7_init_25 (fun H locs hM => ?_)
  refine lv_aload_n hx hb dX7_init_28 rfl (lv_at hl 0 rfl) ?_
  refine lv_lconst (v := (1 : Int64)) hx hb dX7_init_29 (by decide) ?_
  refine lv_iload_n hx hb dX7_init_30 rfl (lv_at hl 1 rfl) ?_
  refine lv_iload_n hx hb dX7_init_31 rfl (lv_at hl 2 rfl) ?_
  refine lv_iadd hx hb dX7_init_32 ?_
  refine lv_lshl hx hb dX7_init_33 rfl ?_
  refine m_putF (ws' := [(h0, .inr (6, [.int x1, .int ((((1 : Int32) <<< (x2 &&& 31)) - (1 : Int32)) / (2 : Int32)), .int (((1 : Int32) <<< (x2 &&& 31)) - (1 : Int32)), .long ((1 : Int64) <<< ((x1 + x2).toInt64 &&& 63)), .long 0, .long 0]))]) (C := RX7) (T := TX7) (N := 6) (ci := 6) (ref := "LoweredPowers$Reals") (v := .long ((1 : Int64) <<< ((x1 + x2).toInt64 &&& 63))) C0 hM hnm 0 rfl rfl kt_X7_init_X7 tyX7 tyX7_ok nmX7 3 (by decide) kw_X7_init_7 rfl rfl rfl rfl rfl (Nat.le_of_ble_eq_true rfl) rfl dX7_init_34 (fun H locs hM => ?_)
  refine lv_aload_n hx hb dX7_init_37 rfl (lv_at hl 0 rfl) ?_
  refine lv_aload_n hx hb dX7_init_38 rfl (lv_at hl 0 rfl) ?_
  refine m_get (C := RX7) (T := TX7) (N := 6) (ci := 6) (ref := "LoweredPowers$Reals") (v := .int (((1 : Int32) <<< (x2 &&& 31)) - (1 : Int32))) C0 hM 0 rfl rfl kt_X7_init_X7 2 (by decide) kw_X7_init_5 rfl rfl dX7_init_39 ?_
  refine lv_i2l hx hb dX7_init_42 rfl ?_
  refine lv_iload_n hx hb dX7_init_43 rfl (lv_at hl 1 rfl) ?_
  refine lv_lshl hx hb dX7_init_44 rfl ?_
  refine m_putF (ws' := [(h0, .inr (6, [.int x1, .int ((((1 : Int32) <<< (x2 &&& 31)) - (1 : Int32)) / (2 : Int32)), .int (((1 : Int32) <<< (x2 &&& 31)) - (1 : Int32)), .long ((1 : Int64) <<< ((x1 + x2).toInt64 &&& 63)), .long (((((1 : Int32) <<< (x2 &&& 31)) - (1 : Int32)).toInt64) <<< (x1.toInt64 &&& 63)), .long 0]))]) (C := RX7) (T := TX7) (N := 6) (ci := 6) (ref := "LoweredPowers$Reals") (v := .long (((((1 : Int32) <<< (x2 &&& 31)) - (1 : Int32)).toInt64) <<< (x1.toInt64 &&& 63))) C0 hM hnm 0 rfl rfl kt_X7_init_X7 tyX7 tyX7_ok nmX7 4 (by decide) kw_X7_init_8 rfl rfl rfl rfl rfl (Nat.le_of_ble_eq_true rfl) rfl dX7_init_45 (fun H locs hM => ?_)
  refine lv_aload_n hx hb dX7_init_48 rfl (lv_at hl 0 rfl) ?_
  refine lv_aload_n hx hb dX7_init_49 rfl (lv_at hl 0 rfl) ?_
  refine m_get (C := RX7) (T := TX7) (N := 6) (ci := 6) (ref := "LoweredPowers$Reals") (v := .long (((((1 : Int32) <<< (x2 &&& 31)) - (1 : Int32)).toInt64) <<< (x1.toInt64 &&& 63))) C0 hM 0 rfl rfl kt_X7_init_X7 4 (by decide) kw_X7_init_8 rfl rfl dX7_init_50 ?_
  refine lv_lconst (v := (1 : Int64)) hx hb dX7_init_53 (by decide) ?_
  refine lv_iload_n hx hb dX7_init_54 rfl (lv_at hl 1 rfl) ?_
  refine lv_iconst (v := (1 : Int32)) hx hb dX7_init_55 (by decide) ?_
  refine lv_isub hx hb dX7_init_56 ?_
  refine lv_lshl hx hb dX7_init_57 rfl ?_
  refine lv_lor hx hb dX7_init_58 ?_
  refine m_putF (ws' := [(h0, .inr (6, [.int x1, .int ((((1 : Int32) <<< (x2 &&& 31)) - (1 : Int32)) / (2 : Int32)), .int (((1 : Int32) <<< (x2 &&& 31)) - (1 : Int32)), .long ((1 : Int64) <<< ((x1 + x2).toInt64 &&& 63)), .long (((((1 : Int32) <<< (x2 &&& 31)) - (1 : Int32)).toInt64) <<< (x1.toInt64 &&& 63)), .long ((((((1 : Int32) <<< (x2 &&& 31)) - (1 : Int32)).toInt64) <<< (x1.toInt64 &&& 63)) ||| ((1 : Int64) <<< ((x1 - (1 : Int32)).toInt64 &&& 63)))]))]) (C := RX7) (T := TX7) (N := 6) (ci := 6) (ref := "LoweredPowers$Reals") (v := .long ((((((1 : Int32) <<< (x2 &&& 31)) - (1 : Int32)).toInt64) <<< (x1.toInt64 &&& 63)) ||| ((1 : Int64) <<< ((x1 - (1 : Int32)).toInt64 &&& 63)))) C0 hM hnm 0 rfl rfl kt_X7_init_X7 tyX7 tyX7_ok nmX7 5 (by decide) kw_X7_init_9 rfl rfl rfl rfl rfl (Nat.le_of_ble_eq_true rfl) rfl dX7_init_59 (fun H locs hM => ?_)
  refine W.widen (k := 0) (n := 0) (Nat.le_of_ble_eq_true rfl) (Nat.le_of_ble_eq_true rfl) ?_
  subst hsz; subst hA; subst hQ
  exact m_vret C0 hr hM () trivial rfl dX7_init_62
