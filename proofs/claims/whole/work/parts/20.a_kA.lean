theorem hi_X4_init : yX4_init.cls ≠ "java/lang/invoke/MethodHandle" ∧ yX4_init.cls ≠ "java/lang/invoke/VarHandle" ∧ (parseMethodDescriptor yX4_init.desc).map (fun d => d.parameters.length) = some 0 := by decide +kernel
theorem hi_X0_init : yX0_init.cls ≠ "java/lang/invoke/MethodHandle" ∧ yX0_init.cls ≠ "java/lang/invoke/VarHandle" ∧ (parseMethodDescriptor yX0_init.desc).map (fun d => d.parameters.length) = some 0 := by decide +kernel
theorem hi_X5_init : yX5_init.cls ≠ "java/lang/invoke/MethodHandle" ∧ yX5_init.cls ≠ "java/lang/invoke/VarHandle" ∧ (parseMethodDescriptor yX5_init.desc).map (fun d => d.parameters.length) = some 0 := by decide +kernel
theorem kt_X0_init_X0 : ∀ w ∈ u_ws RX0 TX0 7, w ∈ wsX0_init := fun _ h => List.mem_cons_of_mem _ (List.mem_append_right _ (h))
theorem kt_X0_init_X4 : ∀ w ∈ u_ws RX4 TX4 1, w ∈ wsX0_init := fun _ h => List.mem_cons_of_mem _ (List.mem_append_left _ (List.mem_append_right _ (h)))
theorem kt_X4_init_X4 : ∀ w ∈ u_ws RX4 TX4 1, w ∈ wsX4_init := fun _ h => List.mem_cons_of_mem _ (List.mem_append_right _ (h))
theorem kt_X5_init_X5 : ∀ w ∈ u_ws RX5 TX5 3, w ∈ wsX5_init := fun _ h => List.mem_cons_of_mem _ (List.mem_append_right _ (h))
theorem kw_X4_init_1 : Cond.methodLink RX4 1 objectInit ∈ wsX4_init := List.mem_of_getElem? (i := 1) rfl
theorem kw_X4_init_2 : Cond.instanceMethod objectInit ∈ wsX4_init := List.mem_of_getElem? (i := 2) rfl
theorem kw_X4_init_4 : Cond.arrayClass .int ∈ wsX4_init := List.mem_of_getElem? (i := 4) rfl
theorem kw_X4_init_5 : Cond.fieldLink RX4 9 "LoweredPowers$Operator" "numbers" "[I" ∈ wsX4_init := List.mem_of_getElem? (i := 5) rfl
theorem kw_X0_init_1 : Cond.methodLink RX0 3 objectInit ∈ wsX0_init := List.mem_of_getElem? (i := 1) rfl
theorem kw_X0_init_2 : Cond.instanceMethod objectInit ∈ wsX0_init := List.mem_of_getElem? (i := 2) rfl
theorem kw_X0_init_4 : Cond.classLink RX0 9 RX4 ∈ wsX0_init := List.mem_of_getElem? (i := 4) rfl
theorem kw_X0_init_5 : Cond.instantiable RX4 1 ∈ wsX0_init := List.mem_of_getElem? (i := 5) rfl
theorem kw_X0_init_6 : Cond.initialized RX4 ∈ wsX0_init := List.mem_of_getElem? (i := 6) rfl
theorem kw_X0_init_15 : Cond.instanceMethod yX4_init ∈ wsX0_init := List.mem_of_getElem? (i := 15) rfl
theorem kw_X0_init_7 : Cond.fieldLink RX0 12 "LoweredPowers$Found" "operator" "LLoweredPowers$Operator;" ∈ wsX0_init := List.mem_of_getElem? (i := 7) rfl
theorem kw_X0_init_8 : Cond.arrayClass .int ∈ wsX0_init := List.mem_of_getElem? (i := 8) rfl
theorem kw_X0_init_9 : Cond.fieldLink RX0 18 "LoweredPowers$Found" "b" "[I" ∈ wsX0_init := List.mem_of_getElem? (i := 9) rfl
theorem kw_X0_init_10 : Cond.fieldLink RX0 22 "LoweredPowers$Found" "top" "I" ∈ wsX0_init := List.mem_of_getElem? (i := 10) rfl
theorem kw_X0_init_11 : Cond.fieldLink RX0 26 "LoweredPowers$Found" "above" "[I" ∈ wsX0_init := List.mem_of_getElem? (i := 11) rfl
theorem kw_X0_init_12 : Cond.fieldLink RX0 29 "LoweredPowers$Found" "below" "[I" ∈ wsX0_init := List.mem_of_getElem? (i := 12) rfl
theorem kw_X0_init_13 : Cond.fieldLink RX0 32 "LoweredPowers$Found" "often" "[I" ∈ wsX0_init := List.mem_of_getElem? (i := 13) rfl
theorem kw_X0_init_14 : Cond.fieldLink RX0 35 "LoweredPowers$Found" "rest" "[I" ∈ wsX0_init := List.mem_of_getElem? (i := 14) rfl
theorem kw_X5_init_1 : Cond.methodLink RX5 3 objectInit ∈ wsX5_init := List.mem_of_getElem? (i := 1) rfl
theorem kw_X5_init_2 : Cond.instanceMethod objectInit ∈ wsX5_init := List.mem_of_getElem? (i := 2) rfl
theorem kw_X5_init_4 : Cond.arrayClass .int ∈ wsX5_init := List.mem_of_getElem? (i := 4) rfl
theorem kw_X5_init_5 : Cond.fieldLink RX5 11 "LoweredPowers$Plan" "kinds" "[I" ∈ wsX5_init := List.mem_of_getElem? (i := 5) rfl
theorem kw_X5_init_6 : Cond.fieldLink RX5 15 "LoweredPowers$Plan" "amounts" "[I" ∈ wsX5_init := List.mem_of_getElem? (i := 6) rfl
theorem kw_X5_init_7 : Cond.fieldLink RX5 18 "LoweredPowers$Plan" "size" "I" ∈ wsX5_init := List.mem_of_getElem? (i := 7) rfl
abbrev rm_X4_init : Room := { frames := 1, cells := 1, slots := 75, locals := 20 }
set_option maxRecDepth 100000 in
set_option maxHeartbeats 4000000 in
theorem ct_X4_init (l : Launch) (D : va_G) (cI cJ cZ : ClassId) (h0 : Nat)  (sz : Nat) : Met l yX4_init wsX4_init rm_X4_init (va_Pc [.ref h0] (WX D cI cJ cZ [(h0, .inr (3, [.null]))] sz)) (va_Qv (fun (_ : (Nat → Nat)) => True) (fun (u : (Nat → Nat)) t => WY D (va_A [(h0, .inr (3, [.null]))] sz) [(h0, .inr (3, oX4 u )), ((u 0), .inl (cI, 75, .inl (fun _ => 0)))] t) (va_A [(h0, .inr (3, [.null]))] sz)) 1 75 (va_A [(h0, .inr (3, [.null]))] sz) := by
  refine m_met (own := RX4) (cc := cX4_init) (maxL := 1) (ret := none) [.ref h0] [(0, .ref h0)] (by decide) rfl rfl (Nat.le_of_ble_eq_true rfl) rfl ?_
  intro p e s m args below meth c Q A hQ hA C0 hr hnm hsz hM ls hl
  have hx := C0.1
  have hb := C0.2.1
  have hown := C0.2.2.2.1
  refine lv_aload_n hx hb dX4_init_0 rfl (lv_at hl 0 rfl) ?_
  refine W.objInit hx hb hown (C0.2.2.2.2.1 _ kw_X4_init_1) (C0.2.2.2.2.1 _ kw_X4_init_2) (C0.2.2.2.2.1 _ (List.mem_of_getElem? (i := 3) rfl)) rfl (by rw [C0.2.2.1]; exact hl.1) rfl dX4_init_1 (Nat.le_of_ble_eq_true rfl) (Nat.le_of_ble_eq_true rfl) ?_
  refine W.eq (g2 := F0 m 4 ls []) rfl ?_
  refine lv_aload_n hx hb dX4_init_4 rfl (lv_at hl 0 rfl) ?_
  refine lv_bipush (v := (75 : Int32)) hx hb dX4_init_5 (by decide) ?_
  refine m_newaI (N := 75) C0 hM kw_X4_init_4 (by decide) (by decide) (by decide) (Nat.le_of_ble_eq_true rfl) (Nat.le_of_ble_eq_true rfl) dX4_init_7 (fun q1 H hM => ?_)
  have hM : MW D A s.heap [(h0, .inr (3, [.null])), (q1, .inl (cI, 75, .inl (fun _ => 0)))] H _ := hM
  refine m_putF (ws' := [(h0, .inr (3, [.ref q1])), (q1, .inl (cI, 75, .inl (fun _ => 0)))]) (C := RX4) (T := TX4) (N := 1) (ci := 3) (ref := "LoweredPowers$Operator") (v := .ref q1) C0 hM hnm 0 rfl rfl kt_X4_init_X4 tyX4 tyX4_ok nmX4 0 (by decide) kw_X4_init_5 rfl rfl rfl rfl rfl (Nat.le_of_ble_eq_true rfl) rfl dX4_init_9 (fun H locs hM => ?_)
  refine W.widen (k := 1) (n := 75) (Nat.le_of_ble_eq_true rfl) (Nat.le_of_ble_eq_true rfl) ?_
  subst hsz; subst hA; subst hQ
  exact m_vret C0 hr hM (lk [q1]) trivial rfl dX4_init_12
abbrev rm_X0_init : Room := { frames := 2, cells := 7, slots := 121, locals := 40 }
set_option maxRecDepth 100000 in
set_option maxHeartbeats 4000000 in
theorem ct_X0_init (l : Launch) (D : va_G) (cI cJ cZ : ClassId) (h0 : Nat)  (sz : Nat) : Met l yX0_init wsX0_init rm_X0_init (va_Pc [.ref h0] (WX D cI cJ cZ [(h0, .inr (0, [.null, .null, .int 0, .null, .null, .null, .null]))] sz)) (va_Qv (fun (_ : (Nat → Nat) × (Nat → Nat)) => True) (fun (u : (Nat → Nat) × (Nat → Nat)) t => WY D (va_A [(h0, .inr (0, [.null, .null, .int 0, .null, .null, .null, .null]))] sz) [(h0, .inr (0, oX0 (u.1) (-1 : Int32))), ((u.1 0), .inr (3, oX4 (u.2) )), ((u.2 0), .inl (cI, 75, .inl (fun _ => 0))), ((u.1 1), .inl (cI, 9, .inl (fun _ => 0))), ((u.1 3), .inl (cI, 9, .inl (fun _ => 0))), ((u.1 4), .inl (cI, 9, .inl (fun _ => 0))), ((u.1 5), .inl (cI, 9, .inl (fun _ => 0))), ((u.1 6), .inl (cI, 9, .inl (fun _ => 0)))] t) (va_A [(h0, .inr (0, [.null, .null, .int 0, .null, .null, .null, .null]))] sz)) 7 121 (va_A [(h0, .inr (0, [.null, .null, .int 0, .null, .null, .null, .null]))] sz) := by
  refine m_met (own := RX0) (cc := cX0_init) (maxL := 1) (ret := none) [.ref h0] [(0, .ref h0)] (by decide) rfl rfl (Nat.le_of_ble_eq_true rfl) rfl ?_
  intro p e s m args below meth c Q A hQ hA C0 hr hnm hsz hM ls hl
  have hx := C0.1
  have hb := C0.2.1
  have hown := C0.2.2.2.1
  refine lv_aload_n hx hb dX0_init_0 rfl (lv_at hl 0 rfl) ?_
  refine W.objInit hx hb hown (C0.2.2.2.2.1 _ kw_X0_init_1) (C0.2.2.2.2.1 _ kw_X0_init_2) (C0.2.2.2.2.1 _ (List.mem_of_getElem? (i := 3) rfl)) rfl (by rw [C0.2.2.1]; exact hl.1) rfl dX0_init_1 (Nat.le_of_ble_eq_true rfl) (Nat.le_of_ble_eq_true rfl) ?_
  refine W.eq (g2 := F0 m 4 ls []) rfl ?_
  refine lv_aload_n hx hb dX0_init_4 rfl (lv_at hl 0 rfl) ?_
  refine m_new (C := RX4) (T := TX4) (N := 1) (ci := 3) C0 hM rfl kt_X0_init_X4 tyX4 tyX4_ok kw_X0_init_4 kw_X0_init_5 kw_X0_init_6 [.null] (by decide +kernel) (Nat.le_of_ble_eq_true rfl) (Nat.le_of_ble_eq_true rfl) dX0_init_5 (fun q1 H hM => ?_)
  have hM : MW D A s.heap [(h0, .inr (0, [.null, .null, .int 0, .null, .null, .null, .null])), (q1, .inr (3, [.null]))] H _ := hM
  refine lv_dup hx hb dX0_init_8 rfl ?_
  refine m_callC (wc := [(q1, .inr (3, [.null]))]) (wr := [(h0, .inr (0, [.null, .null, .int 0, .null, .null, .null, .null]))]) C0 hM [1] [0] rfl rfl (by decide) (by decide) (m_runIN (wc := [(q1, .inr (3, [.null]))]) (As := []) (rest := [.ref q1, .ref h0]) C0 hM (ct_X4_init l D cI cJ cZ q1  _) [1] rfl (by decide) gX0_init_X4_init_n11 rfl rfl rfl (C0.2.2.2.2.2.2.2.1).2.2.1 kw_X0_init_6 kw_X0_init_15 rfl hi_X4_init ⟨Nat.le_of_ble_eq_true rfl, Nat.le_of_ble_eq_true rfl⟩ rfl hl.1 rfl (Nat.le_of_ble_eq_true rfl) dX0_init_9 ⟨Nat.le_of_ble_eq_true rfl, Nat.le_of_ble_eq_true rfl⟩) (fun t2 H locs hu hM => ?_)
  have hM : MW D A s.heap [(h0, .inr (0, [.null, .null, .int 0, .null, .null, .null, .null])), (q1, .inr (3, oX4 t2 )), ((t2 0), .inl (cI, 75, .inl (fun _ => 0)))] H locs := hM
  refine m_putF (ws' := [(h0, .inr (0, [.ref q1, .null, .int 0, .null, .null, .null, .null])), (q1, .inr (3, oX4 t2 )), ((t2 0), .inl (cI, 75, .inl (fun _ => 0)))]) (C := RX0) (T := TX0) (N := 7) (ci := 0) (ref := "LoweredPowers$Found") (v := .ref q1) C0 hM hnm 0 rfl rfl kt_X0_init_X0 tyX0 tyX0_ok nmX0 0 (by decide) kw_X0_init_7 rfl rfl rfl rfl rfl (Nat.le_of_ble_eq_true rfl) rfl dX0_init_12 (fun H locs hM => ?_)
  refine lv_aload_n hx hb dX0_init_15 rfl (lv_at hl 0 rfl) ?_
  refine lv_bipush (v := (9 : Int32)) hx hb dX0_init_16 (by decide) ?_
  refine m_newaI (N := 9) C0 hM kw_X0_init_8 (by decide) (by decide) (by decide) (Nat.le_of_ble_eq_true rfl) (Nat.le_of_ble_eq_true rfl) dX0_init_18 (fun q3 H hM => ?_)
  have hM : MW D A s.heap [(h0, .inr (0, [.ref q1, .null, .int 0, .null, .null, .null, .null])), (q1, .inr (3, oX4 t2 )), ((t2 0), .inl (cI, 75, .inl (fun _ => 0))), (q3, .inl (cI, 9, .inl (fun _ => 0)))] H _ := hM
  refine m_putF (ws' := [(h0, .inr (0, [.ref q1, .ref q3, .int 0, .null, .null, .null, .null])), (q1, .inr (3, oX4 t2 )), ((t2 0), .inl (cI, 75, .inl (fun _ => 0))), (q3, .inl (cI, 9, .inl (fun _ => 0)))]) (C := RX0) (T := TX0) (N := 7) (ci := 0) (ref := "LoweredPowers$Found") (v := .ref q3) C0 hM hnm 0 rfl rfl kt_X0_init_X0 tyX0 tyX0_ok nmX0 1 (by decide) kw_X0_init_9 rfl rfl rfl rfl rfl (Nat.le_of_ble_eq_true rfl) rfl dX0_init_20 (fun H locs hM => ?_)
  refine lv_aload_n hx hb dX0_init_23 rfl (lv_at hl 0 rfl) ?_
  refine lv_iconst (v := (-1 : Int32)) hx hb dX0_init_24 (by decide) ?_
  refine m_put (ws' := [(h0, .inr (0, [.ref q1, .ref q3, .int (-1 : Int32), .null, .null, .null, .null])), (q1, .inr (3, oX4 t2 )), ((t2 0), .inl (cI, 75, .inl (fun _ => 0))), (q3, .inl (cI, 9, .inl (fun _ => 0)))]) (C := RX0) (T := TX0) (N := 7) (ci := 0) (ref := "LoweredPowers$Found") (v := .int (-1 : Int32)) C0 hM 0 rfl rfl kt_X0_init_X0 tyX0 tyX0_ok nmX0 2 (by decide) kw_X0_init_10 rfl rfl rfl rfl (Nat.le_of_ble_eq_true rfl) rfl dX0_init_25 (fun H locs hM => ?_)
  refine lv_aload_n hx hb dX0_init_28 rfl (lv_at hl 0 rfl) ?_
  refine lv_bipush (v := (9 : Int32)) hx hb dX0_init_29 (by decide) ?_
  refine m_newaI (N := 9) C0 hM kw_X0_init_8 (by decide) (by decide) (by decide) (Nat.le_of_ble_eq_true rfl) (Nat.le_of_ble_eq_true rfl) dX0_init_31 (fun q4 H hM => ?_)
  have hM : MW D A s.heap [(h0, .inr (0, [.ref q1, .ref q3, .int (-1 : Int32), .null, .null, .null, .null])), (q1, .inr (3, oX4 t2 )), ((t2 0), .inl (cI, 75, .inl (fun _ => 0))), (q3, .inl (cI, 9, .inl (fun _ => 0))), (q4, .inl (cI, 9, .inl (fun _ => 0)))] H _ := hM
  refine m_putF (ws' := [(h0, .inr (0, [.ref q1, .ref q3, .int (-1 : Int32), .ref q4, .null, .null, .null])), (q1, .inr (3, oX4 t2 )), ((t2 0), .inl (cI, 75, .inl (fun _ => 0))), (q3, .inl (cI, 9, .inl (fun _ => 0))), (q4, .inl (cI, 9, .inl (fun _ => 0)))]) (C := RX0) (T := TX0) (N := 7) (ci := 0) (ref := "LoweredPowers$Found") (v := .ref q4) C0 hM hnm 0 rfl rfl kt_X0_init_X0 tyX0 tyX0_ok nmX0 3 (by decide) kw_X0_init_11 rfl rfl rfl rfl rfl (Nat.le_of_ble_eq_true rfl) rfl dX0_init_33 (fun H locs hM => ?_)
  refine lv_aload_n hx hb dX0_init_36 rfl (lv_at hl 0 rfl) ?_
  refine lv_bipush (v := (9 : Int32)) hx hb dX0_init_37 (by decide) ?_
  refine m_newaI (N := 9) C0 hM kw_X0_init_8 (by decide) (by decide) (by decide) (Nat.le_of_ble_eq_true rfl) (Nat.le_of_ble_eq_true rfl) dX0_init_39 (fun q5 H hM => ?_)
  have hM : MW D A s.heap [(h0, .inr (0, [.ref q1, .ref q3, .int (-1 : Int32), .ref q4, .null, .null, .null])), (q1, .inr (3, oX4 t2 )), ((t2 0), .inl (cI, 75, .inl (fun _ => 0))), (q3, .inl (cI, 9, .inl (fun _ => 0))), (q4, .inl (cI, 9, .inl (fun _ => 0))), (q5, .inl (cI, 9, .inl (fun _ => 0)))] H _ := hM
  refine m_putF (ws' := [(h0, .inr (0, [.ref q1, .ref q3, .int (-1 : Int32), .ref q4, .ref q5, .null, .null])), (q1, .inr (3, oX4 t2 )), ((t2 0), .inl (cI, 75, .inl (fun _ => 0))), (q3, .inl (cI, 9, .inl (fun _ => 0))), (q4, .inl (cI, 9, .inl (fun _ => 0))), (q5, .inl (cI, 9, .inl (fun _ => 0)))]) (C := RX0) (T := TX0) (N := 7) (ci := 0) (ref := "LoweredPowers$Found") (v := .ref q5) C0 hM hnm 0 rfl rfl kt_X0_init_X0 tyX0 tyX0_ok nmX0 4 (by decide) kw_X0_init_12 rfl rfl rfl rfl rfl (Nat.le_of_ble_eq_true rfl) rfl dX0_init_41 (fun H locs hM => ?_)
  refine lv_aload_n hx hb dX0_init_44 rfl (lv_at hl 0 rfl) ?_
  refine lv_bipush (v := (9 : Int32)) hx hb dX0_init_45 (by decide) ?_
  refine m_newaI (N := 9) C0 hM kw_X0_init_8 (by decide) (by decide) (by decide) (Nat.le_of_ble_eq_true rfl) (Nat.le_of_ble_eq_true rfl) dX0_init_47 (fun q6 H hM => ?_)
  have hM : MW D A s.heap [(h0, .inr (0, [.ref q1, .ref q3, .int (-1 : Int32), .ref q4, .ref q5, .null, .null])), (q1, .inr (3, oX4 t2 )), ((t2 0), .inl (cI, 75, .inl (fun _ => 0))), (q3, .inl (cI, 9, .inl (fun _ => 0))), (q4, .inl (cI, 9, .inl (fun _ => 0))), (q5, .inl (cI, 9, .inl (fun _ => 0))), (q6, .inl (cI, 9, .inl (fun _ => 0)))] H _ := hM
  refine m_putF (ws' := [(h0, .inr (0, [.ref q1, .ref q3, .int (-1 : Int32), .ref q4, .ref q5, .ref q6, .null])), (q1, .inr (3, oX4 t2 )), ((t2 0), .inl (cI, 75, .inl (fun _ => 0))), (q3, .inl (cI, 9, .inl (fun _ => 0))), (q4, .inl (cI, 9, .inl (fun _ => 0))), (q5, .inl (cI, 9, .inl (fun _ => 0))), (q6, .inl (cI, 9, .inl (fun _ => 0)))]) (C := RX0) (T := TX0) (N := 7) (ci := 0) (ref := "LoweredPowers$Found") (v := .ref q6) C0 hM hnm 0 rfl rfl kt_X0_init_X0 tyX0 tyX0_ok nmX0 5 (by decide) kw_X0_init_13 rfl rfl rfl rfl rfl (Nat.le_of_ble_eq_true rfl) rfl dX0_init_49 (fun H locs hM => ?_)
  refine lv_aload_n hx hb dX0_init_52 rfl (lv_at hl 0 rfl) ?_
  refine lv_bipush (v := (9 : Int32)) hx hb dX0_init_53 (by decide) ?_
  refine m_newaI (N := 9) C0 hM kw_X0_init_8 (by decide) (by decide) (by decide) (Nat.le_of_ble_eq_true rfl) (Nat.le_of_ble_eq_true rfl) dX0_init_55 (fun q7 H hM => ?_)
  have hM : MW D A s.heap [(h0, .inr (0, [.ref q1, .ref q3, .int (-1 : Int32), .ref q4, .ref q5, .ref q6, .null])), (q1, .inr (3, oX4 t2 )), ((t2 0), .inl (cI, 75, .inl (fun _ => 0))), (q3, .inl (cI, 9, .inl (fun _ => 0))), (q4, .inl (cI, 9, .inl (fun _ => 0))), (q5, .inl (cI, 9, .inl (fun _ => 0))), (q6, .inl (cI, 9, .inl (fun _ => 0))), (q7, .inl (cI, 9, .inl (fun _ => 0)))] H _ := hM
  refine m_putF (ws' := [(h0, .inr (0, [.ref q1, .ref q3, .int (-1 : Int32), .ref q4, .ref q5, .ref q6, .ref q7])), (q1, .inr (3, oX4 t2 )), ((t2 0), .inl (cI, 75, .inl (fun _ => 0))), (q3, .inl (cI, 9, .inl (fun _ => 0))), (q4, .inl (cI, 9, .inl (fun _ => 0))), (q5, .inl (cI, 9, .inl (fun _ => 0))), (q6, .inl (cI, 9, .inl (fun _ => 0))), (q7, .inl (cI, 9, .inl (fun _ => 0)))]) (C := RX0) (T := TX0) (N := 7) (ci := 0) (ref := "LoweredPowers$Found") (v := .ref q7) C0 hM hnm 0 rfl rfl kt_X0_init_X0 tyX0 tyX0_ok nmX0 6 (by decide) kw_X0_init_14 rfl rfl rfl rfl rfl (Nat.le_of_ble_eq_true rfl) rfl dX0_init_57 (fun H locs hM => ?_)
  refine W.widen (k := 7) (n := 121) (Nat.le_of_ble_eq_true rfl) (Nat.le_of_ble_eq_true rfl) ?_
  subst hsz; subst hA; subst hQ
  exact m_vret C0 hr hM ((lk [q1, q3, 0, q4, q5, q6, q7]), t2) trivial rfl dX0_init_60
abbrev rm_X5_init : Room := { frames := 1, cells := 2, slots := 16, locals := 20 }
set_option maxRecDepth 100000 in
set_option maxHeartbeats 4000000 in
theorem ct_X5_init (l : Launch) (D : va_G) (cI cJ cZ : ClassId) (h0 : Nat)  (sz : Nat) : Met l yX5_init wsX5_init rm_X5_init (va_Pc [.ref h0] (WX D cI cJ cZ [(h0, .inr (4, [.null, .null, .int 0]))] sz)) (va_Qv (fun (_ : (Nat → Nat)) => True) (fun (u : (Nat → Nat)) t => WY D (va_A [(h0, .inr (4, [.null, .null, .int 0]))] sz) [(h0, .inr (4, oX5 u (0 : Int32))), ((u 0), .inl (cI, 8, .inl (fun _ => 0))), ((u 1), .inl (cI, 8, .inl (fun _ => 0)))] t) (va_A [(h0, .inr (4, [.null, .null, .int 0]))] sz)) 2 16 (va_A [(h0, .inr (4, [.null, .null, .int 0]))] sz) := by
  refine m_met (own := RX5) (cc := cX5_init) (maxL := 1) (ret := none) [.ref h0] [(0, .ref h0)] (by decide) rfl rfl (Nat.le_of_ble_eq_true rfl) rfl ?_
  intro p e s m args below meth c Q A hQ hA C0 hr hnm hsz hM ls hl
  have hx := C0.1
  have hb := C0.2.1
  have hown := C0.2.2.2.1
  refine lv_aload_n hx hb dX5_init_0 rfl (lv_at hl 0 rfl) ?_
  refine W.objInit hx hb hown (C0.2.2.2.2.1 _ kw_X5_init_1) (C0.2.2.2.2.1 _ kw_X5_init_2) (C0.2.2.2.2.1 _ (List.mem_of_getElem? (i := 3) rfl)) rfl (by rw [C0.2.2.1]; exact hl.1) rfl dX5_init_1 (Nat.le_of_ble_eq_true rfl) (Nat.le_of_ble_eq_true rfl) ?_
  refine W.eq (g2 := F0 m 4 ls []) rfl ?_
  refine lv_aload_n hx hb dX5_init_4 rfl (lv_at hl 0 rfl) ?_
  refine lv_bipush (v := (8 : Int32)) hx hb dX5_init_5 (by decide) ?_
  refine m_newaI (N := 8) C0 hM kw_X5_init_4 (by decide) (by decide) (by decide) (Nat.le_of_ble_eq_true rfl) (Nat.le_of_ble_eq_true rfl) dX5_init_7 (fun q1 H hM => ?_)
  have hM : MW D A s.heap [(h0, .inr (4, [.null, .null, .int 0])), (q1, .inl (cI, 8, .inl (fun _ => 0)))] H _ := hM
  refine m_putF (ws' := [(h0, .inr (4, [.ref q1, .null, .int 0])), (q1, .inl (cI, 8, .inl (fun _ => 0)))]) (C := RX5) (T := TX5) (N := 3) (ci := 4) (ref := "LoweredPowers$Plan") (v := .ref q1) C0 hM hnm 0 rfl rfl kt_X5_init_X5 tyX5 tyX5_ok nmX5 0 (by decide) kw_X5_init_5 rfl rfl rfl rfl rfl (Nat.le_of_ble_eq_true rfl) rfl dX5_init_9 (fun H locs hM => ?_)
  refine lv_aload_n hx hb dX5_init_12 rfl (lv_at hl 0 rfl) ?_
  refine lv_bipush (v := (8 : Int32)) hx hb dX5_init_13 (by decide) ?_
  refine m_newaI (N := 8) C0 hM kw_X5_init_4 (by decide) (by decide) (by decide) (Nat.le_of_ble_eq_true rfl) (Nat.le_of_ble_eq_true rfl) dX5_init_15 (fun q2 H hM => ?_)
  have hM : MW D A s.heap [(h0, .inr (4, [.ref q1, .null, .int 0])), (q1, .inl (cI, 8, .inl (fun _ => 0))), (q2, .inl (cI, 8, .inl (fun _ => 0)))] H _ := hM
  refine m_putF (ws' := [(h0, .inr (4, [.ref q1, .ref q2, .int 0])), (q1, .inl (cI, 8, .inl (fun _ => 0))), (q2, .inl (cI, 8, .inl (fun _ => 0)))]) (C := RX5) (T := TX5) (N := 3) (ci := 4) (ref := "LoweredPowers$Plan") (v := .ref q2) C0 hM hnm 0 rfl rfl kt_X5_init_X5 tyX5 tyX5_ok nmX5 1 (by decide) kw_X5_init_6 rfl rfl rfl rfl rfl (Nat.le_of_ble_eq_true rfl) rfl dX5_init_17 (fun H locs hM => ?_)
  refine lv_aload_n hx hb dX5_init_20 rfl (lv_at hl 0 rfl) ?_
  refine lv_iconst (v := (0 : Int32)) hx hb dX5_init_21 (by decide) ?_
  refine m_put (ws' := [(h0, .inr (4, [.ref q1, .ref q2, .int (0 : Int32)])), (q1, .inl (cI, 8, .inl (fun _ => 0))), (q2, .inl (cI, 8, .inl (fun _ => 0)))]) (C := RX5) (T := TX5) (N := 3) (ci := 4) (ref := "LoweredPowers$Plan") (v := .int (0 : Int32)) C0 hM 0 rfl rfl kt_X5_init_X5 tyX5 tyX5_ok nmX5 2 (by decide) kw_X5_init_7 rfl rfl rfl rfl (Nat.le_of_ble_eq_true rfl) rfl dX5_init_22 (fun H locs hM => ?_)
  refine W.widen (k := 2) (n := 16) (Nat.le_of_ble_eq_true rfl) (Nat.le_of_ble_eq_true rfl) ?_
  subst hsz; subst hA; subst hQ
  exact m_vret C0 hr hM (lk [q1, q2, 0]) trivial rfl dX5_init_25
