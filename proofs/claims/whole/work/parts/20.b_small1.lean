theorem hd_X5_change : yX5_change.cls = RX5 ∧ yX5_change.cls ≠ "java/lang/invoke/MethodHandle" ∧ yX5_change.cls ≠ "java/lang/invoke/VarHandle" ∧ (parseMethodDescriptor yX5_change.desc).map (fun d => d.parameters.length) = some 1 := by decide +kernel
theorem hd_X6_drop : yX6_drop.cls = RX6 ∧ yX6_drop.cls ≠ "java/lang/invoke/MethodHandle" ∧ yX6_drop.cls ≠ "java/lang/invoke/VarHandle" ∧ (parseMethodDescriptor yX6_drop.desc).map (fun d => d.parameters.length) = some 1 := by decide +kernel
theorem hd_X6_make : yX6_make.cls = RX6 ∧ yX6_make.cls ≠ "java/lang/invoke/MethodHandle" ∧ yX6_make.cls ≠ "java/lang/invoke/VarHandle" ∧ (parseMethodDescriptor yX6_make.desc).map (fun d => d.parameters.length) = some 3 := by decide +kernel
theorem hd_X6_bring : yX6_bring.cls = RX6 ∧ yX6_bring.cls ≠ "java/lang/invoke/MethodHandle" ∧ yX6_bring.cls ≠ "java/lang/invoke/VarHandle" ∧ (parseMethodDescriptor yX6_bring.desc).map (fun d => d.parameters.length) = some 3 := by decide +kernel
theorem hd_X6_holdsAt : yX6_holdsAt.cls = RX6 ∧ yX6_holdsAt.cls ≠ "java/lang/invoke/MethodHandle" ∧ yX6_holdsAt.cls ≠ "java/lang/invoke/VarHandle" ∧ (parseMethodDescriptor yX6_holdsAt.desc).map (fun d => d.parameters.length) = some 2 := by decide +kernel
theorem hd_X6_numberAt : yX6_numberAt.cls = RX6 ∧ yX6_numberAt.cls ≠ "java/lang/invoke/MethodHandle" ∧ yX6_numberAt.cls ≠ "java/lang/invoke/VarHandle" ∧ (parseMethodDescriptor yX6_numberAt.desc).map (fun d => d.parameters.length) = some 2 := by decide +kernel
theorem hd_X6_copyTo : yX6_copyTo.cls = RX6 ∧ yX6_copyTo.cls ≠ "java/lang/invoke/MethodHandle" ∧ yX6_copyTo.cls ≠ "java/lang/invoke/VarHandle" ∧ (parseMethodDescriptor yX6_copyTo.desc).map (fun d => d.parameters.length) = some 2 := by decide +kernel
theorem hd_X9_become : yX9_become.cls = RX9 ∧ yX9_become.cls ≠ "java/lang/invoke/MethodHandle" ∧ yX9_become.cls ≠ "java/lang/invoke/VarHandle" ∧ (parseMethodDescriptor yX9_become.desc).map (fun d => d.parameters.length) = some 1 := by decide +kernel
theorem kt_X5_change_X5 : ∀ w ∈ u_ws RX5 TX5 3, w ∈ wsX5_change := fun _ h => List.mem_cons_of_mem _ (List.mem_append_right _ (h))
theorem kt_X6_bring_X6 : ∀ w ∈ u_ws RX6 TX6 4, w ∈ wsX6_bring := fun _ h => List.mem_cons_of_mem _ (List.mem_append_right _ (h))
theorem kt_X6_copyTo_X6 : ∀ w ∈ u_ws RX6 TX6 4, w ∈ wsX6_copyTo := fun _ h => List.mem_cons_of_mem _ (List.mem_append_right _ (h))
theorem kt_X6_drop_X6 : ∀ w ∈ u_ws RX6 TX6 4, w ∈ wsX6_drop := fun _ h => List.mem_cons_of_mem _ (List.mem_append_right _ (h))
theorem kt_X6_holdsAt_X6 : ∀ w ∈ u_ws RX6 TX6 4, w ∈ wsX6_holdsAt := fun _ h => List.mem_cons_of_mem _ (List.mem_append_right _ (h))
theorem kt_X6_make_X6 : ∀ w ∈ u_ws RX6 TX6 4, w ∈ wsX6_make := fun _ h => List.mem_cons_of_mem _ (List.mem_append_right _ (h))
theorem kt_X6_numberAt_X6 : ∀ w ∈ u_ws RX6 TX6 4, w ∈ wsX6_numberAt := fun _ h => List.mem_cons_of_mem _ (List.mem_append_right _ (h))
theorem kt_X9_become_X9 : ∀ w ∈ u_ws RX9 TX9 4, w ∈ wsX9_become := fun _ h => List.mem_cons_of_mem _ (List.mem_append_left _ (List.mem_append_left _ (List.mem_append_left _ (List.mem_append_right _ (h)))))
theorem kw_X5_change_1 : Cond.fieldLink RX5 18 "LoweredPowers$Plan" "size" "I" ∈ wsX5_change := List.mem_of_getElem? (i := 1) rfl
theorem kw_X5_change_2 : Cond.fieldLink RX5 11 "LoweredPowers$Plan" "kinds" "[I" ∈ wsX5_change := List.mem_of_getElem? (i := 2) rfl
theorem kw_X5_change_3 : Cond.fieldLink RX5 15 "LoweredPowers$Plan" "amounts" "[I" ∈ wsX5_change := List.mem_of_getElem? (i := 3) rfl
theorem kw_X6_drop_1 : Cond.fieldLink RX6 9 "LoweredPowers$Racks" "kinds" "[I" ∈ wsX6_drop := List.mem_of_getElem? (i := 1) rfl
theorem kw_X6_drop_2 : Cond.fieldLink RX6 13 "LoweredPowers$Racks" "sizes" "[I" ∈ wsX6_drop := List.mem_of_getElem? (i := 2) rfl
theorem kw_X6_make_3 : Cond.fieldLink RX6 19 "LoweredPowers$Racks" "full" "[Z" ∈ wsX6_make := List.mem_of_getElem? (i := 3) rfl
theorem kw_X6_make_1 : Cond.fieldLink RX6 9 "LoweredPowers$Racks" "kinds" "[I" ∈ wsX6_make := List.mem_of_getElem? (i := 1) rfl
theorem kw_X6_make_2 : Cond.fieldLink RX6 13 "LoweredPowers$Racks" "sizes" "[I" ∈ wsX6_make := List.mem_of_getElem? (i := 2) rfl
theorem kw_X6_bring_1 : Cond.fieldLink RX6 16 "LoweredPowers$Racks" "things" "[I" ∈ wsX6_bring := List.mem_of_getElem? (i := 1) rfl
theorem kw_X6_bring_2 : Cond.fieldLink RX6 19 "LoweredPowers$Racks" "full" "[Z" ∈ wsX6_bring := List.mem_of_getElem? (i := 2) rfl
theorem kw_X6_holdsAt_1 : Cond.fieldLink RX6 19 "LoweredPowers$Racks" "full" "[Z" ∈ wsX6_holdsAt := List.mem_of_getElem? (i := 1) rfl
theorem kw_X6_numberAt_1 : Cond.fieldLink RX6 16 "LoweredPowers$Racks" "things" "[I" ∈ wsX6_numberAt := List.mem_of_getElem? (i := 1) rfl
theorem kw_X6_copyTo_3 : Cond.fieldLink RX6 16 "LoweredPowers$Racks" "things" "[I" ∈ wsX6_copyTo := List.mem_of_getElem? (i := 3) rfl
theorem kw_X6_copyTo_4 : Cond.fieldLink RX6 19 "LoweredPowers$Racks" "full" "[Z" ∈ wsX6_copyTo := List.mem_of_getElem? (i := 4) rfl
theorem kw_X6_copyTo_1 : Cond.fieldLink RX6 9 "LoweredPowers$Racks" "kinds" "[I" ∈ wsX6_copyTo := List.mem_of_getElem? (i := 1) rfl
theorem kw_X6_copyTo_2 : Cond.fieldLink RX6 13 "LoweredPowers$Racks" "sizes" "[I" ∈ wsX6_copyTo := List.mem_of_getElem? (i := 2) rfl
theorem kw_X9_become_1 : Cond.fieldLink RX9 9 "LoweredPowers$State" "f" "[I" ∈ wsX9_become := List.mem_of_getElem? (i := 1) rfl
theorem kw_X9_become_2 : Cond.methodLink RX9 36 arraycopyName ∈ wsX9_become := List.mem_of_getElem? (i := 2) rfl
theorem kw_X9_become_3 : Cond.native arraycopyName ∈ wsX9_become := List.mem_of_getElem? (i := 3) rfl
theorem kw_X9_become_4 : Cond.static arraycopyName ∈ wsX9_become := List.mem_of_getElem? (i := 4) rfl
theorem kw_X9_become_5 : Cond.initialized RJ10 ∈ wsX9_become := List.mem_of_getElem? (i := 5) rfl
theorem kw_X9_become_6 : Cond.fieldLink RX9 18 "LoweredPowers$State" "operator" "LLoweredPowers$Operator;" ∈ wsX9_become := List.mem_of_getElem? (i := 6) rfl
theorem kw_X9_become_7 : Cond.fieldLink RX9 25 "LoweredPowers$State" "found" "LLoweredPowers$Found;" ∈ wsX9_become := List.mem_of_getElem? (i := 7) rfl
theorem kw_X9_become_8 : Cond.fieldLink RX9 32 "LoweredPowers$State" "plan" "LLoweredPowers$Plan;" ∈ wsX9_become := List.mem_of_getElem? (i := 8) rfl
abbrev rm_X5_change : Room := { frames := 3, cells := 0, slots := 0, locals := 68 }
set_option maxRecDepth 100000 in
set_option maxHeartbeats 4000000 in
theorem ct_X5_change (l : Launch) (D : va_G) (cI cJ cZ : ClassId) (h0 : Nat) (h1 : Nat) (r0 : Nat → Nat) (I_0_size : Int32) (A_0_0_kinds : (Nat → Int32)) (A_0_1_amounts : (Nat → Int32)) (A1 : (Nat → Int32)) (sz : Nat) (K : (Nat → Int32) → Prop) (h : wp_X5_change I_0_size A_0_0_kinds A_0_1_amounts A1 K) : Met l yX5_change wsX5_change rm_X5_change (va_Pc [.ref h0, .ref h1] (WX D cI cJ cZ [(h0, .inr (4, oX5 r0 I_0_size)), ((r0 0), .inl (cI, 8, .inl A_0_0_kinds)), ((r0 1), .inl (cI, 8, .inl A_0_1_amounts)), (h1, .inl (cI, 5, .inl A1))] sz)) (va_Qv (fun (u : (Nat → Int32)) => K u) (fun (u : (Nat → Int32)) t => WY D (va_A [(h0, .inr (4, oX5 r0 I_0_size)), ((r0 0), .inl (cI, 8, .inl A_0_0_kinds)), ((r0 1), .inl (cI, 8, .inl A_0_1_amounts)), (h1, .inl (cI, 5, .inl A1))] sz) [(h0, .inr (4, oX5 r0 I_0_size)), ((r0 0), .inl (cI, 8, .inl A_0_0_kinds)), ((r0 1), .inl (cI, 8, .inl A_0_1_amounts)), (h1, .inl (cI, 5, .inl u))] t) (va_A [(h0, .inr (4, oX5 r0 I_0_size)), ((r0 0), .inl (cI, 8, .inl A_0_0_kinds)), ((r0 1), .inl (cI, 8, .inl A_0_1_amounts)), (h1, .inl (cI, 5, .inl A1))] sz)) 0 0 (va_A [(h0, .inr (4, oX5 r0 I_0_size)), ((r0 0), .inl (cI, 8, .inl A_0_0_kinds)), ((r0 1), .inl (cI, 8, .inl A_0_1_amounts)), (h1, .inl (cI, 5, .inl A1))] sz) := by
  refine m_met (own := RX5) (cc := cX5_change) (maxL := 3) (ret := none) [.ref h0, .ref h1] [(0, .ref h0), (1, .ref h1)] (by decide) rfl rfl (Nat.le_of_ble_eq_true rfl) rfl ?_
  intro p e s m args below meth c Q A hQ hA C0 hr hnm hsz hM ls hl
  have hx := C0.1
  have hb := C0.2.1
  have hown := C0.2.2.2.1
  have lq2 : ∀ (k2 : Nat) (x2 : Int32) (A1 : (Nat → Int32)) (H : Heap) (locs : List Loc) (ls : Array Slot) , lp_X5_change_2 I_0_size A_0_0_kinds A_0_1_amounts K k2 x2 A1 → MW D A s.heap [(h0, .inr (4, oX5 r0 I_0_size)), ((r0 0), .inl (cI, 8, .inl A_0_0_kinds)), ((r0 1), .inl (cI, 8, .inl A_0_1_amounts)), (h1, .inl (cI, 5, .inl A1))] H locs → lv_has ls 3 [(0, .ref h0), (1, .ref h1), (2, .int x2)] → W p l e rm_X5_change s m args below meth c H locs 0 0 Q (F0 m 2 ls []) := by
    intro k2
    induction k2 with
    | zero =>
      intro x2 A1 H locs ls h
      unfold lp_X5_change_2 at h
      exact h.elim
    | succ k2 ih2 =>
      intro x2 A1 H locs ls h hM hl
      unfold lp_X5_change_2 at h
      refine lv_iload_n hx hb dX5_change_2 rfl (lv_at hl 2 rfl) ?_
      refine lv_aload_n hx hb dX5_change_3 rfl (lv_at hl 0 rfl) ?_
      refine m_get (C := RX5) (T := TX5) (N := 3) (ci := 4) (ref := "LoweredPowers$Plan") (v := .int I_0_size) C0 hM 0 rfl rfl kt_X5_change_X5 2 (by decide) kw_X5_change_1 rfl rfl dX5_change_4 ?_
      refine lv_icmp_ge (tgt := 38) hx hb dX5_change_7 (by decide) (fun hq => ?_) (fun hq => ?_)
      · have h := h.1 hq
        subst hsz; subst hA; subst hQ
        exact m_vret C0 hr hM A1 h rfl dX5_change_38
      · have h := h.2 hq
        refine lv_iload_n hx hb dX5_change_10 rfl (lv_at hl 2 rfl) ?_
        refine lv_bipush (v := (8 : Int32)) hx hb dX5_change_11 (by decide) ?_
        refine lv_icmp_ge (tgt := 38) hx hb dX5_change_13 (by decide) (fun hq => ?_) (fun hq => ?_)
        · have h := h.1 hq
          subst hsz; subst hA; subst hQ
          exact m_vret C0 hr hM A1 h rfl dX5_change_38
        · have h := h.2 hq
          refine lv_aload_n hx hb dX5_change_16 rfl (lv_at hl 1 rfl) ?_
          refine lv_aload_n hx hb dX5_change_17 rfl (lv_at hl 0 rfl) ?_
          refine m_get (C := RX5) (T := TX5) (N := 3) (ci := 4) (ref := "LoweredPowers$Plan") (v := .ref (r0 0)) C0 hM 0 rfl rfl kt_X5_change_X5 0 (by decide) kw_X5_change_2 rfl rfl dX5_change_18 ?_
          refine lv_iload_n hx hb dX5_change_21 rfl (lv_at hl 2 rfl) ?_
          obtain ⟨hc1, h⟩ := h
          refine m_iald C0 hM 1 rfl hc1 dX5_change_22 ?_
          refine lv_aload_n hx hb dX5_change_23 rfl (lv_at hl 0 rfl) ?_
          refine m_get (C := RX5) (T := TX5) (N := 3) (ci := 4) (ref := "LoweredPowers$Plan") (v := .ref (r0 1)) C0 hM 0 rfl rfl kt_X5_change_X5 1 (by decide) kw_X5_change_3 rfl rfl dX5_change_24 ?_
          refine lv_iload_n hx hb dX5_change_27 rfl (lv_at hl 2 rfl) ?_
          refine m_iald C0 hM 2 rfl hc1 dX5_change_28 ?_
          refine m_callv (wc := [(h1, .inl (cI, 5, .inl A1))]) C0 hM [3] rfl (m_runS (wc := [(h1, .inl (cI, 5, .inl A1))]) (As := [.ref h1, .int (A_0_0_kinds (x2).toNatClampNeg), .int (A_0_1_amounts (x2).toNatClampNeg)]) (rest := []) C0 hM (ct_X5_changeOnce l D cI cJ cZ h1 A1 (A_0_0_kinds (x2).toNatClampNeg) (A_0_1_amounts (x2).toNatClampNeg) _ _ h) [3] rfl (by decide) gX5_change_X5_changeOnce rfl rfl rfl hd_X5_changeOnce ⟨Nat.le_of_ble_eq_true rfl, Nat.le_of_ble_eq_true rfl⟩ rfl hl.1 rfl (Nat.le_of_ble_eq_true rfl) dX5_change_29 ⟨Nat.le_of_ble_eq_true rfl, Nat.le_of_ble_eq_true rfl⟩) (fun u => [(h0, .inr (4, oX5 r0 I_0_size)), ((r0 0), .inl (cI, 8, .inl A_0_0_kinds)), ((r0 1), .inl (cI, 8, .inl A_0_1_amounts)), (h1, .inl (cI, 5, .inl u))]) (fun _ => rfl) (fun _ => rfl) (fun b2 H locs h hM => ?_)
          refine lv_iinc (v := (x2 + (1 : Int32))) (lv' := [(2, .int (x2 + (1 : Int32))), (0, .ref h0), (1, .ref h1)]) hx hb dX5_change_32 hl (k := 2) rfl rfl (by decide) rfl (fun ls hl => ?_)
          refine lv_goto (tgt := 2) hx hb dX5_change_35 (by decide) ?_
          exact ih2 _ _ _ _ _ h hM (lv_sub hl [1, 2, 0] rfl)
  unfold wp_X5_change at h
  refine lv_iconst (v := (0 : Int32)) hx hb dX5_change_0 (by decide) ?_
  refine lv_istore_n (lv' := [(2, .int (0 : Int32)), (0, .ref h0), (1, .ref h1)]) hx hb dX5_change_1 rfl hl (by decide) rfl (fun ls hl => ?_)
  obtain ⟨k0, h⟩ := h
  exact lq2 k0 _ _ _ _ _ h hM (lv_sub hl [1, 2, 0] rfl)
abbrev rm_X6_drop : Room := { frames := 0, cells := 0, slots := 0, locals := 0 }
set_option maxRecDepth 100000 in
set_option maxHeartbeats 4000000 in
theorem ct_X6_drop (l : Launch) (D : va_G) (cI cJ cZ : ClassId) (h0 : Nat) (r0 : Nat → Nat) (A_0_0_kinds : (Nat → Int32)) (A_0_1_sizes : (Nat → Int32)) (x1 : Int32) (sz : Nat) (K : (Nat → Int32) → (Nat → Int32) → Prop) (h : wp_X6_drop x1 A_0_0_kinds A_0_1_sizes K) : Met l yX6_drop wsX6_drop rm_X6_drop (va_Pc [.ref h0, .int x1] (WX D cI cJ cZ [(h0, .inr (5, oX6 r0 )), ((r0 0), .inl (cI, 3, .inl A_0_0_kinds)), ((r0 1), .inl (cI, 3, .inl A_0_1_sizes))] sz)) (va_Qv (fun (u : (Nat → Int32) × (Nat → Int32)) => K u.1 u.2) (fun (u : (Nat → Int32) × (Nat → Int32)) t => WY D (va_A [(h0, .inr (5, oX6 r0 )), ((r0 0), .inl (cI, 3, .inl A_0_0_kinds)), ((r0 1), .inl (cI, 3, .inl A_0_1_sizes))] sz) [(h0, .inr (5, oX6 r0 )), ((r0 0), .inl (cI, 3, .inl u.1)), ((r0 1), .inl (cI, 3, .inl u.2))] t) (va_A [(h0, .inr (5, oX6 r0 )), ((r0 0), .inl (cI, 3, .inl A_0_0_kinds)), ((r0 1), .inl (cI, 3, .inl A_0_1_sizes))] sz)) 0 0 (va_A [(h0, .inr (5, oX6 r0 )), ((r0 0), .inl (cI, 3, .inl A_0_0_kinds)), ((r0 1), .inl (cI, 3, .inl A_0_1_sizes))] sz) := by
  refine m_met (own := RX6) (cc := cX6_drop) (maxL := 2) (ret := none) [.ref h0, .int x1] [(0, .ref h0), (1, .int x1)] (by decide) rfl rfl (Nat.le_of_ble_eq_true rfl) rfl ?_
  intro p e s m args below meth c Q A hQ hA C0 hr hnm hsz hM ls hl
  have hx := C0.1
  have hb := C0.2.1
  have hown := C0.2.2.2.1
  unfold wp_X6_drop at h
  refine lv_aload_n hx hb dX6_drop_0 rfl (lv_at hl 0 rfl) ?_
  refine m_get (C := RX6) (T := TX6) (N := 4) (ci := 5) (ref := "LoweredPowers$Racks") (v := .ref (r0 0)) C0 hM 0 rfl rfl kt_X6_drop_X6 0 (by decide) kw_X6_drop_1 rfl rfl dX6_drop_1 ?_
  refine lv_iload_n hx hb dX6_drop_4 rfl (lv_at hl 1 rfl) ?_
  refine lv_iconst (v := (-1 : Int32)) hx hb dX6_drop_5 (by decide) ?_
  obtain ⟨hc1, h⟩ := h
  refine m_iast (ws' := [(h0, .inr (5, oX6 r0 )), ((r0 0), .inl (cI, 3, .inl (upd A_0_0_kinds (x1).toNatClampNeg (-1 : Int32)))), ((r0 1), .inl (cI, 3, .inl A_0_1_sizes))]) C0 hM 1 rfl hc1 rfl dX6_drop_6 (fun H locs hM => ?_)
  refine lv_aload_n hx hb dX6_drop_7 rfl (lv_at hl 0 rfl) ?_
  refine m_get (C := RX6) (T := TX6) (N := 4) (ci := 5) (ref := "LoweredPowers$Racks") (v := .ref (r0 1)) C0 hM 0 rfl rfl kt_X6_drop_X6 1 (by decide) kw_X6_drop_2 rfl rfl dX6_drop_8 ?_
  refine lv_iload_n hx hb dX6_drop_11 rfl (lv_at hl 1 rfl) ?_
  refine lv_iconst (v := (0 : Int32)) hx hb dX6_drop_12 (by decide) ?_
  refine m_iast (ws' := [(h0, .inr (5, oX6 r0 )), ((r0 0), .inl (cI, 3, .inl (upd A_0_0_kinds (x1).toNatClampNeg (-1 : Int32)))), ((r0 1), .inl (cI, 3, .inl (upd A_0_1_sizes (x1).toNatClampNeg (0 : Int32))))]) C0 hM 2 rfl hc1 rfl dX6_drop_13 (fun H locs hM => ?_)
  subst hsz; subst hA; subst hQ
  exact m_vret C0 hr hM ((upd A_0_0_kinds (x1).toNatClampNeg (-1 : Int32)), (upd A_0_1_sizes (x1).toNatClampNeg (0 : Int32))) h rfl dX6_drop_14
abbrev rm_X6_make : Room := { frames := 0, cells := 0, slots := 0, locals := 0 }
set_option maxRecDepth 100000 in
set_option maxHeartbeats 4000000 in
theorem ct_X6_make (l : Launch) (D : va_G) (cI cJ cZ : ClassId) (h0 : Nat) (r0 : Nat → Nat) (A_0_0_kinds : (Nat → Int32)) (A_0_1_sizes : (Nat → Int32)) (A_0_3_full : (Nat → Int32)) (x1 : Int32) (x2 : Int32) (x3 : Int32) (sz : Nat) (K : (Nat → Int32) → (Nat → Int32) → (Nat → Int32) → Prop) (h : wp_X6_make x1 x2 x3 A_0_0_kinds A_0_1_sizes A_0_3_full K) : Met l yX6_make wsX6_make rm_X6_make (va_Pc [.ref h0, .int x1, .int x2, .int x3] (WX D cI cJ cZ [(h0, .inr (5, oX6 r0 )), ((r0 0), .inl (cI, 3, .inl A_0_0_kinds)), ((r0 1), .inl (cI, 3, .inl A_0_1_sizes)), ((r0 3), .inl (cZ, 30, .inl A_0_3_full))] sz)) (va_Qv (fun (u : (Nat → Int32) × (Nat → Int32) × (Nat → Int32)) => K u.1 u.2.1 u.2.2) (fun (u : (Nat → Int32) × (Nat → Int32) × (Nat → Int32)) t => WY D (va_A [(h0, .inr (5, oX6 r0 )), ((r0 0), .inl (cI, 3, .inl A_0_0_kinds)), ((r0 1), .inl (cI, 3, .inl A_0_1_sizes)), ((r0 3), .inl (cZ, 30, .inl A_0_3_full))] sz) [(h0, .inr (5, oX6 r0 )), ((r0 0), .inl (cI, 3, .inl u.1)), ((r0 1), .inl (cI, 3, .inl u.2.1)), ((r0 3), .inl (cZ, 30, .inl u.2.2))] t) (va_A [(h0, .inr (5, oX6 r0 )), ((r0 0), .inl (cI, 3, .inl A_0_0_kinds)), ((r0 1), .inl (cI, 3, .inl A_0_1_sizes)), ((r0 3), .inl (cZ, 30, .inl A_0_3_full))] sz)) 0 0 (va_A [(h0, .inr (5, oX6 r0 )), ((r0 0), .inl (cI, 3, .inl A_0_0_kinds)), ((r0 1), .inl (cI, 3, .inl A_0_1_sizes)), ((r0 3), .inl (cZ, 30, .inl A_0_3_full))] sz) := by
  refine m_met (own := RX6) (cc := cX6_make) (maxL := 5) (ret := none) [.ref h0, .int x1, .int x2, .int x3] [(0, .ref h0), (1, .int x1), (2, .int x2), (3, .int x3)] (by decide) rfl rfl (Nat.le_of_ble_eq_true rfl) rfl ?_
  intro p e s m args below meth c Q A hQ hA C0 hr hnm hsz hM ls hl
  have hx := C0.1
  have hb := C0.2.1
  have hown := C0.2.2.2.1
  have lq17 : ∀ (k17 : Nat) (x4 : Int32) (A_0_0_kinds : (Nat → Int32)) (A_0_1_sizes : (Nat → Int32)) (A_0_3_full : (Nat → Int32)) (H : Heap) (locs : List Loc) (ls : Array Slot) , lp_X6_make_17 x1 x2 x3 K k17 x4 A_0_0_kinds A_0_1_sizes A_0_3_full → MW D A s.heap [(h0, .inr (5, oX6 r0 )), ((r0 0), .inl (cI, 3, .inl A_0_0_kinds)), ((r0 1), .inl (cI, 3, .inl A_0_1_sizes)), ((r0 3), .inl (cZ, 30, .inl A_0_3_full))] H locs → lv_has ls 5 [(0, .ref h0), (1, .int x1), (4, .int x4)] → W p l e rm_X6_make s m args below meth c H locs 0 0 Q (F0 m 17 ls []) := by
    intro k17
    induction k17 with
    | zero =>
      intro x4 A_0_0_kinds A_0_1_sizes A_0_3_full H locs ls h
      unfold lp_X6_make_17 at h
      exact h.elim
    | succ k17 ih17 =>
      intro x4 A_0_0_kinds A_0_1_sizes A_0_3_full H locs ls h hM hl
      unfold lp_X6_make_17 at h
      refine lv_iload hx hb dX6_make_17 (lv_at hl 2 rfl) ?_
      refine lv_bipush (v := (10 : Int32)) hx hb dX6_make_19 (by decide) ?_
      refine lv_icmp_ge (tgt := 43) hx hb dX6_make_21 (by decide) (fun hq => ?_) (fun hq => ?_)
      · have h := h.1 hq
        subst hsz; subst hA; subst hQ
        exact m_vret C0 hr hM (A_0_0_kinds, A_0_1_sizes, A_0_3_full) h rfl dX6_make_43
      · have h := h.2 hq
        refine lv_aload_n hx hb dX6_make_24 rfl (lv_at hl 0 rfl) ?_
        refine m_get (C := RX6) (T := TX6) (N := 4) (ci := 5) (ref := "LoweredPowers$Racks") (v := .ref (r0 3)) C0 hM 0 rfl rfl kt_X6_make_X6 3 (by decide) kw_X6_make_3 rfl rfl dX6_make_25 ?_
        refine lv_iload_n hx hb dX6_make_28 rfl (lv_at hl 1 rfl) ?_
        refine lv_bipush (v := (10 : Int32)) hx hb dX6_make_29 (by decide) ?_
        refine lv_imul hx hb dX6_make_31 ?_
        refine lv_iload hx hb dX6_make_32 (lv_at hl 2 rfl) ?_
        refine lv_iadd hx hb dX6_make_34 ?_
        refine lv_iconst (v := (0 : Int32)) hx hb dX6_make_35 (by decide) ?_
        obtain ⟨hc1, h⟩ := h
        refine m_zast (ws' := [(h0, .inr (5, oX6 r0 )), ((r0 0), .inl (cI, 3, .inl A_0_0_kinds)), ((r0 1), .inl (cI, 3, .inl A_0_1_sizes)), ((r0 3), .inl (cZ, 30, .inl (upd A_0_3_full (((x1 * (10 : Int32)) + x4)).toNatClampNeg (vp_nar .boolean (0 : Int32)))))]) C0 hM 3 rfl hc1 rfl dX6_make_36 (fun H locs hM => ?_)
        refine lv_iinc (v := (x4 + (1 : Int32))) (lv' := [(4, .int (x4 + (1 : Int32))), (0, .ref h0), (1, .int x1)]) hx hb dX6_make_37 hl (k := 2) rfl rfl (by decide) rfl (fun ls hl => ?_)
        refine lv_goto (tgt := 17) hx hb dX6_make_40 (by decide) ?_
        exact ih17 _ _ _ _ _ _ _ h hM (lv_sub hl [1, 2, 0] rfl)
  unfold wp_X6_make at h
  refine lv_aload_n hx hb dX6_make_0 rfl (lv_at hl 0 rfl) ?_
  refine m_get (C := RX6) (T := TX6) (N := 4) (ci := 5) (ref := "LoweredPowers$Racks") (v := .ref (r0 0)) C0 hM 0 rfl rfl kt_X6_make_X6 0 (by decide) kw_X6_make_1 rfl rfl dX6_make_1 ?_
  refine lv_iload_n hx hb dX6_make_4 rfl (lv_at hl 1 rfl) ?_
  refine lv_iload_n hx hb dX6_make_5 rfl (lv_at hl 2 rfl) ?_
  obtain ⟨hc2, h⟩ := h
  refine m_iast (ws' := [(h0, .inr (5, oX6 r0 )), ((r0 0), .inl (cI, 3, .inl (upd A_0_0_kinds (x1).toNatClampNeg x2))), ((r0 1), .inl (cI, 3, .inl A_0_1_sizes)), ((r0 3), .inl (cZ, 30, .inl A_0_3_full))]) C0 hM 1 rfl hc2 rfl dX6_make_6 (fun H locs hM => ?_)
  refine lv_aload_n hx hb dX6_make_7 rfl (lv_at hl 0 rfl) ?_
  refine m_get (C := RX6) (T := TX6) (N := 4) (ci := 5) (ref := "LoweredPowers$Racks") (v := .ref (r0 1)) C0 hM 0 rfl rfl kt_X6_make_X6 1 (by decide) kw_X6_make_2 rfl rfl dX6_make_8 ?_
  refine lv_iload_n hx hb dX6_make_11 rfl (lv_at hl 1 rfl) ?_
  refine lv_iload_n hx hb dX6_make_12 rfl (lv_at hl 3 rfl) ?_
  refine m_iast (ws' := [(h0, .inr (5, oX6 r0 )), ((r0 0), .inl (cI, 3, .inl (upd A_0_0_kinds (x1).toNatClampNeg x2))), ((r0 1), .inl (cI, 3, .inl (upd A_0_1_sizes (x1).toNatClampNeg x3))), ((r0 3), .inl (cZ, 30, .inl A_0_3_full))]) C0 hM 2 rfl hc2 rfl dX6_make_13 (fun H locs hM => ?_)
  refine lv_iconst (v := (0 : Int32)) hx hb dX6_make_14 (by decide) ?_
  refine lv_istore (lv' := [(4, .int (0 : Int32)), (0, .ref h0), (1, .int x1), (2, .int x2), (3, .int x3)]) hx hb dX6_make_15 hl (by decide) rfl (fun ls hl => ?_)
  obtain ⟨k0, h⟩ := h
  exact lq17 k0 _ _ _ _ _ _ _ h hM (lv_sub hl [1, 2, 0] rfl)
abbrev rm_X6_bring : Room := { frames := 0, cells := 0, slots := 0, locals := 0 }
set_option maxRecDepth 100000 in
set_option maxHeartbeats 4000000 in
theorem ct_X6_bring (l : Launch) (D : va_G) (cI cJ cZ : ClassId) (h0 : Nat) (r0 : Nat → Nat) (A_0_2_things : (Nat → Int32)) (A_0_3_full : (Nat → Int32)) (x1 : Int32) (x2 : Int32) (x3 : Int32) (sz : Nat) (K : (Nat → Int32) → (Nat → Int32) → Prop) (h : wp_X6_bring x1 x2 x3 A_0_2_things A_0_3_full K) : Met l yX6_bring wsX6_bring rm_X6_bring (va_Pc [.ref h0, .int x1, .int x2, .int x3] (WX D cI cJ cZ [(h0, .inr (5, oX6 r0 )), ((r0 2), .inl (cI, 30, .inl A_0_2_things)), ((r0 3), .inl (cZ, 30, .inl A_0_3_full))] sz)) (va_Qv (fun (u : (Nat → Int32) × (Nat → Int32)) => K u.1 u.2) (fun (u : (Nat → Int32) × (Nat → Int32)) t => WY D (va_A [(h0, .inr (5, oX6 r0 )), ((r0 2), .inl (cI, 30, .inl A_0_2_things)), ((r0 3), .inl (cZ, 30, .inl A_0_3_full))] sz) [(h0, .inr (5, oX6 r0 )), ((r0 2), .inl (cI, 30, .inl u.1)), ((r0 3), .inl (cZ, 30, .inl u.2))] t) (va_A [(h0, .inr (5, oX6 r0 )), ((r0 2), .inl (cI, 30, .inl A_0_2_things)), ((r0 3), .inl (cZ, 30, .inl A_0_3_full))] sz)) 0 0 (va_A [(h0, .inr (5, oX6 r0 )), ((r0 2), .inl (cI, 30, .inl A_0_2_things)), ((r0 3), .inl (cZ, 30, .inl A_0_3_full))] sz) := by
  refine m_met (own := RX6) (cc := cX6_bring) (maxL := 4) (ret := none) [.ref h0, .int x1, .int x2, .int x3] [(0, .ref h0), (1, .int x1), (2, .int x2), (3, .int x3)] (by decide) rfl rfl (Nat.le_of_ble_eq_true rfl) rfl ?_
  intro p e s m args below meth c Q A hQ hA C0 hr hnm hsz hM ls hl
  have hx := C0.1
  have hb := C0.2.1
  have hown := C0.2.2.2.1
  unfold wp_X6_bring at h
  refine lv_aload_n hx hb dX6_bring_0 rfl (lv_at hl 0 rfl) ?_
  refine m_get (C := RX6) (T := TX6) (N := 4) (ci := 5) (ref := "LoweredPowers$Racks") (v := .ref (r0 2)) C0 hM 0 rfl rfl kt_X6_bring_X6 2 (by decide) kw_X6_bring_1 rfl rfl dX6_bring_1 ?_
  refine lv_iload_n hx hb dX6_bring_4 rfl (lv_at hl 1 rfl) ?_
  refine lv_bipush (v := (10 : Int32)) hx hb dX6_bring_5 (by decide) ?_
  refine lv_imul hx hb dX6_bring_7 ?_
  refine lv_iload_n hx hb dX6_bring_8 rfl (lv_at hl 2 rfl) ?_
  refine lv_iadd hx hb dX6_bring_9 ?_
  refine lv_iload_n hx hb dX6_bring_10 rfl (lv_at hl 3 rfl) ?_
  obtain ⟨hc1, h⟩ := h
  refine m_iast (ws' := [(h0, .inr (5, oX6 r0 )), ((r0 2), .inl (cI, 30, .inl (upd A_0_2_things (((x1 * (10 : Int32)) + x2)).toNatClampNeg x3))), ((r0 3), .inl (cZ, 30, .inl A_0_3_full))]) C0 hM 1 rfl hc1 rfl dX6_bring_11 (fun H locs hM => ?_)
  refine lv_aload_n hx hb dX6_bring_12 rfl (lv_at hl 0 rfl) ?_
  refine m_get (C := RX6) (T := TX6) (N := 4) (ci := 5) (ref := "LoweredPowers$Racks") (v := .ref (r0 3)) C0 hM 0 rfl rfl kt_X6_bring_X6 3 (by decide) kw_X6_bring_2 rfl rfl dX6_bring_13 ?_
  refine lv_iload_n hx hb dX6_bring_16 rfl (lv_at hl 1 rfl) ?_
  refine lv_bipush (v := (10 : Int32)) hx hb dX6_bring_17 (by decide) ?_
  refine lv_imul hx hb dX6_bring_19 ?_
  refine lv_iload_n hx hb dX6_bring_20 rfl (lv_at hl 2 rfl) ?_
  refine lv_iadd hx hb dX6_bring_21 ?_
  refine lv_iconst (v := (1 : Int32)) hx hb dX6_bring_22 (by decide) ?_
  refine m_zast (ws' := [(h0, .inr (5, oX6 r0 )), ((r0 2), .inl (cI, 30, .inl (upd A_0_2_things (((x1 * (10 : Int32)) + x2)).toNatClampNeg x3))), ((r0 3), .inl (cZ, 30, .inl (upd A_0_3_full (((x1 * (10 : Int32)) + x2)).toNatClampNeg (vp_nar .boolean (1 : Int32)))))]) C0 hM 2 rfl hc1 rfl dX6_bring_23 (fun H locs hM => ?_)
  subst hsz; subst hA; subst hQ
  exact m_vret C0 hr hM ((upd A_0_2_things (((x1 * (10 : Int32)) + x2)).toNatClampNeg x3), (upd A_0_3_full (((x1 * (10 : Int32)) + x2)).toNatClampNeg (vp_nar .boolean (1 : Int32)))) h rfl dX6_bring_24
abbrev rm_X6_holdsAt : Room := { frames := 0, cells := 0, slots := 0, locals := 0 }
set_option maxRecDepth 100000 in
set_option maxHeartbeats 4000000 in
theorem ct_X6_holdsAt (l : Launch) (D : va_G) (cI cJ cZ : ClassId) (h0 : Nat) (r0 : Nat → Nat) (A_0_3_full : (Nat → Int32)) (x1 : Int32) (x2 : Int32) (sz : Nat) (K : Int32 → Prop) (h : wp_X6_holdsAt x1 x2 A_0_3_full K) : Met l yX6_holdsAt wsX6_holdsAt rm_X6_holdsAt (va_Pc [.ref h0, .int x1, .int x2] (WX D cI cJ cZ [(h0, .inr (5, oX6 r0 )), ((r0 3), .inl (cZ, 30, .inl A_0_3_full))] sz)) (va_Qi (fun (r : Int32) (_ : Unit) => K r ) (fun (_ : Unit) t => WY D (va_A [(h0, .inr (5, oX6 r0 )), ((r0 3), .inl (cZ, 30, .inl A_0_3_full))] sz) [(h0, .inr (5, oX6 r0 )), ((r0 3), .inl (cZ, 30, .inl A_0_3_full))] t) (va_A [(h0, .inr (5, oX6 r0 )), ((r0 3), .inl (cZ, 30, .inl A_0_3_full))] sz)) 0 0 (va_A [(h0, .inr (5, oX6 r0 )), ((r0 3), .inl (cZ, 30, .inl A_0_3_full))] sz) := by
  refine m_met (own := RX6) (cc := cX6_holdsAt) (maxL := 3) (ret := some .boolean) [.ref h0, .int x1, .int x2] [(0, .ref h0), (1, .int x1), (2, .int x2)] (by decide) rfl rfl (Nat.le_of_ble_eq_true rfl) rfl ?_
  intro p e s m args below meth c Q A hQ hA C0 hr hnm hsz hM ls hl
  have hx := C0.1
  have hb := C0.2.1
  have hown := C0.2.2.2.1
  unfold wp_X6_holdsAt at h
  refine lv_aload_n hx hb dX6_holdsAt_0 rfl (lv_at hl 0 rfl) ?_
  refine m_get (C := RX6) (T := TX6) (N := 4) (ci := 5) (ref := "LoweredPowers$Racks") (v := .ref (r0 3)) C0 hM 0 rfl rfl kt_X6_holdsAt_X6 3 (by decide) kw_X6_holdsAt_1 rfl rfl dX6_holdsAt_1 ?_
  refine lv_iload_n hx hb dX6_holdsAt_4 rfl (lv_at hl 1 rfl) ?_
  refine lv_bipush (v := (10 : Int32)) hx hb dX6_holdsAt_5 (by decide) ?_
  refine lv_imul hx hb dX6_holdsAt_7 ?_
  refine lv_iload_n hx hb dX6_holdsAt_8 rfl (lv_at hl 2 rfl) ?_
  refine lv_iadd hx hb dX6_holdsAt_9 ?_
  obtain ⟨hc1, h⟩ := h
  refine m_zald C0 hM 1 rfl hc1 dX6_holdsAt_10 ?_
  obtain ⟨hc2, h⟩ := h
  subst hsz; subst hA; subst hQ
  exact m_zret C0 hr hM hc2 () h rfl dX6_holdsAt_11
abbrev rm_X6_numberAt : Room := { frames := 0, cells := 0, slots := 0, locals := 0 }
set_option maxRecDepth 100000 in
set_option maxHeartbeats 4000000 in
theorem ct_X6_numberAt (l : Launch) (D : va_G) (cI cJ cZ : ClassId) (h0 : Nat) (r0 : Nat → Nat) (A_0_2_things : (Nat → Int32)) (x1 : Int32) (x2 : Int32) (sz : Nat) (K : Int32 → Prop) (h : wp_X6_numberAt x1 x2 A_0_2_things K) : Met l yX6_numberAt wsX6_numberAt rm_X6_numberAt (va_Pc [.ref h0, .int x1, .int x2] (WX D cI cJ cZ [(h0, .inr (5, oX6 r0 )), ((r0 2), .inl (cI, 30, .inl A_0_2_things))] sz)) (va_Qi (fun (r : Int32) (_ : Unit) => K r ) (fun (_ : Unit) t => WY D (va_A [(h0, .inr (5, oX6 r0 )), ((r0 2), .inl (cI, 30, .inl A_0_2_things))] sz) [(h0, .inr (5, oX6 r0 )), ((r0 2), .inl (cI, 30, .inl A_0_2_things))] t) (va_A [(h0, .inr (5, oX6 r0 )), ((r0 2), .inl (cI, 30, .inl A_0_2_things))] sz)) 0 0 (va_A [(h0, .inr (5, oX6 r0 )), ((r0 2), .inl (cI, 30, .inl A_0_2_things))] sz) := by
  refine m_met (own := RX6) (cc := cX6_numberAt) (maxL := 3) (ret := some .int) [.ref h0, .int x1, .int x2] [(0, .ref h0), (1, .int x1), (2, .int x2)] (by decide) rfl rfl (Nat.le_of_ble_eq_true rfl) rfl ?_
  intro p e s m args below meth c Q A hQ hA C0 hr hnm hsz hM ls hl
  have hx := C0.1
  have hb := C0.2.1
  have hown := C0.2.2.2.1
  unfold wp_X6_numberAt at h
  refine lv_aload_n hx hb dX6_numberAt_0 rfl (lv_at hl 0 rfl) ?_
  refine m_get (C := RX6) (T := TX6) (N := 4) (ci := 5) (ref := "LoweredPowers$Racks") (v := .ref (r0 2)) C0 hM 0 rfl rfl kt_X6_numberAt_X6 2 (by decide) kw_X6_numberAt_1 rfl rfl dX6_numberAt_1 ?_
  refine lv_iload_n hx hb dX6_numberAt_4 rfl (lv_at hl 1 rfl) ?_
  refine lv_bipush (v := (10 : Int32)) hx hb dX6_numberAt_5 (by decide) ?_
  refine lv_imul hx hb dX6_numberAt_7 ?_
  refine lv_iload_n hx hb dX6_numberAt_8 rfl (lv_at hl 2 rfl) ?_
  refine lv_iadd hx hb dX6_numberAt_9 ?_
  obtain ⟨hc1, h⟩ := h
  refine m_iald C0 hM 1 rfl hc1 dX6_numberAt_10 ?_
  subst hsz; subst hA; subst hQ
  exact m_iret C0 hr hM () h rfl dX6_numberAt_11
abbrev rm_X6_copyTo : Room := { frames := 0, cells := 0, slots := 0, locals := 0 }
set_option maxRecDepth 100000 in
set_option maxHeartbeats 4000000 in
theorem ct_X6_copyTo (l : Launch) (D : va_G) (cI cJ cZ : ClassId) (h0 : Nat) (r0 : Nat → Nat) (A_0_0_kinds : (Nat → Int32)) (A_0_1_sizes : (Nat → Int32)) (A_0_2_things : (Nat → Int32)) (A_0_3_full : (Nat → Int32)) (x1 : Int32) (x2 : Int32) (sz : Nat) (K : (Nat → Int32) → (Nat → Int32) → (Nat → Int32) → (Nat → Int32) → Prop) (h : wp_X6_copyTo x1 x2 A_0_0_kinds A_0_1_sizes A_0_2_things A_0_3_full K) : Met l yX6_copyTo wsX6_copyTo rm_X6_copyTo (va_Pc [.ref h0, .int x1, .int x2] (WX D cI cJ cZ [(h0, .inr (5, oX6 r0 )), ((r0 0), .inl (cI, 3, .inl A_0_0_kinds)), ((r0 1), .inl (cI, 3, .inl A_0_1_sizes)), ((r0 2), .inl (cI, 30, .inl A_0_2_things)), ((r0 3), .inl (cZ, 30, .inl A_0_3_full))] sz)) (va_Qv (fun (u : (Nat → Int32) × (Nat → Int32) × (Nat → Int32) × (Nat → Int32)) => K u.1 u.2.1 u.2.2.1 u.2.2.2) (fun (u : (Nat → Int32) × (Nat → Int32) × (Nat → Int32) × (Nat → Int32)) t => WY D (va_A [(h0, .inr (5, oX6 r0 )), ((r0 0), .inl (cI, 3, .inl A_0_0_kinds)), ((r0 1), .inl (cI, 3, .inl A_0_1_sizes)), ((r0 2), .inl (cI, 30, .inl A_0_2_things)), ((r0 3), .inl (cZ, 30, .inl A_0_3_full))] sz) [(h0, .inr (5, oX6 r0 )), ((r0 0), .inl (cI, 3, .inl u.1)), ((r0 1), .inl (cI, 3, .inl u.2.1)), ((r0 2), .inl (cI, 30, .inl u.2.2.1)), ((r0 3), .inl (cZ, 30, .inl u.2.2.2))] t) (va_A [(h0, .inr (5, oX6 r0 )), ((r0 0), .inl (cI, 3, .inl A_0_0_kinds)), ((r0 1), .inl (cI, 3, .inl A_0_1_sizes)), ((r0 2), .inl (cI, 30, .inl A_0_2_things)), ((r0 3), .inl (cZ, 30, .inl A_0_3_full))] sz)) 0 0 (va_A [(h0, .inr (5, oX6 r0 )), ((r0 0), .inl (cI, 3, .inl A_0_0_kinds)), ((r0 1), .inl (cI, 3, .inl A_0_1_sizes)), ((r0 2), .inl (cI, 30, .inl A_0_2_things)), ((r0 3), .inl (cZ, 30, .inl A_0_3_full))] sz) := by
  refine m_met (own := RX6) (cc := cX6_copyTo) (maxL := 4) (ret := none) [.ref h0, .int x1, .int x2] [(0, .ref h0), (1, .int x1), (2, .int x2)] (by decide) rfl rfl (Nat.le_of_ble_eq_true rfl) rfl ?_
  intro p e s m args below meth c Q A hQ hA C0 hr hnm hsz hM ls hl
  have hx := C0.1
  have hb := C0.2.1
  have hown := C0.2.2.2.1
  have lq26 : ∀ (k26 : Nat) (x3 : Int32) (A_0_0_kinds : (Nat → Int32)) (A_0_1_sizes : (Nat → Int32)) (A_0_2_things : (Nat → Int32)) (A_0_3_full : (Nat → Int32)) (H : Heap) (locs : List Loc) (ls : Array Slot) , lp_X6_copyTo_26 x1 x2 K k26 x3 A_0_0_kinds A_0_1_sizes A_0_2_things A_0_3_full → MW D A s.heap [(h0, .inr (5, oX6 r0 )), ((r0 0), .inl (cI, 3, .inl A_0_0_kinds)), ((r0 1), .inl (cI, 3, .inl A_0_1_sizes)), ((r0 2), .inl (cI, 30, .inl A_0_2_things)), ((r0 3), .inl (cZ, 30, .inl A_0_3_full))] H locs → lv_has ls 4 [(0, .ref h0), (1, .int x1), (2, .int x2), (3, .int x3)] → W p l e rm_X6_copyTo s m args below meth c H locs 0 0 Q (F0 m 26 ls []) := by
    intro k26
    induction k26 with
    | zero =>
      intro x3 A_0_0_kinds A_0_1_sizes A_0_2_things A_0_3_full H locs ls h
      unfold lp_X6_copyTo_26 at h
      exact h.elim
    | succ k26 ih26 =>
      intro x3 A_0_0_kinds A_0_1_sizes A_0_2_things A_0_3_full H locs ls h hM hl
      unfold lp_X6_copyTo_26 at h
      refine lv_iload_n hx hb dX6_copyTo_26 rfl (lv_at hl 3 rfl) ?_
      refine lv_bipush (v := (10 : Int32)) hx hb dX6_copyTo_27 (by decide) ?_
      refine lv_icmp_ge (tgt := 82) hx hb dX6_copyTo_29 (by decide) (fun hq => ?_) (fun hq => ?_)
      · have h := h.1 hq
        subst hsz; subst hA; subst hQ
        exact m_vret C0 hr hM (A_0_0_kinds, A_0_1_sizes, A_0_2_things, A_0_3_full) h rfl dX6_copyTo_82
      · have h := h.2 hq
        refine lv_aload_n hx hb dX6_copyTo_32 rfl (lv_at hl 0 rfl) ?_
        refine m_get (C := RX6) (T := TX6) (N := 4) (ci := 5) (ref := "LoweredPowers$Racks") (v := .ref (r0 2)) C0 hM 0 rfl rfl kt_X6_copyTo_X6 2 (by decide) kw_X6_copyTo_3 rfl rfl dX6_copyTo_33 ?_
        refine lv_iload_n hx hb dX6_copyTo_36 rfl (lv_at hl 2 rfl) ?_
        refine lv_bipush (v := (10 : Int32)) hx hb dX6_copyTo_37 (by decide) ?_
        refine lv_imul hx hb dX6_copyTo_39 ?_
        refine lv_iload_n hx hb dX6_copyTo_40 rfl (lv_at hl 3 rfl) ?_
        refine lv_iadd hx hb dX6_copyTo_41 ?_
        refine lv_aload_n hx hb dX6_copyTo_42 rfl (lv_at hl 0 rfl) ?_
        refine m_get (C := RX6) (T := TX6) (N := 4) (ci := 5) (ref := "LoweredPowers$Racks") (v := .ref (r0 2)) C0 hM 0 rfl rfl kt_X6_copyTo_X6 2 (by decide) kw_X6_copyTo_3 rfl rfl dX6_copyTo_43 ?_
        refine lv_iload_n hx hb dX6_copyTo_46 rfl (lv_at hl 1 rfl) ?_
        refine lv_bipush (v := (10 : Int32)) hx hb dX6_copyTo_47 (by decide) ?_
        refine lv_imul hx hb dX6_copyTo_49 ?_
        refine lv_iload_n hx hb dX6_copyTo_50 rfl (lv_at hl 3 rfl) ?_
        refine lv_iadd hx hb dX6_copyTo_51 ?_
        obtain ⟨hc1, h⟩ := h
        refine m_iald C0 hM 3 rfl hc1 dX6_copyTo_52 ?_
        refine lv_topi (fun y2 ey2 => ?_)
        have h := h y2 ey2
        obtain ⟨hc3, h⟩ := h
        refine m_iast (ws' := [(h0, .inr (5, oX6 r0 )), ((r0 0), .inl (cI, 3, .inl A_0_0_kinds)), ((r0 1), .inl (cI, 3, .inl A_0_1_sizes)), ((r0 2), .inl (cI, 30, .inl (upd A_0_2_things (((x2 * (10 : Int32)) + x3)).toNatClampNeg y2))), ((r0 3), .inl (cZ, 30, .inl A_0_3_full))]) C0 hM 3 rfl hc3 rfl dX6_copyTo_53 (fun H locs hM => ?_)
        refine lv_aload_n hx hb dX6_copyTo_54 rfl (lv_at hl 0 rfl) ?_
        refine m_get (C := RX6) (T := TX6) (N := 4) (ci := 5) (ref := "LoweredPowers$Racks") (v := .ref (r0 3)) C0 hM 0 rfl rfl kt_X6_copyTo_X6 3 (by decide) kw_X6_copyTo_4 rfl rfl dX6_copyTo_55 ?_
        refine lv_iload_n hx hb dX6_copyTo_58 rfl (lv_at hl 2 rfl) ?_
        refine lv_bipush (v := (10 : Int32)) hx hb dX6_copyTo_59 (by decide) ?_
        refine lv_imul hx hb dX6_copyTo_61 ?_
        refine lv_iload_n hx hb dX6_copyTo_62 rfl (lv_at hl 3 rfl) ?_
        refine lv_iadd hx hb dX6_copyTo_63 ?_
        refine lv_aload_n hx hb dX6_copyTo_64 rfl (lv_at hl 0 rfl) ?_
        refine m_get (C := RX6) (T := TX6) (N := 4) (ci := 5) (ref := "LoweredPowers$Racks") (v := .ref (r0 3)) C0 hM 0 rfl rfl kt_X6_copyTo_X6 3 (by decide) kw_X6_copyTo_4 rfl rfl dX6_copyTo_65 ?_
        refine lv_iload_n hx hb dX6_copyTo_68 rfl (lv_at hl 1 rfl) ?_
        refine lv_bipush (v := (10 : Int32)) hx hb dX6_copyTo_69 (by decide) ?_
        refine lv_imul hx hb dX6_copyTo_71 ?_
        refine lv_iload_n hx hb dX6_copyTo_72 rfl (lv_at hl 3 rfl) ?_
        refine lv_iadd hx hb dX6_copyTo_73 ?_
        refine m_zald C0 hM 4 rfl hc1 dX6_copyTo_74 ?_
        refine lv_topi (fun y4 ey4 => ?_)
        have h := h y4 ey4
        refine m_zast (ws' := [(h0, .inr (5, oX6 r0 )), ((r0 0), .inl (cI, 3, .inl A_0_0_kinds)), ((r0 1), .inl (cI, 3, .inl A_0_1_sizes)), ((r0 2), .inl (cI, 30, .inl (upd A_0_2_things (((x2 * (10 : Int32)) + x3)).toNatClampNeg y2))), ((r0 3), .inl (cZ, 30, .inl (upd A_0_3_full (((x2 * (10 : Int32)) + x3)).toNatClampNeg (vp_nar .boolean y4))))]) C0 hM 4 rfl hc3 rfl dX6_copyTo_75 (fun H locs hM => ?_)
        refine lv_iinc (v := (x3 + (1 : Int32))) (lv' := [(3, .int (x3 + (1 : Int32))), (0, .ref h0), (1, .int x1), (2, .int x2)]) hx hb dX6_copyTo_76 hl (k := 3) rfl rfl (by decide) rfl (fun ls hl => ?_)
        refine lv_goto (tgt := 26) hx hb dX6_copyTo_79 (by decide) ?_
        exact ih26 _ _ _ _ _ _ _ _ h hM (lv_sub hl [1, 2, 3, 0] rfl)
  unfold wp_X6_copyTo at h
  refine lv_aload_n hx hb dX6_copyTo_0 rfl (lv_at hl 0 rfl) ?_
  refine m_get (C := RX6) (T := TX6) (N := 4) (ci := 5) (ref := "LoweredPowers$Racks") (v := .ref (r0 0)) C0 hM 0 rfl rfl kt_X6_copyTo_X6 0 (by decide) kw_X6_copyTo_1 rfl rfl dX6_copyTo_1 ?_
  refine lv_iload_n hx hb dX6_copyTo_4 rfl (lv_at hl 2 rfl) ?_
  refine lv_aload_n hx hb dX6_copyTo_5 rfl (lv_at hl 0 rfl) ?_
  refine m_get (C := RX6) (T := TX6) (N := 4) (ci := 5) (ref := "LoweredPowers$Racks") (v := .ref (r0 0)) C0 hM 0 rfl rfl kt_X6_copyTo_X6 0 (by decide) kw_X6_copyTo_1 rfl rfl dX6_copyTo_6 ?_
  refine lv_iload_n hx hb dX6_copyTo_9 rfl (lv_at hl 1 rfl) ?_
  obtain ⟨hc5, h⟩ := h
  refine m_iald C0 hM 1 rfl hc5 dX6_copyTo_10 ?_
  refine lv_topi (fun y6 ey6 => ?_)
  have h := h y6 ey6
  obtain ⟨hc7, h⟩ := h
  refine m_iast (ws' := [(h0, .inr (5, oX6 r0 )), ((r0 0), .inl (cI, 3, .inl (upd A_0_0_kinds (x2).toNatClampNeg y6))), ((r0 1), .inl (cI, 3, .inl A_0_1_sizes)), ((r0 2), .inl (cI, 30, .inl A_0_2_things)), ((r0 3), .inl (cZ, 30, .inl A_0_3_full))]) C0 hM 1 rfl hc7 rfl dX6_copyTo_11 (fun H locs hM => ?_)
  refine lv_aload_n hx hb dX6_copyTo_12 rfl (lv_at hl 0 rfl) ?_
  refine m_get (C := RX6) (T := TX6) (N := 4) (ci := 5) (ref := "LoweredPowers$Racks") (v := .ref (r0 1)) C0 hM 0 rfl rfl kt_X6_copyTo_X6 1 (by decide) kw_X6_copyTo_2 rfl rfl dX6_copyTo_13 ?_
  refine lv_iload_n hx hb dX6_copyTo_16 rfl (lv_at hl 2 rfl) ?_
  refine lv_aload_n hx hb dX6_copyTo_17 rfl (lv_at hl 0 rfl) ?_
  refine m_get (C := RX6) (T := TX6) (N := 4) (ci := 5) (ref := "LoweredPowers$Racks") (v := .ref (r0 1)) C0 hM 0 rfl rfl kt_X6_copyTo_X6 1 (by decide) kw_X6_copyTo_2 rfl rfl dX6_copyTo_18 ?_
  refine lv_iload_n hx hb dX6_copyTo_21 rfl (lv_at hl 1 rfl) ?_
  refine m_iald C0 hM 2 rfl hc5 dX6_copyTo_22 ?_
  refine lv_topi (fun y8 ey8 => ?_)
  have h := h y8 ey8
  refine m_iast (ws' := [(h0, .inr (5, oX6 r0 )), ((r0 0), .inl (cI, 3, .inl (upd A_0_0_kinds (x2).toNatClampNeg y6))), ((r0 1), .inl (cI, 3, .inl (upd A_0_1_sizes (x2).toNatClampNeg y8))), ((r0 2), .inl (cI, 30, .inl A_0_2_things)), ((r0 3), .inl (cZ, 30, .inl A_0_3_full))]) C0 hM 2 rfl hc7 rfl dX6_copyTo_23 (fun H locs hM => ?_)
  refine lv_iconst (v := (0 : Int32)) hx hb dX6_copyTo_24 (by decide) ?_
  refine lv_istore_n (lv' := [(3, .int (0 : Int32)), (0, .ref h0), (1, .int x1), (2, .int x2)]) hx hb dX6_copyTo_25 rfl hl (by decide) rfl (fun ls hl => ?_)
  obtain ⟨k0, h⟩ := h
  exact lq26 k0 _ _ _ _ _ _ _ _ h hM (lv_sub hl [1, 2, 3, 0] rfl)
abbrev rm_X9_become : Room := { frames := 3, cells := 0, slots := 0, locals := 68 }
set_option maxRecDepth 100000 in
set_option maxHeartbeats 4000000 in
theorem ct_X9_become (l : Launch) (D : va_G) (cI cJ cZ : ClassId) (h0 : Nat) (h1 : Nat) (r0 : Nat → Nat) (r0_1 : Nat → Nat) (r0_2 : Nat → Nat) (r0_2_0 : Nat → Nat) (r0_3 : Nat → Nat) (r1 : Nat → Nat) (r1_1 : Nat → Nat) (r1_2 : Nat → Nat) (r1_2_0 : Nat → Nat) (r1_3 : Nat → Nat) (A_0_0_f : (Nat → Int32)) (A_0_1_0_numbers : (Nat → Int32)) (I_0_2_top : Int32) (A_0_2_0_0_numbers : (Nat → Int32)) (A_0_2_1_b : (Nat → Int32)) (I_0_3_size : Int32) (A_0_3_0_kinds : (Nat → Int32)) (A_0_3_1_amounts : (Nat → Int32)) (A_1_0_f : (Nat → Int32)) (A_1_1_0_numbers : (Nat → Int32)) (I_1_2_top : Int32) (A_1_2_0_0_numbers : (Nat → Int32)) (A_1_2_1_b : (Nat → Int32)) (I_1_3_size : Int32) (A_1_3_0_kinds : (Nat → Int32)) (A_1_3_1_amounts : (Nat → Int32)) (sz : Nat) (K : (Nat → Int32) → (Nat → Int32) → Int32 → (Nat → Int32) → (Nat → Int32) → Int32 → (Nat → Int32) → (Nat → Int32) → Prop) (h : wp_X9_become A_0_0_f A_0_1_0_numbers I_0_2_top A_0_2_0_0_numbers A_0_2_1_b I_0_3_size A_0_3_0_kinds A_0_3_1_amounts A_1_0_f A_1_1_0_numbers I_1_2_top A_1_2_0_0_numbers A_1_2_1_b I_1_3_size A_1_3_0_kinds A_1_3_1_amounts K) : Met l yX9_become wsX9_become rm_X9_become (va_Pc [.ref h0, .ref h1] (WX D cI cJ cZ [(h0, .inr (8, oX9 r0 )), ((r0 0), .inl (cI, 5, .inl A_0_0_f)), ((r0 1), .inr (3, oX4 r0_1 )), ((r0_1 0), .inl (cI, 75, .inl A_0_1_0_numbers)), ((r0 2), .inr (0, oX0 r0_2 I_0_2_top)), ((r0_2 0), .inr (3, oX4 r0_2_0 )), ((r0_2_0 0), .inl (cI, 75, .inl A_0_2_0_0_numbers)), ((r0_2 1), .inl (cI, 9, .inl A_0_2_1_b)), ((r0 3), .inr (4, oX5 r0_3 I_0_3_size)), ((r0_3 0), .inl (cI, 8, .inl A_0_3_0_kinds)), ((r0_3 1), .inl (cI, 8, .inl A_0_3_1_amounts)), (h1, .inr (8, oX9 r1 )), ((r1 0), .inl (cI, 5, .inl A_1_0_f)), ((r1 1), .inr (3, oX4 r1_1 )), ((r1_1 0), .inl (cI, 75, .inl A_1_1_0_numbers)), ((r1 2), .inr (0, oX0 r1_2 I_1_2_top)), ((r1_2 0), .inr (3, oX4 r1_2_0 )), ((r1_2_0 0), .inl (cI, 75, .inl A_1_2_0_0_numbers)), ((r1_2 1), .inl (cI, 9, .inl A_1_2_1_b)), ((r1 3), .inr (4, oX5 r1_3 I_1_3_size)), ((r1_3 0), .inl (cI, 8, .inl A_1_3_0_kinds)), ((r1_3 1), .inl (cI, 8, .inl A_1_3_1_amounts))] sz)) (va_Qv (fun (u : (Nat → Int32) × (Nat → Int32) × Int32 × (Nat → Int32) × (Nat → Int32) × Int32 × (Nat → Int32) × (Nat → Int32)) => K u.1 u.2.1 u.2.2.1 u.2.2.2.1 u.2.2.2.2.1 u.2.2.2.2.2.1 u.2.2.2.2.2.2.1 u.2.2.2.2.2.2.2) (fun (u : (Nat → Int32) × (Nat → Int32) × Int32 × (Nat → Int32) × (Nat → Int32) × Int32 × (Nat → Int32) × (Nat → Int32)) t => WY D (va_A [(h0, .inr (8, oX9 r0 )), ((r0 0), .inl (cI, 5, .inl A_0_0_f)), ((r0 1), .inr (3, oX4 r0_1 )), ((r0_1 0), .inl (cI, 75, .inl A_0_1_0_numbers)), ((r0 2), .inr (0, oX0 r0_2 I_0_2_top)), ((r0_2 0), .inr (3, oX4 r0_2_0 )), ((r0_2_0 0), .inl (cI, 75, .inl A_0_2_0_0_numbers)), ((r0_2 1), .inl (cI, 9, .inl A_0_2_1_b)), ((r0 3), .inr (4, oX5 r0_3 I_0_3_size)), ((r0_3 0), .inl (cI, 8, .inl A_0_3_0_kinds)), ((r0_3 1), .inl (cI, 8, .inl A_0_3_1_amounts)), (h1, .inr (8, oX9 r1 )), ((r1 0), .inl (cI, 5, .inl A_1_0_f)), ((r1 1), .inr (3, oX4 r1_1 )), ((r1_1 0), .inl (cI, 75, .inl A_1_1_0_numbers)), ((r1 2), .inr (0, oX0 r1_2 I_1_2_top)), ((r1_2 0), .inr (3, oX4 r1_2_0 )), ((r1_2_0 0), .inl (cI, 75, .inl A_1_2_0_0_numbers)), ((r1_2 1), .inl (cI, 9, .inl A_1_2_1_b)), ((r1 3), .inr (4, oX5 r1_3 I_1_3_size)), ((r1_3 0), .inl (cI, 8, .inl A_1_3_0_kinds)), ((r1_3 1), .inl (cI, 8, .inl A_1_3_1_amounts))] sz) [(h0, .inr (8, oX9 r0 )), ((r0 0), .inl (cI, 5, .inl u.1)), ((r0 1), .inr (3, oX4 r0_1 )), ((r0_1 0), .inl (cI, 75, .inl u.2.1)), ((r0 2), .inr (0, oX0 r0_2 u.2.2.1)), ((r0_2 0), .inr (3, oX4 r0_2_0 )), ((r0_2_0 0), .inl (cI, 75, .inl u.2.2.2.1)), ((r0_2 1), .inl (cI, 9, .inl u.2.2.2.2.1)), ((r0 3), .inr (4, oX5 r0_3 u.2.2.2.2.2.1)), ((r0_3 0), .inl (cI, 8, .inl u.2.2.2.2.2.2.1)), ((r0_3 1), .inl (cI, 8, .inl u.2.2.2.2.2.2.2)), (h1, .inr (8, oX9 r1 )), ((r1 0), .inl (cI, 5, .inl A_1_0_f)), ((r1 1), .inr (3, oX4 r1_1 )), ((r1_1 0), .inl (cI, 75, .inl A_1_1_0_numbers)), ((r1 2), .inr (0, oX0 r1_2 I_1_2_top)), ((r1_2 0), .inr (3, oX4 r1_2_0 )), ((r1_2_0 0), .inl (cI, 75, .inl A_1_2_0_0_numbers)), ((r1_2 1), .inl (cI, 9, .inl A_1_2_1_b)), ((r1 3), .inr (4, oX5 r1_3 I_1_3_size)), ((r1_3 0), .inl (cI, 8, .inl A_1_3_0_kinds)), ((r1_3 1), .inl (cI, 8, .inl A_1_3_1_amounts))] t) (va_A [(h0, .inr (8, oX9 r0 )), ((r0 0), .inl (cI, 5, .inl A_0_0_f)), ((r0 1), .inr (3, oX4 r0_1 )), ((r0_1 0), .inl (cI, 75, .inl A_0_1_0_numbers)), ((r0 2), .inr (0, oX0 r0_2 I_0_2_top)), ((r0_2 0), .inr (3, oX4 r0_2_0 )), ((r0_2_0 0), .inl (cI, 75, .inl A_0_2_0_0_numbers)), ((r0_2 1), .inl (cI, 9, .inl A_0_2_1_b)), ((r0 3), .inr (4, oX5 r0_3 I_0_3_size)), ((r0_3 0), .inl (cI, 8, .inl A_0_3_0_kinds)), ((r0_3 1), .inl (cI, 8, .inl A_0_3_1_amounts)), (h1, .inr (8, oX9 r1 )), ((r1 0), .inl (cI, 5, .inl A_1_0_f)), ((r1 1), .inr (3, oX4 r1_1 )), ((r1_1 0), .inl (cI, 75, .inl A_1_1_0_numbers)), ((r1 2), .inr (0, oX0 r1_2 I_1_2_top)), ((r1_2 0), .inr (3, oX4 r1_2_0 )), ((r1_2_0 0), .inl (cI, 75, .inl A_1_2_0_0_numbers)), ((r1_2 1), .inl (cI, 9, .inl A_1_2_1_b)), ((r1 3), .inr (4, oX5 r1_3 I_1_3_size)), ((r1_3 0), .inl (cI, 8, .inl A_1_3_0_kinds)), ((r1_3 1), .inl (cI, 8, .inl A_1_3_1_amounts))] sz)) 0 0 (va_A [(h0, .inr (8, oX9 r0 )), ((r0 0), .inl (cI, 5, .inl A_0_0_f)), ((r0 1), .inr (3, oX4 r0_1 )), ((r0_1 0), .inl (cI, 75, .inl A_0_1_0_numbers)), ((r0 2), .inr (0, oX0 r0_2 I_0_2_top)), ((r0_2 0), .inr (3, oX4 r0_2_0 )), ((r0_2_0 0), .inl (cI, 75, .inl A_0_2_0_0_numbers)), ((r0_2 1), .inl (cI, 9, .inl A_0_2_1_b)), ((r0 3), .inr (4, oX5 r0_3 I_0_3_size)), ((r0_3 0), .inl (cI, 8, .inl A_0_3_0_kinds)), ((r0_3 1), .inl (cI, 8, .inl A_0_3_1_amounts)), (h1, .inr (8, oX9 r1 )), ((r1 0), .inl (cI, 5, .inl A_1_0_f)), ((r1 1), .inr (3, oX4 r1_1 )), ((r1_1 0), .inl (cI, 75, .inl A_1_1_0_numbers)), ((r1 2), .inr (0, oX0 r1_2 I_1_2_top)), ((r1_2 0), .inr (3, oX4 r1_2_0 )), ((r1_2_0 0), .inl (cI, 75, .inl A_1_2_0_0_numbers)), ((r1_2 1), .inl (cI, 9, .inl A_1_2_1_b)), ((r1 3), .inr (4, oX5 r1_3 I_1_3_size)), ((r1_3 0), .inl (cI, 8, .inl A_1_3_0_kinds)), ((r1_3 1), .inl (cI, 8, .inl A_1_3_1_amounts))] sz) := by
  refine m_met (own := RX9) (cc := cX9_become) (maxL := 2) (ret := none) [.ref h0, .ref h1] [(0, .ref h0), (1, .ref h1)] (by decide) rfl rfl (Nat.le_of_ble_eq_true rfl) rfl ?_
  intro p e s m args below meth c Q A hQ hA C0 hr hnm hsz hM ls hl
  have hx := C0.1
  have hb := C0.2.1
  have hown := C0.2.2.2.1
  unfold wp_X9_become at h
  refine lv_aload_n hx hb dX9_become_0 rfl (lv_at hl 1 rfl) ?_
  refine m_get (C := RX9) (T := TX9) (N := 4) (ci := 8) (ref := "LoweredPowers$State") (v := .ref (r1 0)) C0 hM 11 rfl rfl kt_X9_become_X9 0 (by decide) kw_X9_become_1 rfl rfl dX9_become_1 ?_
  refine lv_iconst (v := (0 : Int32)) hx hb dX9_become_4 (by decide) ?_
  refine lv_aload_n hx hb dX9_become_5 rfl (lv_at hl 0 rfl) ?_
  refine m_get (C := RX9) (T := TX9) (N := 4) (ci := 8) (ref := "LoweredPowers$State") (v := .ref (r0 0)) C0 hM 0 rfl rfl kt_X9_become_X9 0 (by decide) kw_X9_become_1 rfl rfl dX9_become_6 ?_
  refine lv_iconst (v := (0 : Int32)) hx hb dX9_become_9 (by decide) ?_
  refine lv_iconst (v := (5 : Int32)) hx hb dX9_become_10 (by decide) ?_
  refine m_copyi (ws' := [(h0, .inr (8, oX9 r0 )), ((r0 0), .inl (cI, 5, .inl (va_cpy A_1_0_f A_0_0_f ((0 : Int32)).toNatClampNeg ((0 : Int32)).toNatClampNeg ((5 : Int32)).toNatClampNeg))), ((r0 1), .inr (3, oX4 r0_1 )), ((r0_1 0), .inl (cI, 75, .inl A_0_1_0_numbers)), ((r0 2), .inr (0, oX0 r0_2 I_0_2_top)), ((r0_2 0), .inr (3, oX4 r0_2_0 )), ((r0_2_0 0), .inl (cI, 75, .inl A_0_2_0_0_numbers)), ((r0_2 1), .inl (cI, 9, .inl A_0_2_1_b)), ((r0 3), .inr (4, oX5 r0_3 I_0_3_size)), ((r0_3 0), .inl (cI, 8, .inl A_0_3_0_kinds)), ((r0_3 1), .inl (cI, 8, .inl A_0_3_1_amounts)), (h1, .inr (8, oX9 r1 )), ((r1 0), .inl (cI, 5, .inl A_1_0_f)), ((r1 1), .inr (3, oX4 r1_1 )), ((r1_1 0), .inl (cI, 75, .inl A_1_1_0_numbers)), ((r1 2), .inr (0, oX0 r1_2 I_1_2_top)), ((r1_2 0), .inr (3, oX4 r1_2_0 )), ((r1_2_0 0), .inl (cI, 75, .inl A_1_2_0_0_numbers)), ((r1_2 1), .inl (cI, 9, .inl A_1_2_1_b)), ((r1 3), .inr (4, oX5 r1_3 I_1_3_size)), ((r1_3 0), .inl (cI, 8, .inl A_1_3_0_kinds)), ((r1_3 1), .inl (cI, 8, .inl A_1_3_1_amounts))]) C0 hM hl.1 kw_X9_become_2 kw_X9_become_3 kw_X9_become_4 kw_X9_become_5 12 1 rfl rfl (by decide) (Nat.le_of_ble_eq_true rfl) (Nat.le_of_ble_eq_true rfl) rfl dX9_become_11 (fun H locs hM => ?_)
  refine lv_aload_n hx hb dX9_become_14 rfl (lv_at hl 0 rfl) ?_
  refine m_get (C := RX9) (T := TX9) (N := 4) (ci := 8) (ref := "LoweredPowers$State") (v := .ref (r0 1)) C0 hM 0 rfl rfl kt_X9_become_X9 1 (by decide) kw_X9_become_6 rfl rfl dX9_become_15 ?_
  refine lv_aload_n hx hb dX9_become_18 rfl (lv_at hl 1 rfl) ?_
  refine m_get (C := RX9) (T := TX9) (N := 4) (ci := 8) (ref := "LoweredPowers$State") (v := .ref (r1 1)) C0 hM 11 rfl rfl kt_X9_become_X9 1 (by decide) kw_X9_become_6 rfl rfl dX9_become_19 ?_
  refine m_callv (wc := [((r0 1), .inr (3, oX4 r0_1 )), ((r0_1 0), .inl (cI, 75, .inl A_0_1_0_numbers)), ((r1 1), .inr (3, oX4 r1_1 )), ((r1_1 0), .inl (cI, 75, .inl A_1_1_0_numbers))]) C0 hM [2, 3, 13, 14] rfl (m_runV (wc := [((r0 1), .inr (3, oX4 r0_1 )), ((r0_1 0), .inl (cI, 75, .inl A_0_1_0_numbers)), ((r1 1), .inr (3, oX4 r1_1 )), ((r1_1 0), .inl (cI, 75, .inl A_1_1_0_numbers))]) (As := [.ref (r1 1)]) (rest := []) (ci := 3) C0 hM (ct_X4_become l D cI cJ cZ (r0 1) (r1 1) r0_1 r1_1 A_0_1_0_numbers A_1_1_0_numbers _ _ h) [2, 3, 13, 14] rfl (by decide) gX9_become_X4_become rfl rfl rfl rfl rfl hd_X4_become ⟨Nat.le_of_ble_eq_true rfl, Nat.le_of_ble_eq_true rfl⟩ rfl hl.1 rfl (Nat.le_of_ble_eq_true rfl) dX9_become_22 ⟨Nat.le_of_ble_eq_true rfl, Nat.le_of_ble_eq_true rfl⟩) (fun u => [(h0, .inr (8, oX9 r0 )), ((r0 0), .inl (cI, 5, .inl (va_cpy A_1_0_f A_0_0_f ((0 : Int32)).toNatClampNeg ((0 : Int32)).toNatClampNeg ((5 : Int32)).toNatClampNeg))), ((r0 1), .inr (3, oX4 r0_1 )), ((r0_1 0), .inl (cI, 75, .inl u)), ((r0 2), .inr (0, oX0 r0_2 I_0_2_top)), ((r0_2 0), .inr (3, oX4 r0_2_0 )), ((r0_2_0 0), .inl (cI, 75, .inl A_0_2_0_0_numbers)), ((r0_2 1), .inl (cI, 9, .inl A_0_2_1_b)), ((r0 3), .inr (4, oX5 r0_3 I_0_3_size)), ((r0_3 0), .inl (cI, 8, .inl A_0_3_0_kinds)), ((r0_3 1), .inl (cI, 8, .inl A_0_3_1_amounts)), (h1, .inr (8, oX9 r1 )), ((r1 0), .inl (cI, 5, .inl A_1_0_f)), ((r1 1), .inr (3, oX4 r1_1 )), ((r1_1 0), .inl (cI, 75, .inl A_1_1_0_numbers)), ((r1 2), .inr (0, oX0 r1_2 I_1_2_top)), ((r1_2 0), .inr (3, oX4 r1_2_0 )), ((r1_2_0 0), .inl (cI, 75, .inl A_1_2_0_0_numbers)), ((r1_2 1), .inl (cI, 9, .inl A_1_2_1_b)), ((r1 3), .inr (4, oX5 r1_3 I_1_3_size)), ((r1_3 0), .inl (cI, 8, .inl A_1_3_0_kinds)), ((r1_3 1), .inl (cI, 8, .inl A_1_3_1_amounts))]) (fun _ => rfl) (fun _ => rfl) (fun b1 H locs h hM => ?_)
  refine lv_aload_n hx hb dX9_become_25 rfl (lv_at hl 0 rfl) ?_
  refine m_get (C := RX9) (T := TX9) (N := 4) (ci := 8) (ref := "LoweredPowers$State") (v := .ref (r0 2)) C0 hM 0 rfl rfl kt_X9_become_X9 2 (by decide) kw_X9_become_7 rfl rfl dX9_become_26 ?_
  refine lv_aload_n hx hb dX9_become_29 rfl (lv_at hl 1 rfl) ?_
  refine m_get (C := RX9) (T := TX9) (N := 4) (ci := 8) (ref := "LoweredPowers$State") (v := .ref (r1 2)) C0 hM 11 rfl rfl kt_X9_become_X9 2 (by decide) kw_X9_become_7 rfl rfl dX9_become_30 ?_
  refine m_callv2 (wc := [((r0 2), .inr (0, oX0 r0_2 I_0_2_top)), ((r0_2 0), .inr (3, oX4 r0_2_0 )), ((r0_2_0 0), .inl (cI, 75, .inl A_0_2_0_0_numbers)), ((r0_2 1), .inl (cI, 9, .inl A_0_2_1_b)), ((r1 2), .inr (0, oX0 r1_2 I_1_2_top)), ((r1_2 0), .inr (3, oX4 r1_2_0 )), ((r1_2_0 0), .inl (cI, 75, .inl A_1_2_0_0_numbers)), ((r1_2 1), .inl (cI, 9, .inl A_1_2_1_b))]) C0 hM [4, 5, 6, 7, 15, 16, 17, 18] [0, 1, 2, 3, 8, 9, 10, 11, 12, 13, 14, 19, 20, 21] rfl (m_runV (wc := [((r0 2), .inr (0, oX0 r0_2 I_0_2_top)), ((r0_2 0), .inr (3, oX4 r0_2_0 )), ((r0_2_0 0), .inl (cI, 75, .inl A_0_2_0_0_numbers)), ((r0_2 1), .inl (cI, 9, .inl A_0_2_1_b)), ((r1 2), .inr (0, oX0 r1_2 I_1_2_top)), ((r1_2 0), .inr (3, oX4 r1_2_0 )), ((r1_2_0 0), .inl (cI, 75, .inl A_1_2_0_0_numbers)), ((r1_2 1), .inl (cI, 9, .inl A_1_2_1_b))]) (As := [.ref (r1 2)]) (rest := []) (ci := 0) C0 hM (ct_X0_become l D cI cJ cZ (r0 2) (r1 2) r0_2 r0_2_0 r1_2 r1_2_0 I_0_2_top A_0_2_0_0_numbers A_0_2_1_b I_1_2_top A_1_2_0_0_numbers A_1_2_1_b _ _ h) [4, 5, 6, 7, 15, 16, 17, 18] rfl (by decide) gX9_become_X0_become rfl rfl rfl rfl rfl hd_X0_become ⟨Nat.le_of_ble_eq_true rfl, Nat.le_of_ble_eq_true rfl⟩ rfl hl.1 rfl (Nat.le_of_ble_eq_true rfl) dX9_become_33 ⟨Nat.le_of_ble_eq_true rfl, Nat.le_of_ble_eq_true rfl⟩) (fun u => [(h0, .inr (8, oX9 r0 )), ((r0 0), .inl (cI, 5, .inl (va_cpy A_1_0_f A_0_0_f ((0 : Int32)).toNatClampNeg ((0 : Int32)).toNatClampNeg ((5 : Int32)).toNatClampNeg))), ((r0 1), .inr (3, oX4 r0_1 )), ((r0_1 0), .inl (cI, 75, .inl b1)), ((r0 2), .inr (0, oX0 r0_2 u.1)), ((r0_2 0), .inr (3, oX4 r0_2_0 )), ((r0_2_0 0), .inl (cI, 75, .inl u.2.1)), ((r0_2 1), .inl (cI, 9, .inl u.2.2)), ((r0 3), .inr (4, oX5 r0_3 I_0_3_size)), ((r0_3 0), .inl (cI, 8, .inl A_0_3_0_kinds)), ((r0_3 1), .inl (cI, 8, .inl A_0_3_1_amounts)), (h1, .inr (8, oX9 r1 )), ((r1 0), .inl (cI, 5, .inl A_1_0_f)), ((r1 1), .inr (3, oX4 r1_1 )), ((r1_1 0), .inl (cI, 75, .inl A_1_1_0_numbers)), ((r1 2), .inr (0, oX0 r1_2 I_1_2_top)), ((r1_2 0), .inr (3, oX4 r1_2_0 )), ((r1_2_0 0), .inl (cI, 75, .inl A_1_2_0_0_numbers)), ((r1_2 1), .inl (cI, 9, .inl A_1_2_1_b)), ((r1 3), .inr (4, oX5 r1_3 I_1_3_size)), ((r1_3 0), .inl (cI, 8, .inl A_1_3_0_kinds)), ((r1_3 1), .inl (cI, 8, .inl A_1_3_1_amounts))]) (fun _ => rfl) [(h0, .inr (8, oX9 r0 )), ((r0 0), .inl (cI, 5, .inl (va_cpy A_1_0_f A_0_0_f ((0 : Int32)).toNatClampNeg ((0 : Int32)).toNatClampNeg ((5 : Int32)).toNatClampNeg))), ((r0 1), .inr (3, oX4 r0_1 )), ((r0_1 0), .inl (cI, 75, .inl b1)), ((r0 3), .inr (4, oX5 r0_3 I_0_3_size)), ((r0_3 0), .inl (cI, 8, .inl A_0_3_0_kinds)), ((r0_3 1), .inl (cI, 8, .inl A_0_3_1_amounts)), (h1, .inr (8, oX9 r1 )), ((r1 0), .inl (cI, 5, .inl A_1_0_f)), ((r1 1), .inr (3, oX4 r1_1 )), ((r1_1 0), .inl (cI, 75, .inl A_1_1_0_numbers)), ((r1 3), .inr (4, oX5 r1_3 I_1_3_size)), ((r1_3 0), .inl (cI, 8, .inl A_1_3_0_kinds)), ((r1_3 1), .inl (cI, 8, .inl A_1_3_1_amounts))] (fun _ => rfl) rfl (fun _ => rfl) (show ∀ i, i < 22 → i ∈ ([4, 5, 6, 7, 15, 16, 17, 18] : List Nat) ∨ i ∈ ([0, 1, 2, 3, 8, 9, 10, 11, 12, 13, 14, 19, 20, 21] : List Nat) from by decide) (fun u H locs h hM => ?_)
  obtain ⟨b2, b3, b4⟩ := u
  dsimp only at h
  have hM : MW D A s.heap [(h0, .inr (8, oX9 r0 )), ((r0 0), .inl (cI, 5, .inl (va_cpy A_1_0_f A_0_0_f ((0 : Int32)).toNatClampNeg ((0 : Int32)).toNatClampNeg ((5 : Int32)).toNatClampNeg))), ((r0 1), .inr (3, oX4 r0_1 )), ((r0_1 0), .inl (cI, 75, .inl b1)), ((r0 2), .inr (0, oX0 r0_2 b2)), ((r0_2 0), .inr (3, oX4 r0_2_0 )), ((r0_2_0 0), .inl (cI, 75, .inl b3)), ((r0_2 1), .inl (cI, 9, .inl b4)), ((r0 3), .inr (4, oX5 r0_3 I_0_3_size)), ((r0_3 0), .inl (cI, 8, .inl A_0_3_0_kinds)), ((r0_3 1), .inl (cI, 8, .inl A_0_3_1_amounts)), (h1, .inr (8, oX9 r1 )), ((r1 0), .inl (cI, 5, .inl A_1_0_f)), ((r1 1), .inr (3, oX4 r1_1 )), ((r1_1 0), .inl (cI, 75, .inl A_1_1_0_numbers)), ((r1 2), .inr (0, oX0 r1_2 I_1_2_top)), ((r1_2 0), .inr (3, oX4 r1_2_0 )), ((r1_2_0 0), .inl (cI, 75, .inl A_1_2_0_0_numbers)), ((r1_2 1), .inl (cI, 9, .inl A_1_2_1_b)), ((r1 3), .inr (4, oX5 r1_3 I_1_3_size)), ((r1_3 0), .inl (cI, 8, .inl A_1_3_0_kinds)), ((r1_3 1), .inl (cI, 8, .inl A_1_3_1_amounts))] H locs := hM
  refine lv_aload_n hx hb dX9_become_36 rfl (lv_at hl 0 rfl) ?_
  refine m_get (C := RX9) (T := TX9) (N := 4) (ci := 8) (ref := "LoweredPowers$State") (v := .ref (r0 3)) C0 hM 0 rfl rfl kt_X9_become_X9 3 (by decide) kw_X9_become_8 rfl rfl dX9_become_37 ?_
  refine lv_aload_n hx hb dX9_become_40 rfl (lv_at hl 1 rfl) ?_
  refine m_get (C := RX9) (T := TX9) (N := 4) (ci := 8) (ref := "LoweredPowers$State") (v := .ref (r1 3)) C0 hM 11 rfl rfl kt_X9_become_X9 3 (by decide) kw_X9_become_8 rfl rfl dX9_become_41 ?_
  refine m_callv (wc := [((r0 3), .inr (4, oX5 r0_3 I_0_3_size)), ((r0_3 0), .inl (cI, 8, .inl A_0_3_0_kinds)), ((r0_3 1), .inl (cI, 8, .inl A_0_3_1_amounts)), ((r1 3), .inr (4, oX5 r1_3 I_1_3_size)), ((r1_3 0), .inl (cI, 8, .inl A_1_3_0_kinds)), ((r1_3 1), .inl (cI, 8, .inl A_1_3_1_amounts))]) C0 hM [8, 9, 10, 19, 20, 21] rfl (m_runV (wc := [((r0 3), .inr (4, oX5 r0_3 I_0_3_size)), ((r0_3 0), .inl (cI, 8, .inl A_0_3_0_kinds)), ((r0_3 1), .inl (cI, 8, .inl A_0_3_1_amounts)), ((r1 3), .inr (4, oX5 r1_3 I_1_3_size)), ((r1_3 0), .inl (cI, 8, .inl A_1_3_0_kinds)), ((r1_3 1), .inl (cI, 8, .inl A_1_3_1_amounts))]) (As := [.ref (r1 3)]) (rest := []) (ci := 4) C0 hM (ct_X5_become l D cI cJ cZ (r0 3) (r1 3) r0_3 r1_3 I_0_3_size A_0_3_0_kinds A_0_3_1_amounts I_1_3_size A_1_3_0_kinds A_1_3_1_amounts _ _ h) [8, 9, 10, 19, 20, 21] rfl (by decide) gX9_become_X5_become rfl rfl rfl rfl rfl hd_X5_become ⟨Nat.le_of_ble_eq_true rfl, Nat.le_of_ble_eq_true rfl⟩ rfl hl.1 rfl (Nat.le_of_ble_eq_true rfl) dX9_become_44 ⟨Nat.le_of_ble_eq_true rfl, Nat.le_of_ble_eq_true rfl⟩) (fun u => [(h0, .inr (8, oX9 r0 )), ((r0 0), .inl (cI, 5, .inl (va_cpy A_1_0_f A_0_0_f ((0 : Int32)).toNatClampNeg ((0 : Int32)).toNatClampNeg ((5 : Int32)).toNatClampNeg))), ((r0 1), .inr (3, oX4 r0_1 )), ((r0_1 0), .inl (cI, 75, .inl b1)), ((r0 2), .inr (0, oX0 r0_2 b2)), ((r0_2 0), .inr (3, oX4 r0_2_0 )), ((r0_2_0 0), .inl (cI, 75, .inl b3)), ((r0_2 1), .inl (cI, 9, .inl b4)), ((r0 3), .inr (4, oX5 r0_3 u.1)), ((r0_3 0), .inl (cI, 8, .inl u.2.1)), ((r0_3 1), .inl (cI, 8, .inl u.2.2)), (h1, .inr (8, oX9 r1 )), ((r1 0), .inl (cI, 5, .inl A_1_0_f)), ((r1 1), .inr (3, oX4 r1_1 )), ((r1_1 0), .inl (cI, 75, .inl A_1_1_0_numbers)), ((r1 2), .inr (0, oX0 r1_2 I_1_2_top)), ((r1_2 0), .inr (3, oX4 r1_2_0 )), ((r1_2_0 0), .inl (cI, 75, .inl A_1_2_0_0_numbers)), ((r1_2 1), .inl (cI, 9, .inl A_1_2_1_b)), ((r1 3), .inr (4, oX5 r1_3 I_1_3_size)), ((r1_3 0), .inl (cI, 8, .inl A_1_3_0_kinds)), ((r1_3 1), .inl (cI, 8, .inl A_1_3_1_amounts))]) (fun _ => rfl) (fun _ => rfl) (fun u H locs h hM => ?_)
  obtain ⟨b5, b6, b7⟩ := u
  dsimp only at h
  have hM : MW D A s.heap [(h0, .inr (8, oX9 r0 )), ((r0 0), .inl (cI, 5, .inl (va_cpy A_1_0_f A_0_0_f ((0 : Int32)).toNatClampNeg ((0 : Int32)).toNatClampNeg ((5 : Int32)).toNatClampNeg))), ((r0 1), .inr (3, oX4 r0_1 )), ((r0_1 0), .inl (cI, 75, .inl b1)), ((r0 2), .inr (0, oX0 r0_2 b2)), ((r0_2 0), .inr (3, oX4 r0_2_0 )), ((r0_2_0 0), .inl (cI, 75, .inl b3)), ((r0_2 1), .inl (cI, 9, .inl b4)), ((r0 3), .inr (4, oX5 r0_3 b5)), ((r0_3 0), .inl (cI, 8, .inl b6)), ((r0_3 1), .inl (cI, 8, .inl b7)), (h1, .inr (8, oX9 r1 )), ((r1 0), .inl (cI, 5, .inl A_1_0_f)), ((r1 1), .inr (3, oX4 r1_1 )), ((r1_1 0), .inl (cI, 75, .inl A_1_1_0_numbers)), ((r1 2), .inr (0, oX0 r1_2 I_1_2_top)), ((r1_2 0), .inr (3, oX4 r1_2_0 )), ((r1_2_0 0), .inl (cI, 75, .inl A_1_2_0_0_numbers)), ((r1_2 1), .inl (cI, 9, .inl A_1_2_1_b)), ((r1 3), .inr (4, oX5 r1_3 I_1_3_size)), ((r1_3 0), .inl (cI, 8, .inl A_1_3_0_kinds)), ((r1_3 1), .inl (cI, 8, .inl A_1_3_1_amounts))] H locs := hM
  subst hsz; subst hA; subst hQ
  exact m_vret C0 hr hM ((va_cpy A_1_0_f A_0_0_f ((0 : Int32)).toNatClampNeg ((0 : Int32)).toNatClampNeg ((5 : Int32)).toNatClampNeg), b1, b2, b3, b4, b5, b6, b7) h rfl dX9_become_47
